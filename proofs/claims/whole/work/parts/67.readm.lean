-- the reference's reader
def hr (tx : Nat → Nat) (n p : Nat) : Int32 := if p < n then nI (tx p) else -1
theorem here_eq {U : Nat → Int32} {tx : Nat → Nat} {n p : Nat} {g : Nat → Int32} {M : qM} (hT : TXT U tx n) (hM : M 33 = U) (h10 : g 10 = nI n) (h16 : g 16 = nI p) (hp : p ≤ n) : f_X12_here (ms M 25 g) = some (hr tx n p) := by
  have hn := hT.1
  unfold f_X12_here hr
  rw [ms_q, h10, h16]
  by_cases h : p < n
  · obtain ⟨t1, t2⟩ := hT.2 p h
    rw [if_neg (nI_ge h (by omega)), if_pos h, qrd_nI (by omega) (by decide), ms_ne (q := 25) (a := 33) _ _ (by decide), hM, t1]; rfl
  · rw [if_pos (nI_le (by omega) (by omega)), if_neg h]
theorem hr_eq {U : Nat → Int32} {tx : Nat → Nat} {n p ch : Nat} (hT : TXT U tx n) (hch : ch < 256) : (hr tx n p = nI ch) = (p < n ∧ tx p = ch) := by
  unfold hr
  apply propext
  by_cases h : p < n
  · have := (hT.2 p h).2
    rw [if_pos h, nI_eq (by omega) (by omega)]
    exact ⟨fun q => ⟨h, q⟩, fun q => q.2⟩
  · rw [if_neg h]
    exact ⟨fun q => absurd q.symm (nI_m1 (by omega)), fun q => absurd q.1 h⟩
theorem hr_dig {U : Nat → Int32} {tx : Nat → Nat} {n p : Nat} (hT : TXT U tx n) : inb (hr tx n p) (nI 48) (nI 57) = decide (isD tx n p) := by
  rw [Bool.eq_iff_iff, inb_iff, decide_eq_true_iff, nI_toInt (by omega), nI_toInt (by omega)]
  unfold hr isD
  by_cases h : p < n
  · have := (hT.2 p h).2
    rw [if_pos h, nI_toInt (by omega)]
    omega
  · rw [if_neg h, show ((-1 : Int32)).toInt = -1 by decide]
    omega
theorem stepL_ok {U : Nat → Int32} {tx : Nat → Nat} {n : Nat} (hT : TXT U tx n) : ∀ (k p f : Nat) (g : Nat → Int32), p + k = n → k < f → g 10 = nI n → g 16 = nI p → ∃ g', (∀ M : qM, M 33 = U → f_X12_step_L0 f (ms M 25 g) = some (ms M 25 g')) ∧ g' 16 = nI (sk tx n k p) ∧ ∀ j, j ≠ 16 → g' j = g j
  | k, p, 0, g, hp, hf, h1, h4 => by omega
  | 0, p, f + 1, g, hp, hf, h1, h4 => by
    refine ⟨g, fun M hM => ?_, h4, fun _ _ => rfl⟩
    rw [f_X12_step_L0, here_eq hT hM h1 h4 (by omega), Option.bind_some, if_neg (by rw [hr_eq hT (by omega)]; omega)]
  | k + 1, p, f + 1, g, hp, hf, h1, h4 => by
    unfold sk
    by_cases h32 : p < n ∧ tx p = 32
    · obtain ⟨g', a1, a2, a3⟩ := stepL_ok hT k (p + 1) f (upd g 16 (nI (p + 1))) (by omega) (by omega) (by rw [pk_un (by decide)]; exact h1) pk_us
      refine ⟨g', fun M hM => ?_, ?_, fun j hj => by rw [a3 j hj, pk_un hj]⟩
      · rw [f_X12_step_L0, here_eq hT hM h1 h4 (by omega), Option.bind_some, if_pos (by rw [hr_eq hT (by omega)]; exact h32), ms_q, h4, nI_add]
        unfold qpu
        rw [Option.bind_some, ms_qu]
        exact a1 M hM
      · rw [if_pos h32]; exact a2
    · refine ⟨g, fun M hM => ?_, ?_, fun _ _ => rfl⟩
      · rw [f_X12_step_L0, here_eq hT hM h1 h4 (by omega), Option.bind_some, if_neg (by rw [hr_eq hT (by omega)]; exact h32)]
      · rw [if_neg h32]; exact h4
theorem digM_ok {U : Nat → Int32} {tx : Nat → Nat} {n s : Nat} (hT : TXT U tx n) : ∀ (k p f v : Nat) (g : Nat → Int32), p + k = n → k < f → g 10 = nI n → g 16 = nI p → g 19 = nI (p - s) → g 20 = nI v → vok s p v → ∃ g', (∀ M : qM, M 33 = U → f_X12_step_L93 f (ms M 25 g) = some (ms M 25 g')) ∧ g' 16 = nI (dg tx n s k p v).1 ∧ g' 19 = nI ((dg tx n s k p v).1 - s) ∧ g' 20 = nI (dg tx n s k p v).2 ∧ ∀ j, j ≠ 16 → j ≠ 19 → j ≠ 20 → g' j = g j
  | k, p, 0, v, g, hp, hf, h1, h4, h19, h20, hv => by omega
  | 0, p, f + 1, v, g, hp, hf, h1, h4, h19, h20, hv => by
    refine ⟨g, fun M hM => ?_, h4, h19, h20, fun _ _ _ _ => rfl⟩
    rw [f_X12_step_L93, here_eq hT hM h1 h4 (by omega), Option.bind_some, in_ll _ _ (by omega) (by omega), hr_dig hT, Option.bind_some, if_neg (by rw [decide_eq_true_iff]; exact fun q => by have := q.1; omega)]
  | k + 1, p, f + 1, v, g, hp, hf, h1, h4, h19, h20, hv => by
    have hn := hT.1
    have hsp := hv.1
    unfold dg
    by_cases hd : isD tx n p
    · rw [if_pos hd]
      have hh : hr tx n p = nI (tx p) := if_pos hd.1
      have hps : p - s + 1 = p + 1 - s := by omega
      obtain ⟨g', a1, a2, a3, a4, a5⟩ := digM_ok (s := s) hT k (p + 1) f (if p - s < 3 then v * 10 + tx p - 48 else v) (upd (upd (upd g 20 (nI (if p - s < 3 then v * 10 + tx p - 48 else v))) 19 (nI (p + 1 - s))) 16 (nI (p + 1))) (by omega) (by omega) (by rw [pk_un (by decide), pk_un (by decide), pk_un (by decide)]; exact h1) pk_us (by rw [pk_un (by decide), pk_us]) (by rw [pk_un (by decide), pk_un (by decide), pk_us]) (vok_s hv hd)
      refine ⟨g', fun M hM => ?_, a2, a3, a4, fun j j1 j2 j3 => by rw [a5 j j1 j2 j3, pk_un j1, pk_un j2, pk_un j3]⟩
      have a1 := a1 M hM
      rw [f_X12_step_L93, here_eq hT hM h1 h4 (by omega), Option.bind_some, in_ll _ _ (by omega) (by omega), hr_dig hT, Option.bind_some, if_pos (decide_eq_true hd), Option.bind_some]
      unfold qpu
      simp only [Option.bind_some, ms_q, ms_qu, hh]
      have u1 : ∀ x : Int32, upd g 20 x 19 = nI (p - s) := fun x => by rw [pk_un (by decide)]; exact h19
      have u2 : ∀ x y : Int32, upd (upd g 20 x) 19 y 16 = nI p := fun x y => by rw [pk_un (by decide), pk_un (by decide)]; exact h4
      rw [u1, u1, u2, u2, h19, h20, nI_add, nI_add, hps, pk_mul, nI_add]
      by_cases h3 : p - s < 3
      · rw [if_pos h3] at a1
        rw [if_neg (nI_ge h3 (by omega)), pk_sub (by have := hd.2.1; omega), show 10 * v + tx p - 48 = v * 10 + tx p - 48 by omega]
        exact a1
      · rw [if_neg h3] at a1
        rw [if_pos (nI_le (by omega) (by omega))]
        exact a1
    · rw [if_neg hd]
      refine ⟨g, fun M hM => ?_, h4, h19, h20, fun _ _ _ _ => rfl⟩
      rw [f_X12_step_L93, here_eq hT hM h1 h4 (by omega), Option.bind_some, in_ll _ _ (by omega) (by omega), hr_dig hT, Option.bind_some, if_neg (by rw [decide_eq_true_iff]; exact hd)]
/-- behind a step of the reference from place p -/
def SP (tx : Nat → Nat) (n p : Nat) (g : Nat → Int32) : Prop := g 17 = nI (SKP tx n p) ∧ ((isD tx n (SKP tx n p) ∧ g 18 = nI 48 ∧ g 16 = nI (NV tx n p).1 ∧ g 19 = nI ((NV tx n p).1 - SKP tx n p) ∧ g 20 = nI (NV tx n p).2) ∨ (¬ isD tx n (SKP tx n p) ∧ g 18 = hr tx n (SKP tx n p) ∧ g 16 = nI (if SKP tx n p < n then SKP tx n p + 1 else SKP tx n p)))
theorem step_m {U : Nat → Int32} {tx : Nat → Nat} {n p : Nat} {g : Nat → Int32} (hT : TXT U tx n) (h10 : g 10 = nI n) (h16 : g 16 = nI p) (hp : p ≤ n) : ∃ g', (∀ M : qM, M 33 = U → f_X12_step (ms M 25 g) = some (ms M 25 g')) ∧ (∀ j, j < 16 → g' j = g j) ∧ SP tx n p g' := by
  have hn := hT.1
  have hq := SKP_le (tx := tx) hp
  obtain ⟨g1, a1, a2, a3⟩ := stepL_ok hT (n - p) p qF g (by omega) (by rw [qF_val]; omega) h10 h16
  have a2 : g1 16 = nI (SKP tx n p) := a2
  have b10 : g1 10 = nI n := (a3 10 (by decide)).trans h10
  have e : ∀ M : qM, M 33 = U → f_X12_step (ms M 25 g) = (if decide (isD tx n (SKP tx n p)) = true then (f_X12_step_L93 qF (ms M 25 (upd (upd (upd (upd (upd g1 17 (nI (SKP tx n p))) 18 (hr tx n (SKP tx n p))) 19 (nI 0)) 20 (nI 0)) 18 (nI 48)))).bind fun e49 => some (e49)
    else if 0 ≤ hr tx n (SKP tx n p) then some (ms M 25 (upd (upd (upd (upd (upd g1 17 (nI (SKP tx n p))) 18 (hr tx n (SKP tx n p))) 19 (nI 0)) 20 (nI 0)) 16 (nI (SKP tx n p + 1))))
    else some (ms M 25 (upd (upd (upd (upd (upd g1 17 (nI (SKP tx n p))) 18 (hr tx n (SKP tx n p))) 19 (nI 0)) 20 (nI 0)) 16 (nI (SKP tx n p + 0))))) := by
    intro M hM
    unfold f_X12_step
    rw [a1 M hM, Option.bind_some]
    unfold qpu
    rw [Option.bind_some, ms_q, a2, ms_qu, here_eq hT hM (p := SKP tx n p) (by rw [pk_un (by decide)]; exact b10) (by rw [pk_un (by decide)]; exact a2) (by omega), Option.bind_some, Option.bind_some, Option.bind_some, Option.bind_some, ms_qu, ms_qu, ms_qu, ms_q]
    have u18 : upd (upd (upd (upd g1 17 (nI (SKP tx n p))) 18 (hr tx n (SKP tx n p))) 19 (nI 0)) 20 (nI 0) 18 = hr tx n (SKP tx n p) := by rw [pk_un (by decide), pk_un (by decide), pk_us]
    have u16 : upd (upd (upd (upd g1 17 (nI (SKP tx n p))) 18 (hr tx n (SKP tx n p))) 19 (nI 0)) 20 (nI 0) 16 = nI (SKP tx n p) := by rw [pk_un (by decide), pk_un (by decide), pk_un (by decide), pk_un (by decide)]; exact a2
    rw [u18, u16, in_ll _ _ (by omega) (by omega), hr_dig hT, Option.bind_some, Option.bind_some, Option.bind_some, Option.bind_some, ms_qu, ms_qu, ms_qu, nI_add, nI_add]
  by_cases hd : isD tx n (SKP tx n p)
  · obtain ⟨g2, c1, c2, c3, c4, c5⟩ := digM_ok (s := SKP tx n p) hT (n - SKP tx n p) (SKP tx n p) qF 0 (upd (upd (upd (upd (upd g1 17 (nI (SKP tx n p))) 18 (hr tx n (SKP tx n p))) 19 (nI 0)) 20 (nI 0)) 18 (nI 48)) (by omega) (by rw [qF_val]; omega) (by rw [pk_un (by decide), pk_un (by decide), pk_un (by decide), pk_un (by decide), pk_un (by decide)]; exact b10) (by rw [pk_un (by decide), pk_un (by decide), pk_un (by decide), pk_un (by decide), pk_un (by decide)]; exact a2) (by rw [Nat.sub_self, pk_un (by decide), pk_un (by decide), pk_us]) (by rw [pk_un (by decide), pk_us]) ⟨Nat.le_refl _, fun _ => rfl, fun _ => by omega, fun _ => by omega, by omega⟩
    refine ⟨g2, fun M hM => ?_, fun j hj => ?_, ?_, Or.inl ⟨hd, ?_, c2, c3, c4⟩⟩
    · rw [e M hM, if_pos (decide_eq_true hd), c1 M hM, Option.bind_some]
    · rw [c5 j (by omega) (by omega) (by omega), pk_un (by omega), pk_un (by omega), pk_un (by omega), pk_un (by omega), pk_un (by omega), a3 j (by omega)]
    · rw [c5 17 (by omega) (by omega) (by omega), pk_un (by omega), pk_un (by omega), pk_un (by omega), pk_un (by omega), pk_us]
    · rw [c5 18 (by omega) (by omega) (by omega), pk_us]
  · by_cases hlt : SKP tx n p < n
    · refine ⟨upd (upd (upd (upd (upd g1 17 (nI (SKP tx n p))) 18 (hr tx n (SKP tx n p))) 19 (nI 0)) 20 (nI 0)) 16 (nI (SKP tx n p + 1)), fun M hM => ?_, fun j hj => ?_, ?_, Or.inr ⟨hd, ?_, ?_⟩⟩
      · have := (hT.2 _ hlt).2
        rw [e M hM, if_neg (by rw [decide_eq_true_iff]; exact hd), if_pos (by unfold hr; rw [if_pos hlt, fa_le, nI_toInt (by omega)]; show (0 : Int) ≤ (tx (SKP tx n p) : Int); omega)]
      · rw [pk_un (by omega), pk_un (by omega), pk_un (by omega), pk_un (by omega), pk_un (by omega), a3 j (by omega)]
      · rw [pk_un (by omega), pk_un (by omega), pk_un (by omega), pk_un (by omega), pk_us]
      · rw [pk_un (by omega), pk_un (by omega), pk_un (by omega), pk_us]
      · rw [if_pos hlt, pk_us]
    · refine ⟨upd (upd (upd (upd (upd g1 17 (nI (SKP tx n p))) 18 (hr tx n (SKP tx n p))) 19 (nI 0)) 20 (nI 0)) 16 (nI (SKP tx n p + 0)), fun M hM => ?_, fun j hj => ?_, ?_, Or.inr ⟨hd, ?_, ?_⟩⟩
      · rw [e M hM, if_neg (by rw [decide_eq_true_iff]; exact hd), if_neg (by unfold hr; rw [if_neg hlt]; decide)]
      · rw [pk_un (by omega), pk_un (by omega), pk_un (by omega), pk_un (by omega), pk_un (by omega), a3 j (by omega)]
      · rw [pk_un (by omega), pk_un (by omega), pk_un (by omega), pk_un (by omega), pk_us]
      · rw [pk_un (by omega), pk_un (by omega), pk_un (by omega), pk_us]
      · rw [if_neg hlt, pk_us]; rfl
theorem SP_sign {U : Nat → Int32} {tx : Nat → Nat} {n p ch : Nat} {g : Nat → Int32} (hT : TXT U tx n) (h : SP tx n p g) (hch : ch < 256) (hd : ch < 48 ∨ 57 < ch) : (g 18 = nI ch) = (SKP tx n p < n ∧ tx (SKP tx n p) = ch) := by
  rcases h.2 with ⟨d, s, -⟩ | ⟨d, s, -⟩
  · rw [s]
    apply propext
    constructor
    · intro q
      have := (nI_eq (by omega) (by omega)).mp q
      omega
    · intro q
      exfalso
      have := d.2
      omega
  · rw [s, hr_eq hT hch]
theorem SP_48 {U : Nat → Int32} {tx : Nat → Nat} {n p : Nat} {g : Nat → Int32} (hT : TXT U tx n) (h : SP tx n p g) : (g 18 = nI 48) = (isD tx n (SKP tx n p)) := by
  apply propext
  rcases h.2 with ⟨d, s, -⟩ | ⟨d, s, -⟩
  · exact ⟨fun _ => d, fun _ => s⟩
  · rw [s, hr_eq hT (by omega)]
    exact ⟨fun q => ⟨q.1, by omega, by omega⟩, fun q => absurd q d⟩
def NM (M : qM) (rd g : Nat → Int32) : qM := ms (ms M 27 rd) 25 g
theorem NM_25 (M : qM) (rd g : Nat → Int32) : NM M rd g 25 = g := ms_q _ _ _
theorem NM_27 (M : qM) (rd g : Nat → Int32) : NM M rd g 27 = rd := rfl
theorem NM_u25 (M : qM) (rd g : Nat → Int32) (j : Nat) (v : Int32) : qu (NM M rd g) 25 j v = NM M rd (upd g j v) := by unfold NM; rw [ms_qu]
theorem NM_u27 (M : qM) (rd g : Nat → Int32) (j : Nat) (v : Int32) : qu (NM M rd g) 27 j v = NM M (upd rd j v) g := by
  unfold NM; rw [ms_comm _ (show 27 ≠ 25 by decide), ms_qu, ms_comm _ (show 25 ≠ 27 by decide)]
theorem step_n {U : Nat → Int32} {tx : Nat → Nat} {n p : Nat} {g : Nat → Int32} (hT : TXT U tx n) (h10 : g 10 = nI n) (h16 : g 16 = nI p) (hp : p ≤ n) : ∃ g', (∀ (M : qM) (rd : Nat → Int32), M 33 = U → f_X12_step (NM M rd g) = some (NM M rd g')) ∧ (∀ j, j < 16 → g' j = g j) ∧ SP tx n p g' := by
  obtain ⟨g', a1, a2, a3⟩ := step_m hT h10 h16 hp
  exact ⟨g', fun M rd hM => a1 (ms M 27 rd) hM, a2, a3⟩
theorem fails_eq (M : qM) (rd g : Nat → Int32) (k : Int32) : f_X12_fails k (NM M rd g) = some (false, NM M rd (upd g 21 k)) := by
  unfold f_X12_fails qpu
  rw [Option.bind_some, NM_u25]
def MS (g' g : Nat → Int32) (p : Nat) : Prop := g' 16 = nI p ∧ ∀ j, j < 16 → g' j = g j
def MF (g' g : Nat → Int32) (k q : Nat) : Prop := g' 17 = nI q ∧ g' 21 = nI k ∧ ∀ j, j < 16 → g' j = g j
theorem number_m {U : Nat → Int32} {tx : Nat → Nat} {n p lo hi : Nat} {g : Nat → Int32} (hT : TXT U tx n) (h10 : g 10 = nI n) (h16 : g 16 = nI p) (hp : p ≤ n) (hlo : lo < 1000) (hhi : hi < 1000) :
    (nf tx n lo hi p = 0 → ∃ g', MS g' g (NV tx n p).1 ∧ ∀ (M : qM) (rd : Nat → Int32) (pl : Nat), M 33 = U → pl < 57 → f_X12_number (nI pl) (nI lo) (nI hi) (NM M rd g) = some (true, NM M (upd rd pl (nI (NV tx n p).2)) g')) ∧
    (nf tx n lo hi p ≠ 0 → ∃ g', MF g' g (nf tx n lo hi p) (SKP tx n p) ∧ ∀ (M : qM) (rd : Nat → Int32) (pl : Nat), M 33 = U → f_X12_number (nI pl) (nI lo) (nI hi) (NM M rd g) = some (false, NM M rd g')) := by
  have hn := hT.1
  have hv := NV_v (tx := tx) (n := n) (p := p)
  have hl := NV_le (tx := tx) hp
  obtain ⟨g1, a1, a2, a3⟩ := step_n hT h10 h16 hp
  have e48 := SP_48 hT a3
  by_cases hd : isD tx n (SKP tx n p)
  · have hD := NV_D hp hd
    have hs : g1 18 = nI 48 := by rw [e48]; exact hd
    rcases a3.2 with ⟨-, -, b1, b2, b3⟩ | ⟨b0, -⟩
    · have e : ∀ (M : qM) (rd : Nat → Int32) (pl : Nat), M 33 = U → f_X12_number (nI pl) (nI lo) (nI hi) (NM M rd g) = (if (nI 3) < nI ((NV tx n p).1 - SKP tx n p) then some (false, NM M rd (upd g1 21 (nI 2)))
        else if inb (nI (NV tx n p).2) (nI lo) (nI hi) = true then (qwr (NM M rd g1) 27 57 (nI pl) (nI (NV tx n p).2)).bind fun M14 => some (true, M14)
        else some (false, NM M rd (upd g1 21 (nI 2)))) := by
        intro M rd pl hM
        unfold f_X12_number
        rw [a1 M rd hM, Option.bind_some, NM_25, if_pos hs, b2, b3, in_eq, Option.bind_some, fails_eq, Option.bind_some]
      have hin : (inb (nI (NV tx n p).2) (nI lo) (nI hi) = true) = (lo ≤ (NV tx n p).2 ∧ (NV tx n p).2 ≤ hi) := by
        rw [inb_iff, nI_toInt (by omega), nI_toInt (by omega), nI_toInt (by omega)]
        apply propext; omega
      refine ⟨fun h0 => ?_, fun h0 => ?_⟩
      · unfold nf at h0
        rw [if_pos hd] at h0
        have hb : ¬ (3 < (NV tx n p).1 - SKP tx n p ∨ (NV tx n p).2 < lo ∨ hi < (NV tx n p).2) := by
          intro q; rw [if_pos q] at h0; omega
        refine ⟨g1, ⟨b1, a2⟩, fun M rd pl hM hpl => ?_⟩
        rw [e M rd pl hM, if_neg (nI_nlt (by omega) (by omega)), if_pos (by rw [hin]; omega), qwr_nI hpl (by decide), Option.bind_some, NM_u27]
      · have e2 : nf tx n lo hi p = 2 := by
          unfold nf at h0 ⊢
          rw [if_pos hd] at h0 ⊢
          by_cases q : 3 < (NV tx n p).1 - SKP tx n p ∨ (NV tx n p).2 < lo ∨ hi < (NV tx n p).2
          · rw [if_pos q]
          · rw [if_neg q] at h0; omega
        have hb : 3 < (NV tx n p).1 - SKP tx n p ∨ (NV tx n p).2 < lo ∨ hi < (NV tx n p).2 := by
          unfold nf at e2
          rw [if_pos hd] at e2
          by_cases q : 3 < (NV tx n p).1 - SKP tx n p ∨ (NV tx n p).2 < lo ∨ hi < (NV tx n p).2
          · exact q
          · rw [if_neg q] at e2; omega
        rw [e2]
        refine ⟨upd g1 21 (nI 2), ⟨?_, pk_us, fun j hj => ?_⟩, fun M rd pl hM => ?_⟩
        · rw [pk_un (by decide)]; exact a3.1
        · rw [pk_un (by omega)]; exact a2 j hj
        · rw [e M rd pl hM]
          by_cases q : 3 < (NV tx n p).1 - SKP tx n p
          · rw [if_pos (nI_lt q (by omega))]
          · rw [if_neg (nI_nlt (by omega) (by omega)), if_neg (by rw [hin]; omega)]
    · exact absurd hd b0
  · have e1 : nf tx n lo hi p = 1 := by unfold nf; rw [if_neg hd]
    rw [e1]
    refine ⟨fun h0 => absurd h0 (by decide), fun _ => ?_⟩
    refine ⟨upd g1 21 (nI 1), ⟨?_, pk_us, fun j hj => ?_⟩, fun M rd pl hM => ?_⟩
    · rw [pk_un (by decide)]; exact a3.1
    · rw [pk_un (by omega)]; exact a2 j hj
    · unfold f_X12_number
      rw [a1 M rd hM, Option.bind_some, NM_25, if_neg (by rw [e48]; exact hd), fails_eq, Option.bind_some]
theorem expect_m {U : Nat → Int32} {tx : Nat → Nat} {n p ch : Nat} {g : Nat → Int32} (hT : TXT U tx n) (h10 : g 10 = nI n) (h16 : g 16 = nI p) (hp : p ≤ n) (hch : ch < 256) (hd : ch < 48 ∨ 57 < ch) :
    ∃ g', (∀ (M : qM) (rd : Nat → Int32), M 33 = U → f_X12_step (NM M rd g) = some (NM M rd g')) ∧ (∀ j, j < 16 → g' j = g j) ∧ g' 17 = nI (SKP tx n p) ∧ (ef tx n ch p = 0 → g' 18 = nI ch ∧ g' 16 = nI (ep tx n ch p)) ∧ (ef tx n ch p ≠ 0 → ¬ g' 18 = nI ch) := by
  obtain ⟨g1, a1, a2, a3⟩ := step_n hT h10 h16 hp
  have es := SP_sign hT a3 hch hd
  refine ⟨g1, a1, a2, a3.1, fun h0 => ?_, fun h0 => ?_⟩
  · unfold ef at h0
    have hc : SKP tx n p < n ∧ tx (SKP tx n p) = ch := by
      by_cases q : SKP tx n p < n ∧ tx (SKP tx n p) = ch
      · exact q
      · rw [if_neg q] at h0; omega
    refine ⟨by rw [es]; exact hc, ?_⟩
    unfold ep
    rw [if_pos hc]
    rcases a3.2 with ⟨d, -⟩ | ⟨-, -, b⟩
    · have := d.2; omega
    · rw [b, if_pos hc.1]
  · rw [es]
    intro q
    exact h0 (if_pos q)
theorem ends_m {U : Nat → Int32} {tx : Nat → Nat} {n p : Nat} {g : Nat → Int32} (hT : TXT U tx n) (h10 : g 10 = nI n) (h16 : g 16 = nI p) (hp : p ≤ n) :
    (ef tx n 59 p = 0 → ∃ g', MS g' g (ep tx n 59 p) ∧ ∀ (M : qM) (rd : Nat → Int32), M 33 = U → f_X12_ends (NM M rd g) = some (true, NM M rd g')) ∧
    (ef tx n 59 p ≠ 0 → ∃ g', MF g' g (ef tx n 59 p) (SKP tx n p) ∧ ∀ (M : qM) (rd : Nat → Int32), M 33 = U → f_X12_ends (NM M rd g) = some (false, NM M rd g')) := by
  obtain ⟨g1, a1, a2, a3, a4, a5⟩ := expect_m (ch := 59) hT h10 h16 hp (by omega) (by omega)
  refine ⟨fun h0 => ⟨g1, ⟨(a4 h0).2, a2⟩, fun M rd hM => ?_⟩, fun h0 => ⟨upd g1 21 (nI 1), ⟨?_, ?_, fun j hj => ?_⟩, fun M rd hM => ?_⟩⟩
  · unfold f_X12_ends
    rw [a1 M rd hM, Option.bind_some, NM_25, if_pos (a4 h0).1]
  · rw [pk_un (by decide)]; exact a3
  · rw [pk_us]
    congr 1
    unfold ef at h0 ⊢
    split at h0
    · omega
    · rw [if_neg (by assumption)]
  · rw [pk_un (by omega)]; exact a2 j hj
  · unfold f_X12_ends
    rw [a1 M rd hM, Option.bind_some, NM_25, if_neg (a5 h0), fails_eq, Option.bind_some]
    rfl
