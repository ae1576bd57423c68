-- the text's clauses, one behind another, both readers
def BothT (T U : Nat → Int32) (n : Nat) (fa : Int32) (g : Nat → Int32) (fc : qM → Option (Int32 × qM)) (fm : qM → Option (Bool × qM)) : Prop :=
  (∃ p' c' h' g' w' rd' l' C' O', St h' n p' 0 fa ∧ (∀ j, j < 16 → g' j = g j) ∧ WX w' rd' ∧ CN w' rd' l' C' O' ∧ (∀ M : qM, M 6 = T → fc M = some (c', CM M w' h')) ∧ ∀ M : qM, M 33 = U → fm M = some (true, NM M rd' g')) ∨
  (∃ p' c' k z h' g' w' rd', 0 < k ∧ k < 10 ∧ St h' n p' k (nI z) ∧ MF g' g k z ∧ (∀ M : qM, M 6 = T → fc M = some (c', CM M w' h')) ∧ ∀ M : qM, M 33 = U → fm M = some (false, NM M rd' g'))
theorem L37_false (f : Nat) (M : qM) : f_X12_deanery_L37 (f + 1) false M = some (false, M) := by
  rw [f_X12_deanery_L37, if_neg Bool.false_ne_true]
  split <;> rfl
theorem L28_k {f k c : Nat} {M : qM} {w h : Nat → Int32} (h5 : h 5 = nI k) (hk : 0 < k) (hk2 : k < 10) : f_X7_readText_L28 (f + 1) (nI c) (CM M w h) = some (nI c, CM M w h) := by
  rw [f_X7_readText_L28, CM_3, h5, if_neg (nI_ne0 hk (by omega))]
  split <;> rfl
theorem text_b {T U : Nat → Int32} {tx : Nat → Nat} {n : Nat} {fa : Int32} (hT : TXT T tx n) (hU : TXT U tx n) : ∀ (m p c f f' l C O : Nat) (h g w rd : Nat → Int32), n < p + m → p ≤ n → c ≤ p → m < f → m < f' → St h n p 0 fa → g 10 = nI n → g 16 = nI p → WX w rd → CN w rd l C O →
    BothT T U n fa g (fun M => (f_X7_skipBlanks (CM M w h)).bind fun M => f_X7_readText_L28 f (nI c) M) (fun M => (f_X12_step (NM M rd g)).bind fun M => f_X12_deanery_L37 f' true M)
  | 0, p, c, f, f', l, C, O, h, g, w, rd, hm, hp, hc, hf, hf', hs, h10, h16, hw, hn => by omega
  | m + 1, p, c, 0, f', l, C, O, h, g, w, rd, hm, hp, hc, hf, hf', hs, h10, h16, hw, hn => by omega
  | m + 1, p, c, f + 1, 0, l, C, O, h, g, w, rd, hm, hp, hc, hf, hf', hs, h10, h16, hw, hn => by omega
  | m + 1, p, c, f + 1, f' + 1, l, C, O, h, g, w, rd, hm, hp, hc, hf, hf', hs, h10, h16, hw, hn => by
    have hN := hT.1
    obtain ⟨h1, a1, a2⟩ := skip_c hT hs hp
    obtain ⟨g1, b1, b2, b3⟩ := step_n hU h10 h16 hp
    have hq := SKP_le (tx := tx) hp
    have a1' : ∀ M : qM, M 6 = T → f_X7_skipBlanks (CM M w h) = some (CM M w h1) := fun M hM => a1 (ms M 5 w) hM
    by_cases hlt : SKP tx n p < n
    · have hc1 : ∀ M : qM, M 6 = T → ((f_X7_skipBlanks (CM M w h)).bind fun M => f_X7_readText_L28 (f + 1) (nI c) M) = (f_X7_readClause (CM M w h1)).bind fun M18 => (f_X7_skipBlanks M18).bind fun M21 => f_X7_readText_L28 f (nI (c + 1)) M21 := fun M hM => by
        rw [a1' M hM, Option.bind_some, f_X7_readText_L28, if_neg (nI_ge (by omega) (by omega)), CM_3, a2.2.2.1, if_pos (show nI 0 = 0 from rfl), a2.1, a2.2.1, if_neg (nI_ge (by omega) (by omega)), nI_add]
      have h18 : ¬ g1 18 < 0 := by
        rcases b3.2 with ⟨-, e, -⟩ | ⟨-, e, -⟩
        · rw [e]; exact nI_pos (by omega)
        · have := (hU.2 _ hlt).2
          rw [e]; unfold hr; rw [if_pos hlt]; exact nI_pos (by omega)
      have hm1 : ∀ M : qM, M 33 = U → ((f_X12_step (NM M rd g)).bind fun M => f_X12_deanery_L37 (f' + 1) true M) = (f_X12_readsClause (NM M rd g1)).bind fun p15 => if p15.1 = true then (f_X12_step p15.2).bind fun M22 => f_X12_deanery_L37 f' p15.1 M22 else f_X12_deanery_L37 f' p15.1 p15.2 := fun M hM => by
        rw [b1 M rd hM, Option.bind_some, f_X12_deanery_L37, NM_25, if_neg h18, if_pos rfl]
      rcases clause_b hT hU a2 hlt ((b2 10 (by omega)).trans h10) b3 hw hn with ⟨p', h', g', w', rd', l', C', O', d1, d2, d3, d4, d5, d6, d7, d8⟩ | ⟨p', k, z, h', g', w', rd', d1, d2, d3, d4, d5, d6, d7⟩
      · have d7 : ∀ M : qM, M 6 = T → f_X7_readClause (CM M w h1) = some (CM M w' h') := d7
        have d8 : ∀ M : qM, M 33 = U → f_X12_readsClause (NM M rd g1) = some (true, NM M rd' g') := d8
        have ih := text_b hT hU m p' (c + 1) f f' l' C' O' h' g' w' rd' (by omega) d2 (by omega) (by omega) (by omega) d3 ((d4.2 10 (by omega)).trans ((b2 10 (by omega)).trans h10)) d4.1 d5 d6
        have hc2 : ∀ M : qM, M 6 = T → ((f_X7_skipBlanks (CM M w h)).bind fun M => f_X7_readText_L28 (f + 1) (nI c) M) = ((f_X7_skipBlanks (CM M w' h')).bind fun M => f_X7_readText_L28 f (nI (c + 1)) M) := fun M hM => by
          rw [hc1 M hM, d7 M hM, Option.bind_some]
        have hm2 : ∀ M : qM, M 33 = U → ((f_X12_step (NM M rd g)).bind fun M => f_X12_deanery_L37 (f' + 1) true M) = ((f_X12_step (NM M rd' g')).bind fun M => f_X12_deanery_L37 f' true M) := fun M hM => by
          rw [hm1 M hM, d8 M hM, Option.bind_some, if_pos rfl]
        have hg : ∀ j, j < 16 → g' j = g j := fun j hj => (d4.2 j hj).trans (b2 j hj)
        rcases ih with ⟨p2, c2, h2, g2, w2, rd2, l2, C2, O2, i1, i2, i3, i4, i5, i6⟩ | ⟨p2, c2, k, z, h2, g2, w2, rd2, i1, i2, i3, i4, i5, i6⟩
        · exact Or.inl ⟨p2, c2, h2, g2, w2, rd2, l2, C2, O2, i1, fun j hj => (i2 j hj).trans (hg j hj), i3, i4, fun M hM => (hc2 M hM).trans (i5 M hM), fun M hM => (hm2 M hM).trans (i6 M hM)⟩
        · exact Or.inr ⟨p2, c2, k, z, h2, g2, w2, rd2, i1, i2, i3, ⟨i4.1, i4.2.1, fun j hj => (i4.2.2 j hj).trans (hg j hj)⟩, fun M hM => (hc2 M hM).trans (i5 M hM), fun M hM => (hm2 M hM).trans (i6 M hM)⟩
      · have d6 : ∀ M : qM, M 6 = T → f_X7_readClause (CM M w h1) = some (CM M w' h') := d6
        have d7 : ∀ M : qM, M 33 = U → f_X12_readsClause (NM M rd g1) = some (false, NM M rd' g') := d7
        obtain ⟨h2, e1, e2⟩ := skip_c hT d4 d3
        obtain ⟨f, rfl⟩ : ∃ f0, f = f0 + 1 := ⟨f - 1, by omega⟩
        obtain ⟨f', rfl⟩ : ∃ f0, f' = f0 + 1 := ⟨f' - 1, by omega⟩
        refine Or.inr ⟨SKP tx n p', nI (c + 1), k, z, h2, g', w', rd', d1, d2, e2, ⟨d5.1, d5.2.1, fun j hj => (d5.2.2 j hj).trans (b2 j hj)⟩, fun M hM => ?_, fun M hM => ?_⟩
        · show Option.bind _ _ = _
          rw [hc1 M hM, d6 M hM, Option.bind_some, show f_X7_skipBlanks (CM M w' h') = some (CM M w' h2) from e1 (ms M 5 w') hM, Option.bind_some, L28_k e2.2.2.1 d1 d2]
        · show Option.bind _ _ = _
          rw [hm1 M hM, d7 M hM, Option.bind_some, if_neg (show ¬ ((false, _) : Bool × qM).1 = true from Bool.false_ne_true)]
          exact L37_false f' _
    · have h18 : g1 18 < 0 := by
        rcases b3.2 with ⟨e, -⟩ | ⟨-, e, -⟩
        · exact absurd e.1 hlt
        · rw [e]; unfold hr; rw [if_neg hlt]; decide
      refine Or.inl ⟨SKP tx n p, nI c, h1, g1, w, rd, l, C, O, a2, b2, hw, hn, fun M hM => ?_, fun M hM => ?_⟩
      · show Option.bind _ _ = _
        rw [a1' M hM, Option.bind_some, f_X7_readText_L28, CM_3, a2.2.2.1, if_pos (show nI 0 = 0 from rfl), a2.1, a2.2.1, if_pos (show nI n ≤ nI (SKP tx n p) from nI_le (by omega) (by omega))]
        split <;> rfl
      · show Option.bind _ _ = _
        rw [b1 M rd hM, Option.bind_some, f_X12_deanery_L37, NM_25, if_pos h18]
