-- one clause of the text, both readers
theorem ob_eta {α β : Type} (x : Option (α × β)) : (x.bind fun p => some (p.1, p.2)) = x := by cases x <;> rfl
theorem ob_id {α : Type} (x : Option α) : (x.bind fun p => some p) = x := by cases x <;> rfl
theorem lea_eq (M : qM) (w h : Nat → Int32) : f_X5_least_at4 (CM M w h) = some (w 0) := by
  unfold f_X5_least_at4; rw [qrd_nI (by omega) (by decide), CM_5, Option.bind_some]
theorem cou_eq (M : qM) (w h : Nat → Int32) : f_X5_couples_at4 (CM M w h) = some (w 1) := by
  unfold f_X5_couples_at4; rw [qrd_nI (by omega) (by decide), CM_5, Option.bind_some]
theorem obj_eq (M : qM) (w h : Nat → Int32) : f_X5_objectors_at4 (CM M w h) = some (w 2) := by
  unfold f_X5_objectors_at4; rw [qrd_nI (by omega) (by decide), CM_5, Option.bind_some]
theorem fom_1 (x : Int32) (M : qM) : f_X7_faultOfMore (nI 1) x M = some (nI 1) := by
  unfold f_X7_faultOfMore; rw [if_neg (nI_ne0 (by omega) (by omega))]
theorem fom_00 (M : qM) : f_X7_faultOfMore (nI 0) (nI 0) M = some (nI 3) := by
  unfold f_X7_faultOfMore; rw [if_pos (show nI 0 = 0 from rfl), if_pos (show nI 0 = 0 from rfl)]
theorem fom_01 (M : qM) : f_X7_faultOfMore (nI 0) (nI 1) M = some (nI 0) := by
  unfold f_X7_faultOfMore; rw [if_pos (show nI 0 = 0 from rfl), if_neg (nI_ne0 (by omega) (by omega))]
def fw (t l C O : Nat) : Nat := if t = 100 then (if l = 0 then 0 else 3) else if t = 99 then (if l = 0 then 1 else if C = 6 then 3 else 0) else if t = 111 then (if l = 0 then 1 else if O = 6 then 3 else 0) else 1
/-- the counts of a row that is being read -/
def CN (w rd : Nat → Int32) (l C O : Nat) : Prop := (w 0 = nI l ∧ l ≤ 20) ∧ (w 1 = nI C ∧ rd 1 = nI C ∧ C ≤ 6) ∧ (w 2 = nI O ∧ rd 2 = nI O ∧ O ≤ 6) ∧ (l = 0 → C = 0 ∧ O = 0)
theorem fow_eq {M : qM} {w rd h : Nat → Int32} {t l C O : Nat} (ht : t < 256) (hc : CN w rd l C O) : f_X7_faultOfWord (nI t) (CM M w h) = some (nI (fw t l C O)) := by
  obtain ⟨⟨h0, hl⟩, ⟨h1, -, hC⟩, ⟨h2, -, hO⟩, -⟩ := hc
  unfold f_X7_faultOfWord fw
  rw [lea_eq, Option.bind_some, h0, cou_eq, h1, obj_eq, h2, Option.bind_some, Option.bind_some, Option.bind_some, Option.bind_some, fom_1, fom_1, fom_00, fom_01, Option.bind_some, Option.bind_some, Option.bind_some]
  by_cases e0 : l = 0
  · rw [if_pos (show nI l = 0 by rw [e0]; rfl), if_pos e0, if_pos e0, if_pos e0]
    by_cases e9 : t = 99
    · rw [if_pos (show nI t = nI 99 by rw [e9]), if_neg (show ¬ t = 100 by omega), if_pos e9]
      split <;> rfl
    · rw [if_neg (fun q => e9 ((nI_eq (by omega) (by omega)).mp q)), if_neg e9]
      by_cases e100 : t = 100
      · rw [if_pos (show nI t = nI 100 by rw [e100]), if_pos e100]
      · rw [if_neg (fun q => e100 ((nI_eq (by omega) (by omega)).mp q)), if_neg e100]
        by_cases e111 : t = 111
        · rw [if_pos (show nI t = nI 111 by rw [e111]), if_pos e111]
          split <;> rfl
        · rw [if_neg (fun q => e111 ((nI_eq (by omega) (by omega)).mp q)), if_neg e111]
  · rw [if_neg (nI_ne0 (by omega) (by omega)), if_neg e0, if_neg e0, if_neg e0]
    by_cases e9 : t = 99
    · rw [if_pos (show nI t = nI 99 by rw [e9]), if_neg (show ¬ t = 100 by omega), if_pos e9]
      by_cases e6 : C = 6
      · rw [if_pos (nI_le (by omega) (by omega)), if_pos e6]
      · rw [if_neg (nI_ge (by omega) (by omega)), if_neg e6]
    · rw [if_neg (fun q => e9 ((nI_eq (by omega) (by omega)).mp q)), if_neg e9]
      by_cases e100 : t = 100
      · rw [if_pos (show nI t = nI 100 by rw [e100]), if_pos e100]
      · rw [if_neg (fun q => e100 ((nI_eq (by omega) (by omega)).mp q)), if_neg e100]
        by_cases e111 : t = 111
        · rw [if_pos (show nI t = nI 111 by rw [e111]), if_pos e111]
          by_cases e6 : O = 6
          · rw [if_pos (nI_le (by omega) (by omega)), if_pos e6]
          · rw [if_neg (nI_ge (by omega) (by omega)), if_neg e6]
        · rw [if_neg (fun q => e111 ((nI_eq (by omega) (by omega)).mp q)), if_neg e111]
theorem rdC6 {M : qM} {rd g : Nat → Int32} (h : rd 1 = nI 6) : f_X12_readsCouple (NM M rd g) = some (false, NM M rd (upd g 21 (nI 3))) := by
  unfold f_X12_readsCouple
  rw [qrd_nI (by omega) (by decide), NM_27, h, Option.bind_some, if_pos rfl, fails_eq, Option.bind_some]
theorem rdO6 {M : qM} {rd g : Nat → Int32} (h : rd 2 = nI 6) : f_X12_readsObjector (NM M rd g) = some (false, NM M rd (upd g 21 (nI 3))) := by
  unfold f_X12_readsObjector
  rw [qrd_nI (by omega) (by decide), NM_27, h, Option.bind_some, if_pos rfl, fails_eq, Option.bind_some]
/-- what the class does with a clause at q -/
theorem rc_eq {T : Nat → Int32} {tx : Nat → Nat} {n q l C O : Nat} {fa : Int32} {w rd h : Nat → Int32} (hT : TXT T tx n) (hs : St h n q 0 fa) (hq : q < n) (hc : CN w rd l C O) (M : qM) (hM : M 6 = T) :
    f_X7_readClause (CM M w h) = if fw (tx q) l C O = 0 then (if tx q = 100 then f_X7_readLeast (CM M w (upd h 4 (nI (q + 1)))) else if tx q = 99 then f_X7_readCouple (CM M w (upd h 4 (nI (q + 1)))) else f_X7_readObjector (CM M w (upd h 4 (nI (q + 1))))) else f_X7_fail (nI (fw (tx q) l C O)) (nI q) (CM M w h) := by
  have hn := hT.1
  obtain ⟨t1, t2⟩ := hT.2 q hq
  have hf : fw (tx q) l C O < 10 := by
    unfold fw
    repeat' split
    all_goals omega
  unfold f_X7_readClause qpu
  rw [CM_3, hs.2.1, qrd_nI (by omega) (by decide), CM_6, hM, t1, Option.bind_some, fow_eq t2 hc, Option.bind_some, Option.bind_some, CM_u3, nI_add, ob_id, ob_id, ob_id, ob_id]
  by_cases e0 : fw (tx q) l C O = 0
  · rw [if_pos e0, if_pos (show nI (fw (tx q) l C O) = 0 by rw [e0]; rfl)]
    by_cases e1 : tx q = 100
    · rw [if_pos e1, if_pos (show nI (tx q) = nI 100 by rw [e1])]
    · rw [if_neg e1, if_neg (fun z => e1 ((nI_eq (by omega) (by omega)).mp z))]
      by_cases e2 : tx q = 99
      · rw [if_pos e2, if_pos (show nI (tx q) = nI 99 by rw [e2])]
      · rw [if_neg e2, if_neg (fun z => e2 ((nI_eq (by omega) (by omega)).mp z))]
  · rw [if_neg e0, if_neg (nI_ne0 (by omega) (by omega))]
/-- what the reference does with it -/
theorem rm_eq {tx : Nat → Nat} {q l C O : Nat} {w rd g : Nat → Int32} (hw : WX w rd) (hc : CN w rd l C O) (hsg : ∀ ch, ch < 256 → (ch < 48 ∨ 57 < ch) → (g 18 = nI ch) = (tx q = ch)) (M : qM) :
    f_X12_readsClause (NM M rd g) = if fw (tx q) l C O = 0 then (if tx q = 100 then ((f_X12_number (nI 0) (nI 1) (nI 20) (NM M rd g)).bind fun p5 => if p5.1 = true then (f_X12_ends p5.2).bind fun p10 => if p10.1 = true then some (true, p10.2)
    else some (false, p10.2)
    else some (false, p5.2)) else if tx q = 99 then f_X12_readsCouple (NM M rd g) else f_X12_readsObjector (NM M rd g)) else some (false, NM M rd (upd g 21 (nI (fw (tx q) l C O)))) := by
  obtain ⟨⟨h0, hl⟩, ⟨h1, h1', hC⟩, ⟨h2, h2', hO⟩, -⟩ := hc
  have hr0 : rd 0 = nI l := (hw.2 0 0 20 (Or.inl ⟨rfl, rfl, rfl⟩)).1.symm.trans h0
  have s100 := hsg 100 (by omega) (by omega)
  have s99 := hsg 99 (by omega) (by omega)
  have s111 := hsg 111 (by omega) (by omega)
  unfold f_X12_readsClause fw
  rw [qrd_nI (by omega) (by decide), NM_27, hr0, Option.bind_some, Option.bind_some, fails_eq, fails_eq, Option.bind_some, Option.bind_some, ob_eta, ob_eta, NM_25]
  by_cases e1 : tx q = 100
  · rw [if_pos (show g 18 = nI 100 by rw [s100]; exact e1), if_pos e1, if_pos e1]
    by_cases e0 : l = 0
    · rw [if_pos (show nI l ≤ 0 by rw [e0]; decide), if_pos e0, if_pos rfl]
    · rw [if_neg (nI_nle (by omega) (by omega)), if_neg e0, if_neg (by omega)]
  · rw [if_neg (show ¬ g 18 = nI 100 by rw [s100]; exact e1), if_neg e1, if_neg e1]
    by_cases e0 : l = 0
    · rw [if_pos (show nI l = 0 by rw [e0]; rfl), if_pos e0, if_pos e0]
      have e3 : (if tx q = 99 then 1 else if tx q = 111 then 1 else 1) = 1 := by
        split
        · rfl
        · split <;> rfl
      rw [e3, if_neg (by omega)]
    · rw [if_neg (nI_ne0 (by omega) (by omega)), if_neg e0, if_neg e0]
      by_cases e2 : tx q = 99
      · rw [if_pos (show g 18 = nI 99 by rw [s99]; exact e2), if_pos e2, if_pos e2]
        by_cases e6 : C = 6
        · rw [if_pos e6, if_neg (by omega)]
          exact rdC6 (by rw [h1', e6])
        · rw [if_neg e6, if_pos rfl]
      · rw [if_neg (show ¬ g 18 = nI 99 by rw [s99]; exact e2), if_neg e2, if_neg e2]
        by_cases e4 : tx q = 111
        · rw [if_pos (show g 18 = nI 111 by rw [s111]; exact e4), if_pos e4]
          by_cases e6 : O = 6
          · rw [if_pos e6, if_neg (by omega)]
            exact rdO6 (by rw [h2', e6])
          · rw [if_neg e6, if_pos rfl]
        · rw [if_neg (show ¬ g 18 = nI 111 by rw [s111]; exact e4), if_neg e4, if_neg (by omega)]
def BothC (T U : Nat → Int32) (n q : Nat) (fa : Int32) (g : Nat → Int32) (fc : qM → Option qM) (fm : qM → Option (Bool × qM)) : Prop :=
  (∃ p' h' g' w' rd' l' C' O', q < p' ∧ p' ≤ n ∧ St h' n p' 0 fa ∧ MS g' g p' ∧ WX w' rd' ∧ CN w' rd' l' C' O' ∧ (∀ M : qM, M 6 = T → fc M = some (CM M w' h')) ∧ ∀ M : qM, M 33 = U → fm M = some (true, NM M rd' g')) ∨
  (∃ p' k z h' g' w' rd', 0 < k ∧ k < 10 ∧ p' ≤ n ∧ St h' n p' k (nI z) ∧ MF g' g k z ∧ (∀ M : qM, M 6 = T → fc M = some (CM M w' h')) ∧ ∀ M : qM, M 33 = U → fm M = some (false, NM M rd' g'))
theorem fw_0 {t l C O : Nat} (h : fw t l C O = 0) : t = 100 ∧ l = 0 ∨ t = 99 ∧ l ≠ 0 ∧ C ≠ 6 ∨ t = 111 ∧ l ≠ 0 ∧ O ≠ 6 := by
  unfold fw at h
  by_cases e1 : t = 100
  · rw [if_pos e1] at h
    by_cases e0 : l = 0
    · exact Or.inl ⟨e1, e0⟩
    · rw [if_neg e0] at h; omega
  · rw [if_neg e1] at h
    by_cases e2 : t = 99
    · rw [if_pos e2] at h
      by_cases e0 : l = 0
      · rw [if_pos e0] at h; omega
      · rw [if_neg e0] at h
        by_cases e6 : C = 6
        · rw [if_pos e6] at h; omega
        · exact Or.inr (Or.inl ⟨e2, e0, e6⟩)
    · rw [if_neg e2] at h
      by_cases e4 : t = 111
      · rw [if_pos e4] at h
        by_cases e0 : l = 0
        · rw [if_pos e0] at h; omega
        · rw [if_neg e0] at h
          by_cases e6 : O = 6
          · rw [if_pos e6] at h; omega
          · exact Or.inr (Or.inr ⟨e4, e0, e6⟩)
      · rw [if_neg e4] at h; omega
theorem clause_b {T U : Nat → Int32} {tx : Nat → Nat} {n p l C O : Nat} {fa : Int32} {w rd h g : Nat → Int32} (hT : TXT T tx n) (hU : TXT U tx n) (hs : St h n (SKP tx n p) 0 fa) (hq : SKP tx n p < n) (h10 : g 10 = nI n) (hg : SP tx n p g) (hw : WX w rd) (hc : CN w rd l C O) :
    BothC T U n (SKP tx n p) fa g (fun M => f_X7_readClause (CM M w h)) (fun M => f_X12_readsClause (NM M rd g)) := by
  have hsg : ∀ ch, ch < 256 → (ch < 48 ∨ 57 < ch) → (g 18 = nI ch) = (tx (SKP tx n p) = ch) := fun ch h1 h2 => by
    rw [SP_sign hU hg h1 h2]
    exact propext ⟨fun z => z.2, fun z => ⟨hq, z⟩⟩
  have hC := fun M hM => rc_eq hT hs hq hc M hM
  have hR := fun M => rm_eq hw hc hsg M
  have h17 := hg.1
  have h16 : tx (SKP tx n p) = 100 ∨ tx (SKP tx n p) = 99 ∨ tx (SKP tx n p) = 111 → g 16 = nI (SKP tx n p + 1) := fun z => by
    rcases hg.2 with ⟨d, -⟩ | ⟨-, -, e⟩
    · have := d.2; omega
    · rw [e, if_pos hq]
  have s1 : St (upd h 4 (nI (SKP tx n p + 1))) n (SKP tx n p + 1) 0 fa := St_at hs pk_us (fun j hj => pk_un hj)
  generalize SKP tx n p = q at *
  obtain ⟨⟨c0, cl⟩, ⟨c1, c1', cC⟩, ⟨c2, c2', cO⟩, c3⟩ := id hc
  by_cases e0 : fw (tx q) l C O = 0
  · rcases fw_0 e0 with ⟨a1, a2⟩ | ⟨a1, a2, a3⟩ | ⟨a1, a2, a3⟩
    · have hb := least_b hT hU s1 h10 (h16 (Or.inl a1)) (by omega) hw
      have q1 : ∀ M : qM, M 6 = T → f_X7_readClause (CM M w h) = f_X7_readLeast (CM M w (upd h 4 (nI (q + 1)))) := fun M hM => by rw [hC M hM, if_pos e0, if_pos a1]
      have q2 := fun M : qM => (hR M).trans ((if_pos e0).trans (if_pos a1))
      rcases hb with ⟨p', h', g', w', rd', b1, b2, b3, b4, b5, ⟨d1, d2, d3, d4, l', d5, d6⟩, b7, b8⟩ | ⟨p', k, z, h', g', w', rd', b1, b2, b3, b4, b5, b6, b7⟩
      · obtain ⟨-, a, ha, ea⟩ := b5.2 0 0 20 (Or.inl ⟨rfl, rfl, rfl⟩)
        exact Or.inl ⟨p', h', g', w', rd', a, C, O, by omega, b2, b3, b4, b5, ⟨⟨ea, ha⟩, ⟨d1.trans c1, d3.trans c1', cC⟩, ⟨d2.trans c2, d4.trans c2', cO⟩, fun z => c3 a2⟩, fun M hM => (q1 M hM).trans (b7 M hM), fun M hM => (q2 M).trans (b8 M hM)⟩
      · exact Or.inr ⟨p', k, z, h', g', w', rd', b1, b2, b3, b4, b5, fun M hM => (q1 M hM).trans (b6 M hM), fun M hM => (q2 M).trans (b7 M hM)⟩
    · have hb := couple_b hT hU s1 h10 (h16 (Or.inr (Or.inl a1))) (by omega) hw c1 c1' (by omega)
      have q1 : ∀ M : qM, M 6 = T → f_X7_readClause (CM M w h) = f_X7_readCouple (CM M w (upd h 4 (nI (q + 1)))) := fun M hM => by rw [hC M hM, if_pos e0, if_neg (by omega), if_pos a1]
      have q2 : ∀ M : qM, f_X12_readsClause (NM M rd g) = f_X12_readsCouple (NM M rd g) := fun M => by rw [hR M, if_pos e0, if_neg (by omega), if_pos a1]
      rcases hb with ⟨p', h', g', w', rd', b1, b2, b3, b4, b5, ⟨d1, d2, d3, d4, d5⟩, b7, b8⟩ | ⟨p', k, z, h', g', w', rd', b1, b2, b3, b4, b5, b6, b7⟩
      · exact Or.inl ⟨p', h', g', w', rd', l, C + 1, O, by omega, b2, b3, b4, b5, ⟨⟨d1.trans c0, cl⟩, ⟨d4, d5, by omega⟩, ⟨d2.trans c2, d3.trans c2', cO⟩, fun z => absurd z a2⟩, fun M hM => (q1 M hM).trans (b7 M hM), fun M hM => (q2 M).trans (b8 M hM)⟩
      · exact Or.inr ⟨p', k, z, h', g', w', rd', b1, b2, b3, b4, b5, fun M hM => (q1 M hM).trans (b6 M hM), fun M hM => (q2 M).trans (b7 M hM)⟩
    · have hb := objector_b hT hU s1 h10 (h16 (Or.inr (Or.inr a1))) (by omega) hw c2 c2' (by omega)
      have q1 : ∀ M : qM, M 6 = T → f_X7_readClause (CM M w h) = f_X7_readObjector (CM M w (upd h 4 (nI (q + 1)))) := fun M hM => by rw [hC M hM, if_pos e0, if_neg (by omega), if_neg (by omega)]
      have q2 : ∀ M : qM, f_X12_readsClause (NM M rd g) = f_X12_readsObjector (NM M rd g) := fun M => by rw [hR M, if_pos e0, if_neg (by omega), if_neg (by omega)]
      rcases hb with ⟨p', h', g', w', rd', b1, b2, b3, b4, b5, ⟨d1, d2, d3, d4, d5⟩, b7, b8⟩ | ⟨p', k, z, h', g', w', rd', b1, b2, b3, b4, b5, b6, b7⟩
      · exact Or.inl ⟨p', h', g', w', rd', l, C, O + 1, by omega, b2, b3, b4, b5, ⟨⟨d1.trans c0, cl⟩, ⟨d2.trans c1, d3.trans c1', cC⟩, ⟨d4, d5, by omega⟩, fun z => absurd z a2⟩, fun M hM => (q1 M hM).trans (b7 M hM), fun M hM => (q2 M).trans (b8 M hM)⟩
      · exact Or.inr ⟨p', k, z, h', g', w', rd', b1, b2, b3, b4, b5, fun M hM => (q1 M hM).trans (b6 M hM), fun M hM => (q2 M).trans (b7 M hM)⟩
  · have hf : fw (tx q) l C O < 10 := by
      unfold fw
      repeat' split
      all_goals omega
    obtain ⟨h', b1, b2⟩ := fail_c (k := fw (tx q) l C O) (q := q) hs (by omega) e0
    rw [show fl1 0 (fw (tx q) l C O) = fw (tx q) l C O from if_pos rfl, show fl2 0 fa (fw (tx q) l C O) q = nI q from if_pos ⟨rfl, e0⟩] at b2
    refine Or.inr ⟨q, fw (tx q) l C O, q, h', upd g 21 (nI (fw (tx q) l C O)), w, rd, by omega, hf, by omega, b2, ⟨(pk_un (by decide)).trans h17, pk_us, fun j hj => pk_un (by omega)⟩, fun M hM => ?_, fun M hM => ?_⟩
    · show f_X7_readClause _ = _
      rw [hC M hM, if_neg e0]
      exact b1 (ms M 5 w)
    · show f_X12_readsClause _ = _
      rw [hR M, if_neg e0]
