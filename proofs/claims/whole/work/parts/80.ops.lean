theorem op_feed {M : qM} {J : qJ} (hI : Inv M J) (a1 : Int32) : ∃ r M1 M2, f_X11_feed a1 M = some (r, M1) ∧ f_X12_feed a1 M1 = some (r, M2) ∧ Inv M2 J := by
  sorry
theorem op_deanery {M : qM} {J : qJ} (hI : Inv M J)  : ∃ r M1 M2, f_X11_deanery  M = some (r, M1) ∧ f_X12_deanery  M1 = some (r, M2) ∧ Inv M2 J := by
  sorry
theorem op_fault {M : qM} {J : qJ} (hI : Inv M J)  : ∃ r, f_X11_fault  M = some r ∧ f_X12_fault  M = some r ∧ Inv M J := by
  sorry
theorem op_told {M : qM} {J : qJ} (hI : Inv M J) (a1 : Int32) : ∃ r M1, f_X11_told a1 M = some (r, M1) ∧ f_X12_told a1 M1 = some r ∧ Inv M1 J := by
  sorry
theorem op_couple {M : qM} {J : qJ} (hI : Inv M J) (a1 : Int32) (a2 : Int32) : ∃ r, f_X11_couple a1 a2 M = some r ∧ f_X12_couple a1 a2 M = some r ∧ Inv M J := by
  sorry
theorem op_objector {M : qM} {J : qJ} (hI : Inv M J) (a1 : Int32) (a2 : Int32) : ∃ r, f_X11_objector a1 a2 M = some r ∧ f_X12_objector a1 a2 M = some r ∧ Inv M J := by
  sorry
theorem op_box {M : qM} {J : qJ} (hI : Inv M J) (a1 : Int32) (a2 : Int32) : ∃ r, f_X11_box a1 a2 M = some r ∧ f_X12_box a1 a2 M = some r ∧ Inv M J := by
  sorry
theorem op_against {M : qM} {J : qJ} (hI : Inv M J) (a1 : Int32) (a2 : Int32) (a3 : Int32) : ∃ r, f_X11_against a1 a2 a3 M = some r ∧ f_X12_against a1 a2 a3 M = some r ∧ Inv M J := by
  sorry
theorem op_stand {M : qM} {J : qJ} (hI : Inv M J) (a1 : Int32) (a2 : Int32) : ∃ r M1 M2, f_X11_stand a1 a2 M = some (r, M1) ∧ f_X12_stand a1 a2 M1 = some (r, M2) ∧ Inv M2 J := by
  sorry
theorem op_year {M : qM} {J : qJ} (hI : Inv M J) (a1 : Int32) : ∃ r M1 M2, f_X11_year a1 M = some (r, M1) ∧ f_X12_year a1 M1 = some (r, M2) ∧ Inv M2 J := by
  sorry
theorem op_teach {M : qM} {J : qJ} (hI : Inv M J) (a1 : Int32) (a2 : Int32) (a3 : Int32) (h3 : a3 = nI 0 ∨ a3 = nI 1) : ∃ r M1 M2, f_X11_teach a1 a2 a3 M = some (r, M1) ∧ f_X12_teach a1 a2 a3 M1 = some (r, M2) ∧ Inv M2 J := by
  sorry
theorem op_hear {M : qM} {J : qJ} (hI : Inv M J) (a1 : Int32) (a2 : Int32) (a3 : Int32) : ∃ r M1 M2, f_X11_hear a1 a2 a3 M = some (r, M1) ∧ f_X12_hear a1 a2 a3 M1 = some (r, M2) ∧ Inv M2 J := by
  sorry
theorem op_practise {M : qM} {J : qJ} (hI : Inv M J) (a1 : Int32) (a2 : Int32) : ∃ r M1 M2, f_X11_practise a1 a2 M = some (r, M1) ∧ f_X12_practise a1 a2 M1 = some (r, M2) ∧ Inv M2 J := by
  sorry
theorem op_sour {M : qM} {J : qJ} (hI : Inv M J) (a1 : Int32) (a2 : Int32) : ∃ r M1 M2, f_X11_sour a1 a2 M = some (r, M1) ∧ f_X12_sour a1 a2 M1 = some (r, M2) ∧ Inv M2 J := by
  sorry
theorem op_drift {M : qM} {J : qJ} (hI : Inv M J) (a1 : Int32) : ∃ r M1 M2 J2, f_X11_drift a1 M = some (r, M1) ∧ f_X12_drift a1 M1 J = some (r, M2, J2) ∧ Inv M2 J2 := by
  sorry
theorem op_undo {M : qM} {J : qJ} (hI : Inv M J)  : ∃ r M1 M2, f_X11_undo  M = some (r, M1) ∧ f_X12_undo  M1 = some (r, M2) ∧ Inv M2 J := by
  sorry
theorem op_soonest {M : qM} {J : qJ} (hI : Inv M J) (a1 : Int32) (a2 : Int32) : ∃ r M2, f_X11_soonest a1 a2 M = some r ∧ f_X12_soonest a1 a2 M = some (r, M2) ∧ Inv M2 J := by
  sorry
theorem op_match {M : qM} {J : qJ} (hI : Inv M J) (a1 : Int32) : ∃ r M1 M2, f_X11_match a1 M = some (r, M1) ∧ f_X12_match a1 M1 = some (r, M2) ∧ Inv M2 J := by
  sorry
theorem op_rounds {M : qM} {J : qJ} (hI : Inv M J) (a1 : Int32) (a2 : Int32) (a3 : Int32) : ∃ r M1 M2, f_X11_rounds a1 a2 a3 M = some (r, M1) ∧ f_X12_rounds a1 a2 a3 M1 = some (r, M2) ∧ Inv M2 J := by
  sorry
theorem op_holds {M : qM} {J : qJ} (hI : Inv M J) (a1 : Int32) (a2 : Int32) : ∃ r, f_X11_holds a1 a2 M = some r ∧ f_X12_holds a1 a2 M = some r ∧ Inv M J := by
  sorry
theorem op_dry {M : qM} {J : qJ} (hI : Inv M J) (a1 : Int32) (a2 : Int32) : ∃ r, f_X11_dry a1 a2 M = some r ∧ f_X12_dry a1 a2 M = some r ∧ Inv M J := by
  sorry
theorem op_say {M : qM} {J : qJ} (hI : Inv M J) (a1 : Int32) (a2 : Int32) (a3 : Int32) : ∃ r M1 M2, f_X11_say a1 a2 a3 M = some (r, M1) ∧ f_X12_say a1 a2 a3 M1 = some (r, M2) ∧ Inv M2 J := by
  sorry
theorem op_weights {M : qM} {J : qJ} (hI : Inv M J) (a1 : Int32) : ∃ r, f_X11_weights a1 M = some r ∧ f_X12_weights a1 M = some r ∧ Inv M J := by
  sorry
theorem op_ask {M : qM} {J : qJ} (hI : Inv M J)  : ∃ r, f_X11_ask  M = some r ∧ f_X12_ask  M = some r ∧ Inv M J := by
  sorry
theorem op_write {M : qM} {J : qJ} (hI : Inv M J) (a1 : Int32) (a2 : Int32) : ∃ r M1 M2, f_X11_write a1 a2 M = some (r, M1) ∧ f_X12_write a1 a2 M1 = some (r, M2) ∧ Inv M2 J := by
  sorry
theorem op_tear {M : qM} {J : qJ} (hI : Inv M J)  : ∃ r M1 M2, f_X11_tear  M = some (r, M1) ∧ f_X12_tear  M1 = some (r, M2) ∧ Inv M2 J := by
  sorry
theorem op_judge {M : qM} {J : qJ} (hI : Inv M J)  : ∃ r, f_X11_judge  M = some r ∧ f_X12_judge  M = some r ∧ Inv M J := by
  sorry
theorem op_seed {M : qM} {J : qJ} (hI : Inv M J) (a1 : Int32) : ∃ r M1 J2, f_X11_seed a1 M = some (r, M1) ∧ f_X12_seed a1 M1 J = some (r, J2) ∧ Inv M1 J2 := by
  sorry
theorem op_keep {M : qM} {J : qJ} (hI : Inv M J) (a1 : Int32) : ∃ r M1 M2, f_X11_keep a1 M = some (r, M1) ∧ f_X12_keep a1 M1 J = some (r, M2) ∧ Inv M2 J := by
  sorry
theorem op_goBack {M : qM} {J : qJ} (hI : Inv M J) (a1 : Int32) : ∃ r M1 M2 J2, f_X11_goBack a1 M = some (r, M1) ∧ f_X12_goBack a1 M1 J = some (r, M2, J2) ∧ Inv M2 J2 := by
  sorry
