def f_X11_couple (a1 : Int32) (a2 : Int32) (M : qM) : Option Int32 :=
  (f_X5_hasCouple a1 M).bind fun b3 => if b3 = true then (f_X11_isOutside a2 (nI 0) (nI 4) M).bind fun b7 => if b7 = true then if a2 = nI 5 then (f_X5_answer a1 M).bind fun r12 => some (r12)
    else if a2 = nI 6 then (f_X5_fate a1 M).bind fun r16 => some (r16)
    else if a2 = nI 7 then (f_X5_fate a1 M).bind fun r20 => if r20 = (nI 1) then (f_X5_strong a1 M).bind fun r24 => some (r24)
    else some ((-1 : Int32))
    else if a2 = nI 8 then (f_X10_can a1 M).bind fun r28 => some (r28)
    else if a2 = nI 9 then (f_X10_weakest a1 M).bind fun r32 => some (r32)
    else some ((-1000000002 : Int32))
    else (f_X5_weight a1 a2 M).bind fun r35 => some (r35)
    else some ((-1000000001 : Int32))
set_option maxRecDepth 20000 in
set_option maxHeartbeats 4000000 in
theorem a_X11_couple {G : qG} {a1 : Int32} {a2 : Int32} {M : qM} {J : qJ} {r : Int32} (h : f_X11_couple a1 a2 M = some (r)) : QM G 5 0 0 YX11_couple [.ref 0, .int a1, .int a2] SH M J (some (.int r), SH, M, J) := by
  refine ⟨Nat.le_of_ble_eq_true rfl, Or.inl rfl, ?_⟩
  show QW G (qrm 5 0 0) YX11_couple 0 0 0 [some (.ref 0), some (.int a1), some (.int a2)] [] SH M J _
  unfold f_X11_couple at h
  refine q_aload_n (pc := 0) dX11_couple_0 rfl ?_
  refine q_getf (pc := 1) (f := 0) (v := .ref 1) dX11_couple_1 sh_0 cl_10 inX11 rfl (by decide) lk_X11_10 rfl ?_
  refine q_iload_n (pc := 4) dX11_couple_4 rfl ?_
  obtain ⟨b3, h2, h⟩ := Option.bind_eq_some_iff.mp h
  refine q_callv (pc := 5) (st := []) (a_X5_hasCouple h2) okX5_hasCouple rfl dX11_couple_5 lk_X11_161 sh_1 cl_5 rfl (by decide) (by decide) (Nat.le_of_ble_eq_true rfl) ⟨Nat.le_of_ble_eq_true rfl, Nat.le_of_ble_eq_true rfl⟩ rfl ?_
  show QW G (qrm 5 0 0) YX11_couple 0 0 8 [some (.ref 0), some (.int a1), some (.int a2)] [.int (qb b3)] SH M J _
  by_cases k4 : b3 = true
  · rw [if_pos k4] at h
    refine q_if_ne_t (pc := 8) (tgt := 14) dX11_couple_8 (by decide) (qb_t k4) ?_
    refine q_iload_n (pc := 14) dX11_couple_14 rfl ?_
    refine q_iconst (pc := 15) (v := nI 0) dX11_couple_15 (by decide) ?_
    refine q_iconst (pc := 16) (v := nI 4) dX11_couple_16 (by decide) ?_
    obtain ⟨b7, h6, h⟩ := Option.bind_eq_some_iff.mp h
    refine q_calls (pc := 17) (st := []) (a_X11_isOutside h6) okX11_isOutside rfl dX11_couple_17 lk_X11_79 rfl (by decide) (by decide) (Nat.le_of_ble_eq_true rfl) ⟨Nat.le_of_ble_eq_true rfl, Nat.le_of_ble_eq_true rfl⟩ rfl ?_
    show QW G (qrm 5 0 0) YX11_couple 0 0 20 [some (.ref 0), some (.int a1), some (.int a2)] [.int (qb b7)] SH M J _
    by_cases k8 : b7 = true
    · rw [if_pos k8] at h
      refine q_if_ne_t (pc := 20) (tgt := 33) dX11_couple_20 (by decide) (qb_t k8) ?_
      refine q_iload_n (pc := 33) dX11_couple_33 rfl ?_
      by_cases k9 : a2 = nI 5
      · rw [if_pos k9] at h
        refine q_tabIn (pc := 34) (tgt := 68) (off := 34) (j := 5) dX11_couple_34 (by rw [k9]; rfl) (by decide) (by decide) rfl (by decide) ?_
        refine q_aload_n (pc := 68) dX11_couple_68 rfl ?_
        refine q_getf (pc := 69) (f := 0) (v := .ref 1) dX11_couple_69 sh_0 cl_10 inX11 rfl (by decide) lk_X11_10 rfl ?_
        refine q_iload_n (pc := 72) dX11_couple_72 rfl ?_
        obtain ⟨r12, h11, h⟩ := Option.bind_eq_some_iff.mp h
        refine q_callv (pc := 73) (st := []) (a_X5_answer h11) okX5_answer rfl dX11_couple_73 lk_X11_170 sh_1 cl_5 rfl (by decide) (by decide) (Nat.le_of_ble_eq_true rfl) ⟨Nat.le_of_ble_eq_true rfl, Nat.le_of_ble_eq_true rfl⟩ rfl ?_
        show QW G (qrm 5 0 0) YX11_couple 0 0 76 [some (.ref 0), some (.int a1), some (.int a2)] [.int r12] SH M J _
        obtain rfl := Option.some.inj h
        exact q_iret (pc := 76) dX11_couple_76 rfl rfl rfl
      · rw [if_neg k9] at h
        by_cases k13 : a2 = nI 6
        · rw [if_pos k13] at h
          refine q_tabIn (pc := 34) (tgt := 77) (off := 43) (j := 6) dX11_couple_34 (by rw [k13]; rfl) (by decide) (by decide) rfl (by decide) ?_
          refine q_aload_n (pc := 77) dX11_couple_77 rfl ?_
          refine q_getf (pc := 78) (f := 0) (v := .ref 1) dX11_couple_78 sh_0 cl_10 inX11 rfl (by decide) lk_X11_10 rfl ?_
          refine q_iload_n (pc := 81) dX11_couple_81 rfl ?_
          obtain ⟨r16, h15, h⟩ := Option.bind_eq_some_iff.mp h
          refine q_callv (pc := 82) (st := []) (a_X5_fate h15) okX5_fate rfl dX11_couple_82 lk_X11_173 sh_1 cl_5 rfl (by decide) (by decide) (Nat.le_of_ble_eq_true rfl) ⟨Nat.le_of_ble_eq_true rfl, Nat.le_of_ble_eq_true rfl⟩ rfl ?_
          show QW G (qrm 5 0 0) YX11_couple 0 0 85 [some (.ref 0), some (.int a1), some (.int a2)] [.int r16] SH M J _
          obtain rfl := Option.some.inj h
          exact q_iret (pc := 85) dX11_couple_85 rfl rfl rfl
        · rw [if_neg k13] at h
          by_cases k17 : a2 = nI 7
          · rw [if_pos k17] at h
            refine q_tabIn (pc := 34) (tgt := 86) (off := 52) (j := 7) dX11_couple_34 (by rw [k17]; rfl) (by decide) (by decide) rfl (by decide) ?_
            refine q_aload_n (pc := 86) dX11_couple_86 rfl ?_
            refine q_getf (pc := 87) (f := 0) (v := .ref 1) dX11_couple_87 sh_0 cl_10 inX11 rfl (by decide) lk_X11_10 rfl ?_
            refine q_iload_n (pc := 90) dX11_couple_90 rfl ?_
            obtain ⟨r20, h19, h⟩ := Option.bind_eq_some_iff.mp h
            refine q_callv (pc := 91) (st := []) (a_X5_fate h19) okX5_fate rfl dX11_couple_91 lk_X11_173 sh_1 cl_5 rfl (by decide) (by decide) (Nat.le_of_ble_eq_true rfl) ⟨Nat.le_of_ble_eq_true rfl, Nat.le_of_ble_eq_true rfl⟩ rfl ?_
            show QW G (qrm 5 0 0) YX11_couple 0 0 94 [some (.ref 0), some (.int a1), some (.int a2)] [.int r20] SH M J _
            refine q_iconst (pc := 94) (v := nI 1) dX11_couple_94 (by decide) ?_
            by_cases k21 : r20 = (nI 1)
            · rw [if_pos k21] at h
              refine q_icmp_ne_f (pc := 95) (tgt := 109) dX11_couple_95 (by decide) k21 ?_
              refine q_aload_n (pc := 98) dX11_couple_98 rfl ?_
              refine q_getf (pc := 99) (f := 0) (v := .ref 1) dX11_couple_99 sh_0 cl_10 inX11 rfl (by decide) lk_X11_10 rfl ?_
              refine q_iload_n (pc := 102) dX11_couple_102 rfl ?_
              obtain ⟨r24, h23, h⟩ := Option.bind_eq_some_iff.mp h
              refine q_callv (pc := 103) (st := []) (a_X5_strong h23) okX5_strong rfl dX11_couple_103 lk_X11_176 sh_1 cl_5 rfl (by decide) (by decide) (Nat.le_of_ble_eq_true rfl) ⟨Nat.le_of_ble_eq_true rfl, Nat.le_of_ble_eq_true rfl⟩ rfl ?_
              show QW G (qrm 5 0 0) YX11_couple 0 0 106 [some (.ref 0), some (.int a1), some (.int a2)] [.int r24] SH M J _
              refine q_goto (pc := 106) (tgt := 110) dX11_couple_106 (by decide) ?_
              obtain rfl := Option.some.inj h
              exact q_iret (pc := 110) dX11_couple_110 rfl rfl rfl
            · rw [if_neg k21] at h
              refine q_icmp_ne_t (pc := 95) (tgt := 109) dX11_couple_95 (by decide) k21 ?_
              refine q_iconst (pc := 109) (v := (-1 : Int32)) dX11_couple_109 (by decide) ?_
              obtain rfl := Option.some.inj h
              exact q_iret (pc := 110) dX11_couple_110 rfl rfl rfl
          · rw [if_neg k17] at h
            by_cases k25 : a2 = nI 8
            · rw [if_pos k25] at h
              refine q_tabIn (pc := 34) (tgt := 111) (off := 77) (j := 8) dX11_couple_34 (by rw [k25]; rfl) (by decide) (by decide) rfl (by decide) ?_
              refine q_aload_n (pc := 111) dX11_couple_111 rfl ?_
              refine q_getf (pc := 112) (f := 0) (v := .ref 1) dX11_couple_112 sh_0 cl_10 inX11 rfl (by decide) lk_X11_10 rfl ?_
              refine q_iload_n (pc := 115) dX11_couple_115 rfl ?_
              obtain ⟨r28, h27, h⟩ := Option.bind_eq_some_iff.mp h
              refine q_calls (pc := 116) (st := []) (a_X10_can h27) okX10_can rfl dX11_couple_116 lk_X11_179 rfl (by decide) (by decide) (Nat.le_of_ble_eq_true rfl) ⟨Nat.le_of_ble_eq_true rfl, Nat.le_of_ble_eq_true rfl⟩ rfl ?_
              show QW G (qrm 5 0 0) YX11_couple 0 0 119 [some (.ref 0), some (.int a1), some (.int a2)] [.int r28] SH M J _
              obtain rfl := Option.some.inj h
              exact q_iret (pc := 119) dX11_couple_119 rfl rfl rfl
            · rw [if_neg k25] at h
              by_cases k29 : a2 = nI 9
              · rw [if_pos k29] at h
                refine q_tabIn (pc := 34) (tgt := 120) (off := 86) (j := 9) dX11_couple_34 (by rw [k29]; rfl) (by decide) (by decide) rfl (by decide) ?_
                refine q_aload_n (pc := 120) dX11_couple_120 rfl ?_
                refine q_getf (pc := 121) (f := 0) (v := .ref 1) dX11_couple_121 sh_0 cl_10 inX11 rfl (by decide) lk_X11_10 rfl ?_
                refine q_iload_n (pc := 124) dX11_couple_124 rfl ?_
                obtain ⟨r32, h31, h⟩ := Option.bind_eq_some_iff.mp h
                refine q_calls (pc := 125) (st := []) (a_X10_weakest h31) okX10_weakest rfl dX11_couple_125 lk_X11_183 rfl (by decide) (by decide) (Nat.le_of_ble_eq_true rfl) ⟨Nat.le_of_ble_eq_true rfl, Nat.le_of_ble_eq_true rfl⟩ rfl ?_
                show QW G (qrm 5 0 0) YX11_couple 0 0 128 [some (.ref 0), some (.int a1), some (.int a2)] [.int r32] SH M J _
                obtain rfl := Option.some.inj h
                exact q_iret (pc := 128) dX11_couple_128 rfl rfl rfl
              · rw [if_neg k29] at h
                have hsw : a2.toInt < (5) ∨ (9) < a2.toInt := by
                  have := lv_neT k9 (show (nI 5).toInt = 5 from rfl)
                  have := lv_neT k13 (show (nI 6).toInt = 6 from rfl)
                  have := lv_neT k17 (show (nI 7).toInt = 7 from rfl)
                  have := lv_neT k25 (show (nI 8).toInt = 8 from rfl)
                  have := lv_neT k29 (show (nI 9).toInt = 9 from rfl)
                  omega
                refine q_tabOut (pc := 34) (tgt := 129) dX11_couple_34 hsw (by decide) ?_
                refine q_ldc (pc := 129) (v := (-1000000002 : Int32)) dX11_couple_129 lk_X11_83 ?_
                obtain rfl := Option.some.inj h
                exact q_iret (pc := 131) dX11_couple_131 rfl rfl rfl
    · rw [if_neg k8] at h
      refine q_if_ne_f (pc := 20) (tgt := 33) dX11_couple_20 (by decide) (qb_f k8) ?_
      refine q_aload_n (pc := 23) dX11_couple_23 rfl ?_
      refine q_getf (pc := 24) (f := 0) (v := .ref 1) dX11_couple_24 sh_0 cl_10 inX11 rfl (by decide) lk_X11_10 rfl ?_
      refine q_iload_n (pc := 27) dX11_couple_27 rfl ?_
      refine q_iload_n (pc := 28) dX11_couple_28 rfl ?_
      obtain ⟨r35, h34, h⟩ := Option.bind_eq_some_iff.mp h
      refine q_callv (pc := 29) (st := []) (a_X5_weight h34) okX5_weight rfl dX11_couple_29 lk_X11_166 sh_1 cl_5 rfl (by decide) (by decide) (Nat.le_of_ble_eq_true rfl) ⟨Nat.le_of_ble_eq_true rfl, Nat.le_of_ble_eq_true rfl⟩ rfl ?_
      show QW G (qrm 5 0 0) YX11_couple 0 0 32 [some (.ref 0), some (.int a1), some (.int a2)] [.int r35] SH M J _
      obtain rfl := Option.some.inj h
      exact q_iret (pc := 32) dX11_couple_32 rfl rfl rfl
  · rw [if_neg k4] at h
    refine q_if_ne_f (pc := 8) (tgt := 14) dX11_couple_8 (by decide) (qb_f k4) ?_
    refine q_ldc (pc := 11) (v := (-1000000001 : Int32)) dX11_couple_11 lk_X11_165 ?_
    obtain rfl := Option.some.inj h
    exact q_iret (pc := 13) dX11_couple_13 rfl rfl rfl
def f_X5_hasObjector (a1 : Int32) (M : qM) : Option Bool :=
  if a1 < 0 then some (false)
    else (qrd M 2 172 (nI 2)).bind fun v2 => if v2 ≤ a1 then some (false)
    else some (true)
set_option maxRecDepth 20000 in
set_option maxHeartbeats 4000000 in
theorem a_X5_hasObjector {G : qG} {a1 : Int32} {M : qM} {J : qJ} {r : Bool} (h : f_X5_hasObjector a1 M = some (r)) : QM G 0 0 0 YX5_hasObjector [.ref 1, .int a1] SH M J (some (.int (qb r)), SH, M, J) := by
  refine ⟨Nat.le_of_ble_eq_true rfl, Or.inr ⟨rfl, _, rfl⟩, ?_⟩
  show QW G (qrm 0 0 0) YX5_hasObjector 0 0 0 [some (.ref 1), some (.int a1)] [] SH M J _
  unfold f_X5_hasObjector at h
  refine q_iload_n (pc := 0) dX5_hasObjector_0 rfl ?_
  by_cases k1 : a1 < 0
  · rw [if_pos k1] at h
    refine q_if_lt_t (pc := 1) (tgt := 18) dX5_hasObjector_1 (by decide) k1 ?_
    refine q_iconst (pc := 18) (v := nI 0) dX5_hasObjector_18 (by decide) ?_
    obtain rfl := Option.some.inj h
    exact q_iret (pc := 19) dX5_hasObjector_19 rfl rfl rfl
  · rw [if_neg k1] at h
    refine q_if_lt_f (pc := 1) (tgt := 18) dX5_hasObjector_1 (by decide) k1 ?_
    refine q_iload_n (pc := 4) dX5_hasObjector_4 rfl ?_
    refine q_aload_n (pc := 5) dX5_hasObjector_5 rfl ?_
    refine q_getf (pc := 6) (f := 0) (v := .ref 2) dX5_hasObjector_6 sh_1 cl_5 inX5 rfl (by decide) lk_X5_11 rfl ?_
    refine q_iconst (pc := 9) (v := nI 2) dX5_hasObjector_9 (by decide) ?_
    obtain ⟨v2, h3, h⟩ := Option.bind_eq_some_iff.mp h
    refine q_iald (pc := 10) dX5_hasObjector_10 sh_2 h3 ?_
    by_cases k4 : v2 ≤ a1
    · rw [if_pos k4] at h
      refine q_icmp_ge_t (pc := 11) (tgt := 18) dX5_hasObjector_11 (by decide) k4 ?_
      refine q_iconst (pc := 18) (v := nI 0) dX5_hasObjector_18 (by decide) ?_
      obtain rfl := Option.some.inj h
      exact q_iret (pc := 19) dX5_hasObjector_19 rfl rfl rfl
    · rw [if_neg k4] at h
      refine q_icmp_ge_f (pc := 11) (tgt := 18) dX5_hasObjector_11 (by decide) k4 ?_
      refine q_iconst (pc := 14) (v := nI 1) dX5_hasObjector_14 (by decide) ?_
      refine q_goto (pc := 15) (tgt := 19) dX5_hasObjector_15 (by decide) ?_
      obtain rfl := Option.some.inj h
      exact q_iret (pc := 19) dX5_hasObjector_19 rfl rfl rfl
def f_X5_hasStood (a1 : Int32) (M : qM) : Option Bool :=
  (qrd M 2 172 (nI 4)).bind fun v1 => if ((v1 >>> (a1 &&& 31)) &&& (nI 1)) = (nI 1) then some (true)
    else some (false)
set_option maxRecDepth 20000 in
set_option maxHeartbeats 4000000 in
theorem a_X5_hasStood {G : qG} {a1 : Int32} {M : qM} {J : qJ} {r : Bool} (h : f_X5_hasStood a1 M = some (r)) : QM G 0 0 0 YX5_hasStood [.ref 1, .int a1] SH M J (some (.int (qb r)), SH, M, J) := by
  refine ⟨Nat.le_of_ble_eq_true rfl, Or.inr ⟨rfl, _, rfl⟩, ?_⟩
  show QW G (qrm 0 0 0) YX5_hasStood 0 0 0 [some (.ref 1), some (.int a1)] [] SH M J _
  unfold f_X5_hasStood at h
  refine q_aload_n (pc := 0) dX5_hasStood_0 rfl ?_
  refine q_getf (pc := 1) (f := 0) (v := .ref 2) dX5_hasStood_1 sh_1 cl_5 inX5 rfl (by decide) lk_X5_11 rfl ?_
  refine q_iconst (pc := 4) (v := nI 4) dX5_hasStood_4 (by decide) ?_
  obtain ⟨v1, h2, h⟩ := Option.bind_eq_some_iff.mp h
  refine q_iald (pc := 5) dX5_hasStood_5 sh_2 h2 ?_
  refine q_iload_n (pc := 6) dX5_hasStood_6 rfl ?_
  refine q_ishr (pc := 7) dX5_hasStood_7 ?_
  refine q_iconst (pc := 8) (v := nI 1) dX5_hasStood_8 (by decide) ?_
  refine q_iand (pc := 9) dX5_hasStood_9 ?_
  refine q_iconst (pc := 10) (v := nI 1) dX5_hasStood_10 (by decide) ?_
  by_cases k3 : ((v1 >>> (a1 &&& 31)) &&& (nI 1)) = (nI 1)
  · rw [if_pos k3] at h
    refine q_icmp_ne_f (pc := 11) (tgt := 18) dX5_hasStood_11 (by decide) k3 ?_
    refine q_iconst (pc := 14) (v := nI 1) dX5_hasStood_14 (by decide) ?_
    refine q_goto (pc := 15) (tgt := 19) dX5_hasStood_15 (by decide) ?_
    obtain rfl := Option.some.inj h
    exact q_iret (pc := 19) dX5_hasStood_19 rfl rfl rfl
  · rw [if_neg k3] at h
    refine q_icmp_ne_t (pc := 11) (tgt := 18) dX5_hasStood_11 (by decide) k3 ?_
    refine q_iconst (pc := 18) (v := nI 0) dX5_hasStood_18 (by decide) ?_
    obtain rfl := Option.some.inj h
    exact q_iret (pc := 19) dX5_hasStood_19 rfl rfl rfl
def f_X11_objector (a1 : Int32) (a2 : Int32) (M : qM) : Option Int32 :=
  (f_X5_hasObjector a1 M).bind fun b3 => if b3 = true then if a2 = nI 0 then (f_X5_kind a1 M).bind fun r8 => some (r8)
    else if a2 = nI 1 then (f_X5_skill a1 M).bind fun r12 => some (r12)
    else if a2 = nI 2 then (f_X5_known a1 M).bind fun r16 => some (r16)
    else if a2 = nI 3 then (f_X5_hasStood a1 M).bind fun b20 => if b20 = true then some (nI 1)
    else some (nI 0)
    else some ((-1000000002 : Int32))
    else some ((-1000000001 : Int32))
set_option maxRecDepth 20000 in
set_option maxHeartbeats 4000000 in
theorem a_X11_objector {G : qG} {a1 : Int32} {a2 : Int32} {M : qM} {J : qJ} {r : Int32} (h : f_X11_objector a1 a2 M = some (r)) : QM G 1 0 0 YX11_objector [.ref 0, .int a1, .int a2] SH M J (some (.int r), SH, M, J) := by
  refine ⟨Nat.le_of_ble_eq_true rfl, Or.inl rfl, ?_⟩
  show QW G (qrm 1 0 0) YX11_objector 0 0 0 [some (.ref 0), some (.int a1), some (.int a2)] [] SH M J _
  unfold f_X11_objector at h
  refine q_aload_n (pc := 0) dX11_objector_0 rfl ?_
  refine q_getf (pc := 1) (f := 0) (v := .ref 1) dX11_objector_1 sh_0 cl_10 inX11 rfl (by decide) lk_X11_10 rfl ?_
  refine q_iload_n (pc := 4) dX11_objector_4 rfl ?_
  obtain ⟨b3, h2, h⟩ := Option.bind_eq_some_iff.mp h
  refine q_callv (pc := 5) (st := []) (a_X5_hasObjector h2) okX5_hasObjector rfl dX11_objector_5 lk_X11_186 sh_1 cl_5 rfl (by decide) (by decide) (Nat.le_of_ble_eq_true rfl) ⟨Nat.le_of_ble_eq_true rfl, Nat.le_of_ble_eq_true rfl⟩ rfl ?_
  show QW G (qrm 1 0 0) YX11_objector 0 0 8 [some (.ref 0), some (.int a1), some (.int a2)] [.int (qb b3)] SH M J _
  by_cases k4 : b3 = true
  · rw [if_pos k4] at h
    refine q_if_ne_t (pc := 8) (tgt := 14) dX11_objector_8 (by decide) (qb_t k4) ?_
    refine q_iload_n (pc := 14) dX11_objector_14 rfl ?_
    by_cases k5 : a2 = nI 0
    · rw [if_pos k5] at h
      refine q_tabIn (pc := 15) (tgt := 44) (off := 29) (j := 0) dX11_objector_15 (by rw [k5]; rfl) (by decide) (by decide) rfl (by decide) ?_
      refine q_aload_n (pc := 44) dX11_objector_44 rfl ?_
      refine q_getf (pc := 45) (f := 0) (v := .ref 1) dX11_objector_45 sh_0 cl_10 inX11 rfl (by decide) lk_X11_10 rfl ?_
      refine q_iload_n (pc := 48) dX11_objector_48 rfl ?_
      obtain ⟨r8, h7, h⟩ := Option.bind_eq_some_iff.mp h
      refine q_callv (pc := 49) (st := []) (a_X5_kind h7) okX5_kind rfl dX11_objector_49 lk_X11_189 sh_1 cl_5 rfl (by decide) (by decide) (Nat.le_of_ble_eq_true rfl) ⟨Nat.le_of_ble_eq_true rfl, Nat.le_of_ble_eq_true rfl⟩ rfl ?_
      show QW G (qrm 1 0 0) YX11_objector 0 0 52 [some (.ref 0), some (.int a1), some (.int a2)] [.int r8] SH M J _
      obtain rfl := Option.some.inj h
      exact q_iret (pc := 52) dX11_objector_52 rfl rfl rfl
    · rw [if_neg k5] at h
      by_cases k9 : a2 = nI 1
      · rw [if_pos k9] at h
        refine q_tabIn (pc := 15) (tgt := 53) (off := 38) (j := 1) dX11_objector_15 (by rw [k9]; rfl) (by decide) (by decide) rfl (by decide) ?_
        refine q_aload_n (pc := 53) dX11_objector_53 rfl ?_
        refine q_getf (pc := 54) (f := 0) (v := .ref 1) dX11_objector_54 sh_0 cl_10 inX11 rfl (by decide) lk_X11_10 rfl ?_
        refine q_iload_n (pc := 57) dX11_objector_57 rfl ?_
        obtain ⟨r12, h11, h⟩ := Option.bind_eq_some_iff.mp h
        refine q_callv (pc := 58) (st := []) (a_X5_skill h11) okX5_skill rfl dX11_objector_58 lk_X11_192 sh_1 cl_5 rfl (by decide) (by decide) (Nat.le_of_ble_eq_true rfl) ⟨Nat.le_of_ble_eq_true rfl, Nat.le_of_ble_eq_true rfl⟩ rfl ?_
        show QW G (qrm 1 0 0) YX11_objector 0 0 61 [some (.ref 0), some (.int a1), some (.int a2)] [.int r12] SH M J _
        obtain rfl := Option.some.inj h
        exact q_iret (pc := 61) dX11_objector_61 rfl rfl rfl
      · rw [if_neg k9] at h
        by_cases k13 : a2 = nI 2
        · rw [if_pos k13] at h
          refine q_tabIn (pc := 15) (tgt := 62) (off := 47) (j := 2) dX11_objector_15 (by rw [k13]; rfl) (by decide) (by decide) rfl (by decide) ?_
          refine q_aload_n (pc := 62) dX11_objector_62 rfl ?_
          refine q_getf (pc := 63) (f := 0) (v := .ref 1) dX11_objector_63 sh_0 cl_10 inX11 rfl (by decide) lk_X11_10 rfl ?_
          refine q_iload_n (pc := 66) dX11_objector_66 rfl ?_
          obtain ⟨r16, h15, h⟩ := Option.bind_eq_some_iff.mp h
          refine q_callv (pc := 67) (st := []) (a_X5_known h15) okX5_known rfl dX11_objector_67 lk_X11_195 sh_1 cl_5 rfl (by decide) (by decide) (Nat.le_of_ble_eq_true rfl) ⟨Nat.le_of_ble_eq_true rfl, Nat.le_of_ble_eq_true rfl⟩ rfl ?_
          show QW G (qrm 1 0 0) YX11_objector 0 0 70 [some (.ref 0), some (.int a1), some (.int a2)] [.int r16] SH M J _
          obtain rfl := Option.some.inj h
          exact q_iret (pc := 70) dX11_objector_70 rfl rfl rfl
        · rw [if_neg k13] at h
          by_cases k17 : a2 = nI 3
          · rw [if_pos k17] at h
            refine q_tabIn (pc := 15) (tgt := 71) (off := 56) (j := 3) dX11_objector_15 (by rw [k17]; rfl) (by decide) (by decide) rfl (by decide) ?_
            refine q_aload_n (pc := 71) dX11_objector_71 rfl ?_
            refine q_getf (pc := 72) (f := 0) (v := .ref 1) dX11_objector_72 sh_0 cl_10 inX11 rfl (by decide) lk_X11_10 rfl ?_
            refine q_iload_n (pc := 75) dX11_objector_75 rfl ?_
            obtain ⟨b20, h19, h⟩ := Option.bind_eq_some_iff.mp h
            refine q_callv (pc := 76) (st := []) (a_X5_hasStood h19) okX5_hasStood rfl dX11_objector_76 lk_X11_198 sh_1 cl_5 rfl (by decide) (by decide) (Nat.le_of_ble_eq_true rfl) ⟨Nat.le_of_ble_eq_true rfl, Nat.le_of_ble_eq_true rfl⟩ rfl ?_
            show QW G (qrm 1 0 0) YX11_objector 0 0 79 [some (.ref 0), some (.int a1), some (.int a2)] [.int (qb b20)] SH M J _
            by_cases k21 : b20 = true
            · rw [if_pos k21] at h
              refine q_if_eq_f (pc := 79) (tgt := 86) dX11_objector_79 (by decide) (qb_t k21) ?_
              refine q_iconst (pc := 82) (v := nI 1) dX11_objector_82 (by decide) ?_
              refine q_goto (pc := 83) (tgt := 87) dX11_objector_83 (by decide) ?_
              obtain rfl := Option.some.inj h
              exact q_iret (pc := 87) dX11_objector_87 rfl rfl rfl
            · rw [if_neg k21] at h
              refine q_if_eq_t (pc := 79) (tgt := 86) dX11_objector_79 (by decide) (qb_f k21) ?_
              refine q_iconst (pc := 86) (v := nI 0) dX11_objector_86 (by decide) ?_
              obtain rfl := Option.some.inj h
              exact q_iret (pc := 87) dX11_objector_87 rfl rfl rfl
          · rw [if_neg k17] at h
            have hsw : a2.toInt < (0) ∨ (3) < a2.toInt := by
              have := lv_neT k5 (show (nI 0).toInt = 0 from rfl)
              have := lv_neT k9 (show (nI 1).toInt = 1 from rfl)
              have := lv_neT k13 (show (nI 2).toInt = 2 from rfl)
              have := lv_neT k17 (show (nI 3).toInt = 3 from rfl)
              omega
            refine q_tabOut (pc := 15) (tgt := 88) dX11_objector_15 hsw (by decide) ?_
            refine q_ldc (pc := 88) (v := (-1000000002 : Int32)) dX11_objector_88 lk_X11_83 ?_
            obtain rfl := Option.some.inj h
            exact q_iret (pc := 90) dX11_objector_90 rfl rfl rfl
  · rw [if_neg k4] at h
    refine q_if_ne_f (pc := 8) (tgt := 14) dX11_objector_8 (by decide) (qb_f k4) ?_
    refine q_ldc (pc := 11) (v := (-1000000001 : Int32)) dX11_objector_11 lk_X11_165 ?_
    obtain rfl := Option.some.inj h
    exact q_iret (pc := 13) dX11_objector_13 rfl rfl rfl
def f_X5_fromBox (a1 : Int32) (a2 : Int32) (M : qM) : Option Int32 :=
  (qrd M 2 172 (((nI 72) + (a1 * (nI 5))) + a2)).bind fun v1 => some (v1)
set_option maxRecDepth 20000 in
set_option maxHeartbeats 4000000 in
theorem a_X5_fromBox {G : qG} {a1 : Int32} {a2 : Int32} {M : qM} {J : qJ} {r : Int32} (h : f_X5_fromBox a1 a2 M = some (r)) : QM G 0 0 0 YX5_fromBox [.ref 1, .int a1, .int a2] SH M J (some (.int r), SH, M, J) := by
  refine ⟨Nat.le_of_ble_eq_true rfl, Or.inl rfl, ?_⟩
  show QW G (qrm 0 0 0) YX5_fromBox 0 0 0 [some (.ref 1), some (.int a1), some (.int a2)] [] SH M J _
  unfold f_X5_fromBox at h
  refine q_aload_n (pc := 0) dX5_fromBox_0 rfl ?_
  refine q_getf (pc := 1) (f := 0) (v := .ref 2) dX5_fromBox_1 sh_1 cl_5 inX5 rfl (by decide) lk_X5_11 rfl ?_
  refine q_bipush (pc := 4) (v := nI 72) dX5_fromBox_4 (by decide) ?_
  refine q_iload_n (pc := 6) dX5_fromBox_6 rfl ?_
  refine q_iconst (pc := 7) (v := nI 5) dX5_fromBox_7 (by decide) ?_
  refine q_imul (pc := 8) dX5_fromBox_8 ?_
  refine q_iadd (pc := 9) dX5_fromBox_9 ?_
  refine q_iload_n (pc := 10) dX5_fromBox_10 rfl ?_
  refine q_iadd (pc := 11) dX5_fromBox_11 ?_
  obtain ⟨v1, h2, h⟩ := Option.bind_eq_some_iff.mp h
  refine q_iald (pc := 12) dX5_fromBox_12 sh_2 h2 ?_
  obtain rfl := Option.some.inj h
  exact q_iret (pc := 13) dX5_fromBox_13 rfl rfl rfl
def f_X11_box (a1 : Int32) (a2 : Int32) (M : qM) : Option Int32 :=
  (f_X11_isOutside a2 (nI 0) (nI 4) M).bind fun b3 => if b3 = true then some ((-1000000002 : Int32))
    else (f_X5_boxed M).bind fun r7 => (f_X11_isOutside a1 (nI 0) (r7 - (nI 1)) M).bind fun b10 => if b10 = true then some ((-1 : Int32))
    else (f_X5_fromBox a1 a2 M).bind fun r14 => some (r14)
set_option maxRecDepth 20000 in
set_option maxHeartbeats 4000000 in
theorem a_X11_box {G : qG} {a1 : Int32} {a2 : Int32} {M : qM} {J : qJ} {r : Int32} (h : f_X11_box a1 a2 M = some (r)) : QM G 1 0 0 YX11_box [.ref 0, .int a1, .int a2] SH M J (some (.int r), SH, M, J) := by
  refine ⟨Nat.le_of_ble_eq_true rfl, Or.inl rfl, ?_⟩
  show QW G (qrm 1 0 0) YX11_box 0 0 0 [some (.ref 0), some (.int a1), some (.int a2)] [] SH M J _
  unfold f_X11_box at h
  refine q_iload_n (pc := 0) dX11_box_0 rfl ?_
  refine q_iconst (pc := 1) (v := nI 0) dX11_box_1 (by decide) ?_
  refine q_iconst (pc := 2) (v := nI 4) dX11_box_2 (by decide) ?_
  obtain ⟨b3, h2, h⟩ := Option.bind_eq_some_iff.mp h
  refine q_calls (pc := 3) (st := []) (a_X11_isOutside h2) okX11_isOutside rfl dX11_box_3 lk_X11_79 rfl (by decide) (by decide) (Nat.le_of_ble_eq_true rfl) ⟨Nat.le_of_ble_eq_true rfl, Nat.le_of_ble_eq_true rfl⟩ rfl ?_
  show QW G (qrm 1 0 0) YX11_box 0 0 6 [some (.ref 0), some (.int a1), some (.int a2)] [.int (qb b3)] SH M J _
  by_cases k4 : b3 = true
  · rw [if_pos k4] at h
    refine q_if_eq_f (pc := 6) (tgt := 12) dX11_box_6 (by decide) (qb_t k4) ?_
    refine q_ldc (pc := 9) (v := (-1000000002 : Int32)) dX11_box_9 lk_X11_83 ?_
    obtain rfl := Option.some.inj h
    exact q_iret (pc := 11) dX11_box_11 rfl rfl rfl
  · rw [if_neg k4] at h
    refine q_if_eq_t (pc := 6) (tgt := 12) dX11_box_6 (by decide) (qb_f k4) ?_
    refine q_iload_n (pc := 12) dX11_box_12 rfl ?_
    refine q_iconst (pc := 13) (v := nI 0) dX11_box_13 (by decide) ?_
    refine q_aload_n (pc := 14) dX11_box_14 rfl ?_
    refine q_getf (pc := 15) (f := 0) (v := .ref 1) dX11_box_15 sh_0 cl_10 inX11 rfl (by decide) lk_X11_10 rfl ?_
    obtain ⟨r7, h6, h⟩ := Option.bind_eq_some_iff.mp h
    refine q_callv (pc := 18) (st := [.int (nI 0), .int a1]) (a_X5_boxed h6) okX5_boxed rfl dX11_box_18 lk_X11_141 sh_1 cl_5 rfl (by decide) (by decide) (Nat.le_of_ble_eq_true rfl) ⟨Nat.le_of_ble_eq_true rfl, Nat.le_of_ble_eq_true rfl⟩ rfl ?_
    show QW G (qrm 1 0 0) YX11_box 0 0 21 [some (.ref 0), some (.int a1), some (.int a2)] [.int r7, .int (nI 0), .int a1] SH M J _
    refine q_iconst (pc := 21) (v := nI 1) dX11_box_21 (by decide) ?_
    refine q_isub (pc := 22) dX11_box_22 ?_
    obtain ⟨b10, h9, h⟩ := Option.bind_eq_some_iff.mp h
    refine q_calls (pc := 23) (st := []) (a_X11_isOutside h9) okX11_isOutside rfl dX11_box_23 lk_X11_79 rfl (by decide) (by decide) (Nat.le_of_ble_eq_true rfl) ⟨Nat.le_of_ble_eq_true rfl, Nat.le_of_ble_eq_true rfl⟩ rfl ?_
    show QW G (qrm 1 0 0) YX11_box 0 0 26 [some (.ref 0), some (.int a1), some (.int a2)] [.int (qb b10)] SH M J _
    by_cases k11 : b10 = true
    · rw [if_pos k11] at h
      refine q_if_eq_f (pc := 26) (tgt := 33) dX11_box_26 (by decide) (qb_t k11) ?_
      refine q_iconst (pc := 29) (v := (-1 : Int32)) dX11_box_29 (by decide) ?_
      refine q_goto (pc := 30) (tgt := 42) dX11_box_30 (by decide) ?_
      obtain rfl := Option.some.inj h
      exact q_iret (pc := 42) dX11_box_42 rfl rfl rfl
    · rw [if_neg k11] at h
      refine q_if_eq_t (pc := 26) (tgt := 33) dX11_box_26 (by decide) (qb_f k11) ?_
      refine q_aload_n (pc := 33) dX11_box_33 rfl ?_
      refine q_getf (pc := 34) (f := 0) (v := .ref 1) dX11_box_34 sh_0 cl_10 inX11 rfl (by decide) lk_X11_10 rfl ?_
      refine q_iload_n (pc := 37) dX11_box_37 rfl ?_
      refine q_iload_n (pc := 38) dX11_box_38 rfl ?_
      obtain ⟨r14, h13, h⟩ := Option.bind_eq_some_iff.mp h
      refine q_callv (pc := 39) (st := []) (a_X5_fromBox h13) okX5_fromBox rfl dX11_box_39 lk_X11_201 sh_1 cl_5 rfl (by decide) (by decide) (Nat.le_of_ble_eq_true rfl) ⟨Nat.le_of_ble_eq_true rfl, Nat.le_of_ble_eq_true rfl⟩ rfl ?_
      show QW G (qrm 1 0 0) YX11_box 0 0 42 [some (.ref 0), some (.int a1), some (.int a2)] [.int r14] SH M J _
      obtain rfl := Option.some.inj h
      exact q_iret (pc := 42) dX11_box_42 rfl rfl rfl
def f_X11_against (a1 : Int32) (a2 : Int32) (a3 : Int32) (M : qM) : Option Int32 :=
  (f_X5_hasObjector a1 M).bind fun b3 => if b3 = true then (f_X5_hasCouple a2 M).bind fun b7 => if b7 = true then if a3 = nI 0 then (f_X5_strengthIn a1 a2 (nI 0) M).bind fun r12 => some (r12)
    else if a3 = nI 1 then (f_X5_reasonOf a1 a2 M).bind fun r16 => some (r16)
    else some ((-1000000002 : Int32))
    else some ((-1000000001 : Int32))
    else some ((-1000000001 : Int32))
set_option maxRecDepth 20000 in
set_option maxHeartbeats 4000000 in
theorem a_X11_against {G : qG} {a1 : Int32} {a2 : Int32} {a3 : Int32} {M : qM} {J : qJ} {r : Int32} (h : f_X11_against a1 a2 a3 M = some (r)) : QM G 3 0 0 YX11_against [.ref 0, .int a1, .int a2, .int a3] SH M J (some (.int r), SH, M, J) := by
  refine ⟨Nat.le_of_ble_eq_true rfl, Or.inl rfl, ?_⟩
  show QW G (qrm 3 0 0) YX11_against 0 0 0 [some (.ref 0), some (.int a1), some (.int a2), some (.int a3)] [] SH M J _
  unfold f_X11_against at h
  refine q_aload_n (pc := 0) dX11_against_0 rfl ?_
  refine q_getf (pc := 1) (f := 0) (v := .ref 1) dX11_against_1 sh_0 cl_10 inX11 rfl (by decide) lk_X11_10 rfl ?_
  refine q_iload_n (pc := 4) dX11_against_4 rfl ?_
  obtain ⟨b3, h2, h⟩ := Option.bind_eq_some_iff.mp h
  refine q_callv (pc := 5) (st := []) (a_X5_hasObjector h2) okX5_hasObjector rfl dX11_against_5 lk_X11_186 sh_1 cl_5 rfl (by decide) (by decide) (Nat.le_of_ble_eq_true rfl) ⟨Nat.le_of_ble_eq_true rfl, Nat.le_of_ble_eq_true rfl⟩ rfl ?_
  show QW G (qrm 3 0 0) YX11_against 0 0 8 [some (.ref 0), some (.int a1), some (.int a2), some (.int a3)] [.int (qb b3)] SH M J _
  by_cases k4 : b3 = true
  · rw [if_pos k4] at h
    refine q_if_eq_f (pc := 8) (tgt := 22) dX11_against_8 (by decide) (qb_t k4) ?_
    refine q_aload_n (pc := 11) dX11_against_11 rfl ?_
    refine q_getf (pc := 12) (f := 0) (v := .ref 1) dX11_against_12 sh_0 cl_10 inX11 rfl (by decide) lk_X11_10 rfl ?_
    refine q_iload_n (pc := 15) dX11_against_15 rfl ?_
    obtain ⟨b7, h6, h⟩ := Option.bind_eq_some_iff.mp h
    refine q_callv (pc := 16) (st := []) (a_X5_hasCouple h6) okX5_hasCouple rfl dX11_against_16 lk_X11_161 sh_1 cl_5 rfl (by decide) (by decide) (Nat.le_of_ble_eq_true rfl) ⟨Nat.le_of_ble_eq_true rfl, Nat.le_of_ble_eq_true rfl⟩ rfl ?_
    show QW G (qrm 3 0 0) YX11_against 0 0 19 [some (.ref 0), some (.int a1), some (.int a2), some (.int a3)] [.int (qb b7)] SH M J _
    by_cases k8 : b7 = true
    · rw [if_pos k8] at h
      refine q_if_ne_t (pc := 19) (tgt := 25) dX11_against_19 (by decide) (qb_t k8) ?_
      refine q_iload_n (pc := 25) dX11_against_25 rfl ?_
      by_cases k9 : a3 = nI 0
      · rw [if_pos k9] at h
        refine q_look (pc := 26) (tgt := 52) (off := 26) dX11_against_26 (by decide) (by rw [k9]; rfl) (by decide) ?_
        refine q_aload_n (pc := 52) dX11_against_52 rfl ?_
        refine q_getf (pc := 53) (f := 0) (v := .ref 1) dX11_against_53 sh_0 cl_10 inX11 rfl (by decide) lk_X11_10 rfl ?_
        refine q_iload_n (pc := 56) dX11_against_56 rfl ?_
        refine q_iload_n (pc := 57) dX11_against_57 rfl ?_
        refine q_iconst (pc := 58) (v := nI 0) dX11_against_58 (by decide) ?_
        obtain ⟨r12, h11, h⟩ := Option.bind_eq_some_iff.mp h
        refine q_callv (pc := 59) (st := []) (a_X5_strengthIn h11) okX5_strengthIn rfl dX11_against_59 lk_X11_204 sh_1 cl_5 rfl (by decide) (by decide) (Nat.le_of_ble_eq_true rfl) ⟨Nat.le_of_ble_eq_true rfl, Nat.le_of_ble_eq_true rfl⟩ rfl ?_
        show QW G (qrm 3 0 0) YX11_against 0 0 62 [some (.ref 0), some (.int a1), some (.int a2), some (.int a3)] [.int r12] SH M J _
        obtain rfl := Option.some.inj h
        exact q_iret (pc := 62) dX11_against_62 rfl rfl rfl
      · rw [if_neg k9] at h
        by_cases k13 : a3 = nI 1
        · rw [if_pos k13] at h
          refine q_look (pc := 26) (tgt := 63) (off := 37) dX11_against_26 (by decide) (by rw [k13]; rfl) (by decide) ?_
          refine q_aload_n (pc := 63) dX11_against_63 rfl ?_
          refine q_getf (pc := 64) (f := 0) (v := .ref 1) dX11_against_64 sh_0 cl_10 inX11 rfl (by decide) lk_X11_10 rfl ?_
          refine q_iload_n (pc := 67) dX11_against_67 rfl ?_
          refine q_iload_n (pc := 68) dX11_against_68 rfl ?_
          obtain ⟨r16, h15, h⟩ := Option.bind_eq_some_iff.mp h
          refine q_callv (pc := 69) (st := []) (a_X5_reasonOf h15) okX5_reasonOf rfl dX11_against_69 lk_X11_208 sh_1 cl_5 rfl (by decide) (by decide) (Nat.le_of_ble_eq_true rfl) ⟨Nat.le_of_ble_eq_true rfl, Nat.le_of_ble_eq_true rfl⟩ rfl ?_
          show QW G (qrm 3 0 0) YX11_against 0 0 72 [some (.ref 0), some (.int a1), some (.int a2), some (.int a3)] [.int r16] SH M J _
          obtain rfl := Option.some.inj h
          exact q_iret (pc := 72) dX11_against_72 rfl rfl rfl
        · rw [if_neg k13] at h
          refine q_look (pc := 26) (tgt := 73) (off := 47) dX11_against_26 (by decide) (by show Op.lookupswitch.offset [(0, 26), (1, 37)] 47 a3.toInt = _; rw [lv_osw k9 (show (nI 0).toInt = 0 from rfl), lv_osw k13 (show (nI 1).toInt = 1 from rfl)]; rfl) (by decide) ?_
          refine q_ldc (pc := 73) (v := (-1000000002 : Int32)) dX11_against_73 lk_X11_83 ?_
          obtain rfl := Option.some.inj h
          exact q_iret (pc := 75) dX11_against_75 rfl rfl rfl
    · rw [if_neg k8] at h
      refine q_if_ne_f (pc := 19) (tgt := 25) dX11_against_19 (by decide) (qb_f k8) ?_
      refine q_ldc (pc := 22) (v := (-1000000001 : Int32)) dX11_against_22 lk_X11_165 ?_
      obtain rfl := Option.some.inj h
      exact q_iret (pc := 24) dX11_against_24 rfl rfl rfl
  · rw [if_neg k4] at h
    refine q_if_eq_t (pc := 8) (tgt := 22) dX11_against_8 (by decide) (qb_f k4) ?_
    refine q_ldc (pc := 22) (v := (-1000000001 : Int32)) dX11_against_22 lk_X11_165 ?_
    obtain rfl := Option.some.inj h
    exact q_iret (pc := 24) dX11_against_24 rfl rfl rfl
def f_X5_mayStand (a1 : Int32) (a2 : Int32) (M : qM) : Option Bool :=
  (f_X5_waits a2 M).bind fun b3 => if b3 = true then (f_X5_hasStood a1 M).bind fun b7 => if b7 = true then some (false)
    else (f_X5_objects a1 a2 M).bind fun b11 => if b11 = true then some (true)
    else some (false)
    else some (false)
set_option maxRecDepth 20000 in
set_option maxHeartbeats 4000000 in
theorem a_X5_mayStand {G : qG} {a1 : Int32} {a2 : Int32} {M : qM} {J : qJ} {r : Bool} (h : f_X5_mayStand a1 a2 M = some (r)) : QM G 4 0 0 YX5_mayStand [.ref 1, .int a1, .int a2] SH M J (some (.int (qb r)), SH, M, J) := by
  refine ⟨Nat.le_of_ble_eq_true rfl, Or.inr ⟨rfl, _, rfl⟩, ?_⟩
  show QW G (qrm 4 0 0) YX5_mayStand 0 0 0 [some (.ref 1), some (.int a1), some (.int a2)] [] SH M J _
  unfold f_X5_mayStand at h
  refine q_aload_n (pc := 0) dX5_mayStand_0 rfl ?_
  refine q_iload_n (pc := 1) dX5_mayStand_1 rfl ?_
  obtain ⟨b3, h2, h⟩ := Option.bind_eq_some_iff.mp h
  refine q_callv (pc := 2) (st := []) (a_X5_waits h2) okX5_waits rfl dX5_mayStand_2 lk_X5_69 sh_1 cl_5 rfl (by decide) (by decide) (Nat.le_of_ble_eq_true rfl) ⟨Nat.le_of_ble_eq_true rfl, Nat.le_of_ble_eq_true rfl⟩ rfl ?_
  show QW G (qrm 4 0 0) YX5_mayStand 0 0 5 [some (.ref 1), some (.int a1), some (.int a2)] [.int (qb b3)] SH M J _
  by_cases k4 : b3 = true
  · rw [if_pos k4] at h
    refine q_if_eq_f (pc := 5) (tgt := 29) dX5_mayStand_5 (by decide) (qb_t k4) ?_
    refine q_aload_n (pc := 8) dX5_mayStand_8 rfl ?_
    refine q_iload_n (pc := 9) dX5_mayStand_9 rfl ?_
    obtain ⟨b7, h6, h⟩ := Option.bind_eq_some_iff.mp h
    refine q_callv (pc := 10) (st := []) (a_X5_hasStood h6) okX5_hasStood rfl dX5_mayStand_10 lk_X5_73 sh_1 cl_5 rfl (by decide) (by decide) (Nat.le_of_ble_eq_true rfl) ⟨Nat.le_of_ble_eq_true rfl, Nat.le_of_ble_eq_true rfl⟩ rfl ?_
    show QW G (qrm 4 0 0) YX5_mayStand 0 0 13 [some (.ref 1), some (.int a1), some (.int a2)] [.int (qb b7)] SH M J _
    by_cases k8 : b7 = true
    · rw [if_pos k8] at h
      refine q_if_ne_t (pc := 13) (tgt := 29) dX5_mayStand_13 (by decide) (qb_t k8) ?_
      refine q_iconst (pc := 29) (v := nI 0) dX5_mayStand_29 (by decide) ?_
      obtain rfl := Option.some.inj h
      exact q_iret (pc := 30) dX5_mayStand_30 rfl rfl rfl
    · rw [if_neg k8] at h
      refine q_if_ne_f (pc := 13) (tgt := 29) dX5_mayStand_13 (by decide) (qb_f k8) ?_
      refine q_aload_n (pc := 16) dX5_mayStand_16 rfl ?_
      refine q_iload_n (pc := 17) dX5_mayStand_17 rfl ?_
      refine q_iload_n (pc := 18) dX5_mayStand_18 rfl ?_
      obtain ⟨b11, h10, h⟩ := Option.bind_eq_some_iff.mp h
      refine q_callv (pc := 19) (st := []) (a_X5_objects h10) okX5_objects rfl dX5_mayStand_19 lk_X5_76 sh_1 cl_5 rfl (by decide) (by decide) (Nat.le_of_ble_eq_true rfl) ⟨Nat.le_of_ble_eq_true rfl, Nat.le_of_ble_eq_true rfl⟩ rfl ?_
      show QW G (qrm 4 0 0) YX5_mayStand 0 0 22 [some (.ref 1), some (.int a1), some (.int a2)] [.int (qb b11)] SH M J _
      by_cases k12 : b11 = true
      · rw [if_pos k12] at h
        refine q_if_eq_f (pc := 22) (tgt := 29) dX5_mayStand_22 (by decide) (qb_t k12) ?_
        refine q_iconst (pc := 25) (v := nI 1) dX5_mayStand_25 (by decide) ?_
        refine q_goto (pc := 26) (tgt := 30) dX5_mayStand_26 (by decide) ?_
        obtain rfl := Option.some.inj h
        exact q_iret (pc := 30) dX5_mayStand_30 rfl rfl rfl
      · rw [if_neg k12] at h
        refine q_if_eq_t (pc := 22) (tgt := 29) dX5_mayStand_22 (by decide) (qb_f k12) ?_
        refine q_iconst (pc := 29) (v := nI 0) dX5_mayStand_29 (by decide) ?_
        obtain rfl := Option.some.inj h
        exact q_iret (pc := 30) dX5_mayStand_30 rfl rfl rfl
  · rw [if_neg k4] at h
    refine q_if_eq_t (pc := 5) (tgt := 29) dX5_mayStand_5 (by decide) (qb_f k4) ?_
    refine q_iconst (pc := 29) (v := nI 0) dX5_mayStand_29 (by decide) ?_
    obtain rfl := Option.some.inj h
    exact q_iret (pc := 30) dX5_mayStand_30 rfl rfl rfl
def f_X5_copyTo_at1_8 (a2 : Int32) (M : qM) : Option qM :=
  (qco M 2 8 172 2752 (nI 0) a2 (nI 172)).bind fun M1 => some (M1)
set_option maxRecDepth 20000 in
set_option maxHeartbeats 4000000 in
theorem a_X5_copyTo_at1_8 {G : qG} {a2 : Int32} {M : qM} {J : qJ} {M' : qM} (h : f_X5_copyTo_at1_8 a2 M = some (M')) : QM G 1 0 0 YX5_copyTo [.ref 1, .ref 8, .int a2] SH M J (none, SH, M', J) := by
  refine ⟨Nat.le_of_ble_eq_true rfl, rfl, ?_⟩
  show QW G (qrm 1 0 0) YX5_copyTo 0 0 0 [some (.ref 1), some (.ref 8), some (.int a2)] [] SH M J _
  unfold f_X5_copyTo_at1_8 at h
  refine q_aload_n (pc := 0) dX5_copyTo_0 rfl ?_
  refine q_getf (pc := 1) (f := 0) (v := .ref 2) dX5_copyTo_1 sh_1 cl_5 inX5 rfl (by decide) lk_X5_11 rfl ?_
  refine q_iconst (pc := 4) (v := nI 0) dX5_copyTo_4 (by decide) ?_
  refine q_aload_n (pc := 5) dX5_copyTo_5 rfl ?_
  refine q_iload_n (pc := 6) dX5_copyTo_6 rfl ?_
  refine q_sipush (pc := 7) (v := nI 172) dX5_copyTo_7 (by decide) ?_
  obtain ⟨M1, h2, h⟩ := Option.bind_eq_some_iff.mp h
  refine q_copy (pc := 10) dX5_copyTo_10 lk_X5_21 sh_2 sh_8 h2 (by decide) (Nat.le_of_ble_eq_true rfl) ?_
  obtain rfl := Option.some.inj h
  exact q_vret (pc := 13) dX5_copyTo_13 rfl rfl rfl
def f_X6_remember  (M : qM) : Option qM :=
  (f_X5_copyTo_at1_8 ((M 7 1) * (nI 172)) M).bind fun M3 => (qrem ((M3 7 1) + (nI 1)) (nI 16)).bind fun v4 => (qpu M3 7 1 v4).bind fun M6 => (qpu M6 7 0 (qmin (nI 16) ((M6 7 0) + (nI 1)))).bind fun M8 => some (M8)
set_option maxRecDepth 20000 in
set_option maxHeartbeats 4000000 in
theorem a_X6_remember {G : qG}  {M : qM} {J : qJ} {M' : qM} (h : f_X6_remember  M = some (M')) : QM G 2 0 0 YX6_remember [.ref 7, .ref 1] SH M J (none, SH, M', J) := by
  refine ⟨Nat.le_of_ble_eq_true rfl, rfl, ?_⟩
  show QW G (qrm 2 0 0) YX6_remember 0 0 0 [some (.ref 7), some (.ref 1)] [] SH M J _
  unfold f_X6_remember at h
  refine q_aload_n (pc := 0) dX6_remember_0 rfl ?_
  refine q_aload_n (pc := 1) dX6_remember_1 rfl ?_
  refine q_getf (pc := 2) (f := 2) (v := .ref 8) dX6_remember_2 sh_7 cl_6 inX6 rfl (by decide) lk_X6_18 rfl ?_
  refine q_aload_n (pc := 5) dX6_remember_5 rfl ?_
  refine q_getf (pc := 6) (f := 1) (v := .int (M 7 1)) dX6_remember_6 sh_7 cl_6 inX6 rfl (by decide) lk_X6_13 rfl ?_
  refine q_sipush (pc := 9) (v := nI 172) dX6_remember_9 (by decide) ?_
  refine q_imul (pc := 12) dX6_remember_12 ?_
  obtain ⟨M3, h2, h⟩ := Option.bind_eq_some_iff.mp h
  refine q_callv (pc := 13) (st := []) (a_X5_copyTo_at1_8 h2) okX5_copyTo rfl dX6_remember_13 lk_X6_22 sh_1 cl_5 rfl (by decide) (by decide) (Nat.le_of_ble_eq_true rfl) ⟨Nat.le_of_ble_eq_true rfl, Nat.le_of_ble_eq_true rfl⟩ rfl ?_
  show QW G (qrm 2 0 0) YX6_remember 0 0 16 [some (.ref 7), some (.ref 1)] [] SH M3 J _
  refine q_aload_n (pc := 16) dX6_remember_16 rfl ?_
  refine q_aload_n (pc := 17) dX6_remember_17 rfl ?_
  refine q_getf (pc := 18) (f := 1) (v := .int (M3 7 1)) dX6_remember_18 sh_7 cl_6 inX6 rfl (by decide) lk_X6_13 rfl ?_
  refine q_iconst (pc := 21) (v := nI 1) dX6_remember_21 (by decide) ?_
  refine q_iadd (pc := 22) dX6_remember_22 ?_
  refine q_bipush (pc := 23) (v := nI 16) dX6_remember_23 (by decide) ?_
  obtain ⟨v4, h5, h⟩ := Option.bind_eq_some_iff.mp h
  refine q_irem (pc := 25) dX6_remember_25 h5 ?_
  obtain ⟨M6, h7, h⟩ := Option.bind_eq_some_iff.mp h
  refine q_putI (pc := 26) (f := 1) tyX6 dX6_remember_26 sh_7 cl_6 inX6 tyX6_ok nmX6 rfl (by decide) lk_X6_13 rfl rfl rfl h7 ?_
  refine q_aload_n (pc := 29) dX6_remember_29 rfl ?_
  refine q_bipush (pc := 30) (v := nI 16) dX6_remember_30 (by decide) ?_
  refine q_aload_n (pc := 32) dX6_remember_32 rfl ?_
  refine q_getf (pc := 33) (f := 0) (v := .int (M6 7 0)) dX6_remember_33 sh_7 cl_6 inX6 rfl (by decide) lk_X6_7 rfl ?_
  refine q_iconst (pc := 36) (v := nI 1) dX6_remember_36 (by decide) ?_
  refine q_iadd (pc := 37) dX6_remember_37 ?_
  refine q_min (pc := 38) dX6_remember_38 lk_X6_26 (by decide) (Nat.le_of_ble_eq_true rfl) (Nat.le_of_ble_eq_true rfl) (Nat.le_of_ble_eq_true rfl) ?_
  obtain ⟨M8, h9, h⟩ := Option.bind_eq_some_iff.mp h
  refine q_putI (pc := 41) (f := 0) tyX6 dX6_remember_41 sh_7 cl_6 inX6 tyX6_ok nmX6 rfl (by decide) lk_X6_7 rfl rfl rfl h9 ?_
  obtain rfl := Option.some.inj h
  exact q_vret (pc := 44) dX6_remember_44 rfl rfl rfl
def f_X5_putIntoBox_L5 (x1 : Int32) (x2 : Int32) (x3 : Int32) : Nat → Int32 → qM → Option (Int32 × qM)
  | 0, _, _ => none
  | n + 1, c4, M =>
  if c4 < (nI 77) then some (c4, M)
    else (qrd M 2 172 (c4 - (nI 5))).bind fun v2 => (qwr M 2 172 c4 v2).bind fun M4 => f_X5_putIntoBox_L5 x1 x2 x3 n (c4 + (-1 : Int32)) M4
set_option maxRecDepth 20000 in
set_option maxHeartbeats 4000000 in
theorem l_X5_putIntoBox_L5 {G : qG} {ρ : qR} (x1 : Int32) (x2 : Int32) (x3 : Int32) (J : qJ) : ∀ (n : Nat) (c4 : Int32) (M : qM) (res : Int32 × qM), f_X5_putIntoBox_L5 x1 x2 x3 n c4 M = some res → (∀ x : Int32 × qM, res = x → QW G (qrm 2 0 0) YX5_putIntoBox 0 0 34 [some (.ref 1), some (.int x1), some (.int x2), some (.int x3), none] [] SH x.2 J ρ) → QW G (qrm 2 0 0) YX5_putIntoBox 0 0 5 [some (.ref 1), some (.int x1), some (.int x2), some (.int x3), some (.int c4)] [] SH M J ρ
  | 0, _, _, _, h, _ => by simp [f_X5_putIntoBox_L5] at h
  | n + 1, c4, M, res, h, hk => by
    rw [f_X5_putIntoBox_L5] at h
    refine q_iload (pc := 5) dX5_putIntoBox_5 rfl ?_
    refine q_bipush (pc := 7) (v := nI 77) dX5_putIntoBox_7 (by decide) ?_
    by_cases k1 : c4 < (nI 77)
    · rw [if_pos k1] at h
      refine q_icmp_lt_t (pc := 9) (tgt := 34) dX5_putIntoBox_9 (by decide) k1 ?_
      refine q_weak (ls' := [some (.ref 1), some (.int x1), some (.int x2), some (.int x3), none]) ⟨rfl, ⟨rfl, ⟨rfl, ⟨rfl, trivial⟩⟩⟩⟩ ?_
      obtain rfl := Option.some.inj h
      exact hk (c4, M) rfl
    · rw [if_neg k1] at h
      refine q_icmp_lt_f (pc := 9) (tgt := 34) dX5_putIntoBox_9 (by decide) k1 ?_
      refine q_aload_n (pc := 12) dX5_putIntoBox_12 rfl ?_
      refine q_getf (pc := 13) (f := 0) (v := .ref 2) dX5_putIntoBox_13 sh_1 cl_5 inX5 rfl (by decide) lk_X5_11 rfl ?_
      refine q_iload (pc := 16) dX5_putIntoBox_16 rfl ?_
      refine q_aload_n (pc := 18) dX5_putIntoBox_18 rfl ?_
      refine q_getf (pc := 19) (f := 0) (v := .ref 2) dX5_putIntoBox_19 sh_1 cl_5 inX5 rfl (by decide) lk_X5_11 rfl ?_
      refine q_iload (pc := 22) dX5_putIntoBox_22 rfl ?_
      refine q_iconst (pc := 24) (v := nI 5) dX5_putIntoBox_24 (by decide) ?_
      refine q_isub (pc := 25) dX5_putIntoBox_25 ?_
      obtain ⟨v2, h3, h⟩ := Option.bind_eq_some_iff.mp h
      refine q_iald (pc := 26) dX5_putIntoBox_26 sh_2 h3 ?_
      obtain ⟨M4, h5, h⟩ := Option.bind_eq_some_iff.mp h
      refine q_iast (pc := 27) dX5_putIntoBox_27 sh_2 h5 ?_
      refine q_iincW (pc := 28) (w := (-1 : Int32)) (ls' := [some (.ref 1), some (.int x1), some (.int x2), some (.int x3), some (.int (c4 + (-1 : Int32)))]) dX5_putIntoBox_28 rfl (by decide) (by decide) rfl rfl ?_
      refine q_goto (pc := 31) (tgt := 5) dX5_putIntoBox_31 (by decide) ?_
      exact l_X5_putIntoBox_L5 x1 x2 x3 J n (c4 + (-1 : Int32)) M4 res h hk
def f_X5_putIntoBox (a1 : Int32) (a2 : Int32) (a3 : Int32) (M : qM) : Option qM :=
  (f_X5_putIntoBox_L5 a1 a2 a3 qF (nI 171) M).bind fun e6 => (f_X5_years e6.2).bind fun r10 => (qwr e6.2 2 172 (nI 72) r10).bind fun M11 => (qwr M11 2 172 (nI 73) a2).bind fun M13 => (qwr M13 2 172 (nI 74) a1).bind fun M15 => (f_X5_reasonOf a1 a2 M15).bind fun r19 => (qwr M15 2 172 (nI 75) r19).bind fun M20 => (qwr M20 2 172 (nI 76) a3).bind fun M22 => (qrd M22 2 172 (nI 5)).bind fun v24 => (qwr M22 2 172 (nI 5) (qmin (nI 20) (v24 + (nI 1)))).bind fun M26 => some (M26)
set_option maxRecDepth 20000 in
set_option maxHeartbeats 4000000 in
theorem a_X5_putIntoBox {G : qG} {a1 : Int32} {a2 : Int32} {a3 : Int32} {M : qM} {J : qJ} {M' : qM} (h : f_X5_putIntoBox a1 a2 a3 M = some (M')) : QM G 2 0 0 YX5_putIntoBox [.ref 1, .int a1, .int a2, .int a3] SH M J (none, SH, M', J) := by
  refine ⟨Nat.le_of_ble_eq_true rfl, rfl, ?_⟩
  show QW G (qrm 2 0 0) YX5_putIntoBox 0 0 0 [some (.ref 1), some (.int a1), some (.int a2), some (.int a3), none] [] SH M J _
  unfold f_X5_putIntoBox at h
  refine q_sipush (pc := 0) (v := nI 171) dX5_putIntoBox_0 (by decide) ?_
  refine q_istore (pc := 3) (ls' := [some (.ref 1), some (.int a1), some (.int a2), some (.int a3), some (.int (nI 171))]) dX5_putIntoBox_3 (by decide) rfl rfl ?_
  obtain ⟨⟨e6_4, M7⟩, h28, h⟩ := Option.bind_eq_some_iff.mp h
  try dsimp only at h
  refine l_X5_putIntoBox_L5 a1 a2 a3 J qF (nI 171) M _ h28 (fun x hx => ?_)
  subst hx
  show QW G (qrm 2 0 0) YX5_putIntoBox 0 0 34 [some (.ref 1), some (.int a1), some (.int a2), some (.int a3), none] [] SH M7 J _
  refine q_aload_n (pc := 34) dX5_putIntoBox_34 rfl ?_
  refine q_getf (pc := 35) (f := 0) (v := .ref 2) dX5_putIntoBox_35 sh_1 cl_5 inX5 rfl (by decide) lk_X5_11 rfl ?_
  refine q_bipush (pc := 38) (v := nI 72) dX5_putIntoBox_38 (by decide) ?_
  refine q_aload_n (pc := 40) dX5_putIntoBox_40 rfl ?_
  obtain ⟨r10, h9, h⟩ := Option.bind_eq_some_iff.mp h
  refine q_callv (pc := 41) (st := [.int (nI 72), .ref 2]) (a_X5_years h9) okX5_years rfl dX5_putIntoBox_41 lk_X5_88 sh_1 cl_5 rfl (by decide) (by decide) (Nat.le_of_ble_eq_true rfl) ⟨Nat.le_of_ble_eq_true rfl, Nat.le_of_ble_eq_true rfl⟩ rfl ?_
  show QW G (qrm 2 0 0) YX5_putIntoBox 0 0 44 [some (.ref 1), some (.int a1), some (.int a2), some (.int a3), none] [.int r10, .int (nI 72), .ref 2] SH M7 J _
  obtain ⟨M11, h12, h⟩ := Option.bind_eq_some_iff.mp h
  refine q_iast (pc := 44) dX5_putIntoBox_44 sh_2 h12 ?_
  refine q_aload_n (pc := 45) dX5_putIntoBox_45 rfl ?_
  refine q_getf (pc := 46) (f := 0) (v := .ref 2) dX5_putIntoBox_46 sh_1 cl_5 inX5 rfl (by decide) lk_X5_11 rfl ?_
  refine q_bipush (pc := 49) (v := nI 73) dX5_putIntoBox_49 (by decide) ?_
  refine q_iload_n (pc := 51) dX5_putIntoBox_51 rfl ?_
  obtain ⟨M13, h14, h⟩ := Option.bind_eq_some_iff.mp h
  refine q_iast (pc := 52) dX5_putIntoBox_52 sh_2 h14 ?_
  refine q_aload_n (pc := 53) dX5_putIntoBox_53 rfl ?_
  refine q_getf (pc := 54) (f := 0) (v := .ref 2) dX5_putIntoBox_54 sh_1 cl_5 inX5 rfl (by decide) lk_X5_11 rfl ?_
  refine q_bipush (pc := 57) (v := nI 74) dX5_putIntoBox_57 (by decide) ?_
  refine q_iload_n (pc := 59) dX5_putIntoBox_59 rfl ?_
  obtain ⟨M15, h16, h⟩ := Option.bind_eq_some_iff.mp h
  refine q_iast (pc := 60) dX5_putIntoBox_60 sh_2 h16 ?_
  refine q_aload_n (pc := 61) dX5_putIntoBox_61 rfl ?_
  refine q_getf (pc := 62) (f := 0) (v := .ref 2) dX5_putIntoBox_62 sh_1 cl_5 inX5 rfl (by decide) lk_X5_11 rfl ?_
  refine q_bipush (pc := 65) (v := nI 75) dX5_putIntoBox_65 (by decide) ?_
  refine q_aload_n (pc := 67) dX5_putIntoBox_67 rfl ?_
  refine q_iload_n (pc := 68) dX5_putIntoBox_68 rfl ?_
  refine q_iload_n (pc := 69) dX5_putIntoBox_69 rfl ?_
  obtain ⟨r19, h18, h⟩ := Option.bind_eq_some_iff.mp h
  refine q_callv (pc := 70) (st := [.int (nI 75), .ref 2]) (a_X5_reasonOf h18) okX5_reasonOf rfl dX5_putIntoBox_70 lk_X5_45 sh_1 cl_5 rfl (by decide) (by decide) (Nat.le_of_ble_eq_true rfl) ⟨Nat.le_of_ble_eq_true rfl, Nat.le_of_ble_eq_true rfl⟩ rfl ?_
  show QW G (qrm 2 0 0) YX5_putIntoBox 0 0 73 [some (.ref 1), some (.int a1), some (.int a2), some (.int a3), none] [.int r19, .int (nI 75), .ref 2] SH M15 J _
  obtain ⟨M20, h21, h⟩ := Option.bind_eq_some_iff.mp h
  refine q_iast (pc := 73) dX5_putIntoBox_73 sh_2 h21 ?_
  refine q_aload_n (pc := 74) dX5_putIntoBox_74 rfl ?_
  refine q_getf (pc := 75) (f := 0) (v := .ref 2) dX5_putIntoBox_75 sh_1 cl_5 inX5 rfl (by decide) lk_X5_11 rfl ?_
  refine q_bipush (pc := 78) (v := nI 76) dX5_putIntoBox_78 (by decide) ?_
  refine q_iload_n (pc := 80) dX5_putIntoBox_80 rfl ?_
  obtain ⟨M22, h23, h⟩ := Option.bind_eq_some_iff.mp h
  refine q_iast (pc := 81) dX5_putIntoBox_81 sh_2 h23 ?_
  refine q_aload_n (pc := 82) dX5_putIntoBox_82 rfl ?_
  refine q_getf (pc := 83) (f := 0) (v := .ref 2) dX5_putIntoBox_83 sh_1 cl_5 inX5 rfl (by decide) lk_X5_11 rfl ?_
  refine q_iconst (pc := 86) (v := nI 5) dX5_putIntoBox_86 (by decide) ?_
  refine q_bipush (pc := 87) (v := nI 20) dX5_putIntoBox_87 (by decide) ?_
  refine q_aload_n (pc := 89) dX5_putIntoBox_89 rfl ?_
  refine q_getf (pc := 90) (f := 0) (v := .ref 2) dX5_putIntoBox_90 sh_1 cl_5 inX5 rfl (by decide) lk_X5_11 rfl ?_
  refine q_iconst (pc := 93) (v := nI 5) dX5_putIntoBox_93 (by decide) ?_
  obtain ⟨v24, h25, h⟩ := Option.bind_eq_some_iff.mp h
  refine q_iald (pc := 94) dX5_putIntoBox_94 sh_2 h25 ?_
  refine q_iconst (pc := 95) (v := nI 1) dX5_putIntoBox_95 (by decide) ?_
  refine q_iadd (pc := 96) dX5_putIntoBox_96 ?_
  refine q_min (pc := 97) dX5_putIntoBox_97 lk_X5_51 (by decide) (Nat.le_of_ble_eq_true rfl) (Nat.le_of_ble_eq_true rfl) (Nat.le_of_ble_eq_true rfl) ?_
  obtain ⟨M26, h27, h⟩ := Option.bind_eq_some_iff.mp h
  refine q_iast (pc := 100) dX5_putIntoBox_100 sh_2 h27 ?_
  obtain rfl := Option.some.inj h
  exact q_vret (pc := 101) dX5_putIntoBox_101 rfl rfl rfl
def f_X5_standUp (a1 : Int32) (a2 : Int32) (M : qM) : Option qM :=
  (f_X5_strengthIn a1 a2 (nI 0) M).bind fun r3 => (qwr M 2 172 ((nI 18) + a2) r3).bind fun M4 => (f_X5_wedIn a1 a2 (nI 0) M4).bind fun b8 => if b8 = true then (qwr M4 2 172 ((nI 12) + a2) (nI 1)).bind fun M10 => (qrd M10 2 172 (nI 4)).bind fun v12 => (qwr M10 2 172 (nI 4) (v12 ||| ((nI 1) <<< (a1 &&& 31)))).bind fun M14 => (f_X5_putIntoBox a1 a2 r3 M14).bind fun M18 => some (M18)
    else (qwr M4 2 172 ((nI 12) + a2) (nI 2)).bind fun M19 => (qrd M19 2 172 (nI 4)).bind fun v21 => (qwr M19 2 172 (nI 4) (v21 ||| ((nI 1) <<< (a1 &&& 31)))).bind fun M23 => (f_X5_putIntoBox a1 a2 r3 M23).bind fun M27 => some (M27)
set_option maxRecDepth 20000 in
set_option maxHeartbeats 4000000 in
theorem a_X5_standUp {G : qG} {a1 : Int32} {a2 : Int32} {M : qM} {J : qJ} {M' : qM} (h : f_X5_standUp a1 a2 M = some (M')) : QM G 4 0 0 YX5_standUp [.ref 1, .int a1, .int a2] SH M J (none, SH, M', J) := by
  refine ⟨Nat.le_of_ble_eq_true rfl, rfl, ?_⟩
  show QW G (qrm 4 0 0) YX5_standUp 0 0 0 [some (.ref 1), some (.int a1), some (.int a2), none] [] SH M J _
  unfold f_X5_standUp at h
  refine q_aload_n (pc := 0) dX5_standUp_0 rfl ?_
  refine q_iload_n (pc := 1) dX5_standUp_1 rfl ?_
  refine q_iload_n (pc := 2) dX5_standUp_2 rfl ?_
  refine q_iconst (pc := 3) (v := nI 0) dX5_standUp_3 (by decide) ?_
  obtain ⟨r3, h2, h⟩ := Option.bind_eq_some_iff.mp h
  refine q_callv (pc := 4) (st := []) (a_X5_strengthIn h2) okX5_strengthIn rfl dX5_standUp_4 lk_X5_60 sh_1 cl_5 rfl (by decide) (by decide) (Nat.le_of_ble_eq_true rfl) ⟨Nat.le_of_ble_eq_true rfl, Nat.le_of_ble_eq_true rfl⟩ rfl ?_
  show QW G (qrm 4 0 0) YX5_standUp 0 0 7 [some (.ref 1), some (.int a1), some (.int a2), none] [.int r3] SH M J _
  refine q_istore_n (pc := 7) (ls' := [some (.ref 1), some (.int a1), some (.int a2), some (.int r3)]) dX5_standUp_7 (by decide) rfl rfl ?_
  refine q_aload_n (pc := 8) dX5_standUp_8 rfl ?_
  refine q_getf (pc := 9) (f := 0) (v := .ref 2) dX5_standUp_9 sh_1 cl_5 inX5 rfl (by decide) lk_X5_11 rfl ?_
  refine q_bipush (pc := 12) (v := nI 18) dX5_standUp_12 (by decide) ?_
  refine q_iload_n (pc := 14) dX5_standUp_14 rfl ?_
  refine q_iadd (pc := 15) dX5_standUp_15 ?_
  refine q_iload_n (pc := 16) dX5_standUp_16 rfl ?_
  obtain ⟨M4, h5, h⟩ := Option.bind_eq_some_iff.mp h
  refine q_iast (pc := 17) dX5_standUp_17 sh_2 h5 ?_
  refine q_aload_n (pc := 18) dX5_standUp_18 rfl ?_
  refine q_getf (pc := 19) (f := 0) (v := .ref 2) dX5_standUp_19 sh_1 cl_5 inX5 rfl (by decide) lk_X5_11 rfl ?_
  refine q_bipush (pc := 22) (v := nI 12) dX5_standUp_22 (by decide) ?_
  refine q_iload_n (pc := 24) dX5_standUp_24 rfl ?_
  refine q_iadd (pc := 25) dX5_standUp_25 ?_
  refine q_aload_n (pc := 26) dX5_standUp_26 rfl ?_
  refine q_iload_n (pc := 27) dX5_standUp_27 rfl ?_
  refine q_iload_n (pc := 28) dX5_standUp_28 rfl ?_
  refine q_iconst (pc := 29) (v := nI 0) dX5_standUp_29 (by decide) ?_
  obtain ⟨b8, h7, h⟩ := Option.bind_eq_some_iff.mp h
  refine q_callv (pc := 30) (st := [.int ((nI 12) + a2), .ref 2]) (a_X5_wedIn h7) okX5_wedIn rfl dX5_standUp_30 lk_X5_80 sh_1 cl_5 rfl (by decide) (by decide) (Nat.le_of_ble_eq_true rfl) ⟨Nat.le_of_ble_eq_true rfl, Nat.le_of_ble_eq_true rfl⟩ rfl ?_
  show QW G (qrm 4 0 0) YX5_standUp 0 0 33 [some (.ref 1), some (.int a1), some (.int a2), some (.int r3)] [.int (qb b8), .int ((nI 12) + a2), .ref 2] SH M4 J _
  by_cases k9 : b8 = true
  · rw [if_pos k9] at h
    refine q_if_eq_f (pc := 33) (tgt := 40) dX5_standUp_33 (by decide) (qb_t k9) ?_
    refine q_iconst (pc := 36) (v := nI 1) dX5_standUp_36 (by decide) ?_
    refine q_goto (pc := 37) (tgt := 41) dX5_standUp_37 (by decide) ?_
    obtain ⟨M10, h11, h⟩ := Option.bind_eq_some_iff.mp h
    refine q_iast (pc := 41) dX5_standUp_41 sh_2 h11 ?_
    refine q_aload_n (pc := 42) dX5_standUp_42 rfl ?_
    refine q_getf (pc := 43) (f := 0) (v := .ref 2) dX5_standUp_43 sh_1 cl_5 inX5 rfl (by decide) lk_X5_11 rfl ?_
    refine q_iconst (pc := 46) (v := nI 4) dX5_standUp_46 (by decide) ?_
    refine q_dup2 (pc := 47) dX5_standUp_47 rfl rfl ?_
    obtain ⟨v12, h13, h⟩ := Option.bind_eq_some_iff.mp h
    refine q_iald (pc := 48) dX5_standUp_48 sh_2 h13 ?_
    refine q_iconst (pc := 49) (v := nI 1) dX5_standUp_49 (by decide) ?_
    refine q_iload_n (pc := 50) dX5_standUp_50 rfl ?_
    refine q_ishl (pc := 51) dX5_standUp_51 ?_
    refine q_ior (pc := 52) dX5_standUp_52 ?_
    obtain ⟨M14, h15, h⟩ := Option.bind_eq_some_iff.mp h
    refine q_iast (pc := 53) dX5_standUp_53 sh_2 h15 ?_
    refine q_aload_n (pc := 54) dX5_standUp_54 rfl ?_
    refine q_iload_n (pc := 55) dX5_standUp_55 rfl ?_
    refine q_iload_n (pc := 56) dX5_standUp_56 rfl ?_
    refine q_iload_n (pc := 57) dX5_standUp_57 rfl ?_
    obtain ⟨M18, h17, h⟩ := Option.bind_eq_some_iff.mp h
    refine q_callv (pc := 58) (st := []) (a_X5_putIntoBox h17) okX5_putIntoBox rfl dX5_standUp_58 lk_X5_84 sh_1 cl_5 rfl (by decide) (by decide) (Nat.le_of_ble_eq_true rfl) ⟨Nat.le_of_ble_eq_true rfl, Nat.le_of_ble_eq_true rfl⟩ rfl ?_
    show QW G (qrm 4 0 0) YX5_standUp 0 0 61 [some (.ref 1), some (.int a1), some (.int a2), some (.int r3)] [] SH M18 J _
    obtain rfl := Option.some.inj h
    exact q_vret (pc := 61) dX5_standUp_61 rfl rfl rfl
  · rw [if_neg k9] at h
    refine q_if_eq_t (pc := 33) (tgt := 40) dX5_standUp_33 (by decide) (qb_f k9) ?_
    refine q_iconst (pc := 40) (v := nI 2) dX5_standUp_40 (by decide) ?_
    obtain ⟨M19, h20, h⟩ := Option.bind_eq_some_iff.mp h
    refine q_iast (pc := 41) dX5_standUp_41 sh_2 h20 ?_
    refine q_aload_n (pc := 42) dX5_standUp_42 rfl ?_
    refine q_getf (pc := 43) (f := 0) (v := .ref 2) dX5_standUp_43 sh_1 cl_5 inX5 rfl (by decide) lk_X5_11 rfl ?_
    refine q_iconst (pc := 46) (v := nI 4) dX5_standUp_46 (by decide) ?_
    refine q_dup2 (pc := 47) dX5_standUp_47 rfl rfl ?_
    obtain ⟨v21, h22, h⟩ := Option.bind_eq_some_iff.mp h
    refine q_iald (pc := 48) dX5_standUp_48 sh_2 h22 ?_
    refine q_iconst (pc := 49) (v := nI 1) dX5_standUp_49 (by decide) ?_
    refine q_iload_n (pc := 50) dX5_standUp_50 rfl ?_
    refine q_ishl (pc := 51) dX5_standUp_51 ?_
    refine q_ior (pc := 52) dX5_standUp_52 ?_
    obtain ⟨M23, h24, h⟩ := Option.bind_eq_some_iff.mp h
    refine q_iast (pc := 53) dX5_standUp_53 sh_2 h24 ?_
    refine q_aload_n (pc := 54) dX5_standUp_54 rfl ?_
    refine q_iload_n (pc := 55) dX5_standUp_55 rfl ?_
    refine q_iload_n (pc := 56) dX5_standUp_56 rfl ?_
    refine q_iload_n (pc := 57) dX5_standUp_57 rfl ?_
    obtain ⟨M27, h26, h⟩ := Option.bind_eq_some_iff.mp h
    refine q_callv (pc := 58) (st := []) (a_X5_putIntoBox h26) okX5_putIntoBox rfl dX5_standUp_58 lk_X5_84 sh_1 cl_5 rfl (by decide) (by decide) (Nat.le_of_ble_eq_true rfl) ⟨Nat.le_of_ble_eq_true rfl, Nat.le_of_ble_eq_true rfl⟩ rfl ?_
    show QW G (qrm 4 0 0) YX5_standUp 0 0 61 [some (.ref 1), some (.int a1), some (.int a2), some (.int r3)] [] SH M27 J _
    obtain rfl := Option.some.inj h
    exact q_vret (pc := 61) dX5_standUp_61 rfl rfl rfl
def f_X11_stand (a1 : Int32) (a2 : Int32) (M : qM) : Option (Int32 × qM) :=
  (f_X5_hasObjector a1 M).bind fun b3 => if b3 = true then (f_X5_hasCouple a2 M).bind fun b7 => if b7 = true then (f_X5_mayStand a1 a2 M).bind fun b11 => if b11 = true then (f_X6_remember M).bind fun M15 => (f_X5_standUp a1 a2 M15).bind fun M18 => (f_X5_fate a2 M18).bind fun r21 => if r21 = (nI 1) then some (nI 1, M18)
    else some (nI 0, M18)
    else some ((-1000000003 : Int32), M)
    else some ((-1000000001 : Int32), M)
    else some ((-1000000001 : Int32), M)
set_option maxRecDepth 20000 in
set_option maxHeartbeats 4000000 in
theorem a_X11_stand {G : qG} {a1 : Int32} {a2 : Int32} {M : qM} {J : qJ} {r : Int32} {M' : qM} (h : f_X11_stand a1 a2 M = some (r, M')) : QM G 5 0 0 YX11_stand [.ref 0, .int a1, .int a2] SH M J (some (.int r), SH, M', J) := by
  refine ⟨Nat.le_of_ble_eq_true rfl, Or.inl rfl, ?_⟩
  show QW G (qrm 5 0 0) YX11_stand 0 0 0 [some (.ref 0), some (.int a1), some (.int a2)] [] SH M J _
  unfold f_X11_stand at h
  refine q_aload_n (pc := 0) dX11_stand_0 rfl ?_
  refine q_getf (pc := 1) (f := 0) (v := .ref 1) dX11_stand_1 sh_0 cl_10 inX11 rfl (by decide) lk_X11_10 rfl ?_
  refine q_iload_n (pc := 4) dX11_stand_4 rfl ?_
  obtain ⟨b3, h2, h⟩ := Option.bind_eq_some_iff.mp h
  refine q_callv (pc := 5) (st := []) (a_X5_hasObjector h2) okX5_hasObjector rfl dX11_stand_5 lk_X11_186 sh_1 cl_5 rfl (by decide) (by decide) (Nat.le_of_ble_eq_true rfl) ⟨Nat.le_of_ble_eq_true rfl, Nat.le_of_ble_eq_true rfl⟩ rfl ?_
  show QW G (qrm 5 0 0) YX11_stand 0 0 8 [some (.ref 0), some (.int a1), some (.int a2)] [.int (qb b3)] SH M J _
  by_cases k4 : b3 = true
  · rw [if_pos k4] at h
    refine q_if_eq_f (pc := 8) (tgt := 22) dX11_stand_8 (by decide) (qb_t k4) ?_
    refine q_aload_n (pc := 11) dX11_stand_11 rfl ?_
    refine q_getf (pc := 12) (f := 0) (v := .ref 1) dX11_stand_12 sh_0 cl_10 inX11 rfl (by decide) lk_X11_10 rfl ?_
    refine q_iload_n (pc := 15) dX11_stand_15 rfl ?_
    obtain ⟨b7, h6, h⟩ := Option.bind_eq_some_iff.mp h
    refine q_callv (pc := 16) (st := []) (a_X5_hasCouple h6) okX5_hasCouple rfl dX11_stand_16 lk_X11_161 sh_1 cl_5 rfl (by decide) (by decide) (Nat.le_of_ble_eq_true rfl) ⟨Nat.le_of_ble_eq_true rfl, Nat.le_of_ble_eq_true rfl⟩ rfl ?_
    show QW G (qrm 5 0 0) YX11_stand 0 0 19 [some (.ref 0), some (.int a1), some (.int a2)] [.int (qb b7)] SH M J _
    by_cases k8 : b7 = true
    · rw [if_pos k8] at h
      refine q_if_ne_t (pc := 19) (tgt := 25) dX11_stand_19 (by decide) (qb_t k8) ?_
      refine q_aload_n (pc := 25) dX11_stand_25 rfl ?_
      refine q_getf (pc := 26) (f := 0) (v := .ref 1) dX11_stand_26 sh_0 cl_10 inX11 rfl (by decide) lk_X11_10 rfl ?_
      refine q_iload_n (pc := 29) dX11_stand_29 rfl ?_
      refine q_iload_n (pc := 30) dX11_stand_30 rfl ?_
      obtain ⟨b11, h10, h⟩ := Option.bind_eq_some_iff.mp h
      refine q_callv (pc := 31) (st := []) (a_X5_mayStand h10) okX5_mayStand rfl dX11_stand_31 lk_X11_211 sh_1 cl_5 rfl (by decide) (by decide) (Nat.le_of_ble_eq_true rfl) ⟨Nat.le_of_ble_eq_true rfl, Nat.le_of_ble_eq_true rfl⟩ rfl ?_
      show QW G (qrm 5 0 0) YX11_stand 0 0 34 [some (.ref 0), some (.int a1), some (.int a2)] [.int (qb b11)] SH M J _
      by_cases k12 : b11 = true
      · rw [if_pos k12] at h
        refine q_if_ne_t (pc := 34) (tgt := 40) dX11_stand_34 (by decide) (qb_t k12) ?_
        refine q_aload_n (pc := 40) dX11_stand_40 rfl ?_
        refine q_getf (pc := 41) (f := 2) (v := .ref 7) dX11_stand_41 sh_0 cl_10 inX11 rfl (by decide) lk_X11_26 rfl ?_
        refine q_aload_n (pc := 44) dX11_stand_44 rfl ?_
        refine q_getf (pc := 45) (f := 0) (v := .ref 1) dX11_stand_45 sh_0 cl_10 inX11 rfl (by decide) lk_X11_10 rfl ?_
        obtain ⟨M15, h14, h⟩ := Option.bind_eq_some_iff.mp h
        refine q_callv (pc := 48) (st := []) (a_X6_remember h14) okX6_remember rfl dX11_stand_48 lk_X11_216 sh_7 cl_6 rfl (by decide) (by decide) (Nat.le_of_ble_eq_true rfl) ⟨Nat.le_of_ble_eq_true rfl, Nat.le_of_ble_eq_true rfl⟩ rfl ?_
        show QW G (qrm 5 0 0) YX11_stand 0 0 51 [some (.ref 0), some (.int a1), some (.int a2)] [] SH M15 J _
        refine q_aload_n (pc := 51) dX11_stand_51 rfl ?_
        refine q_getf (pc := 52) (f := 0) (v := .ref 1) dX11_stand_52 sh_0 cl_10 inX11 rfl (by decide) lk_X11_10 rfl ?_
        refine q_iload_n (pc := 55) dX11_stand_55 rfl ?_
        refine q_iload_n (pc := 56) dX11_stand_56 rfl ?_
        obtain ⟨M18, h17, h⟩ := Option.bind_eq_some_iff.mp h
        refine q_callv (pc := 57) (st := []) (a_X5_standUp h17) okX5_standUp rfl dX11_stand_57 lk_X11_220 sh_1 cl_5 rfl (by decide) (by decide) (Nat.le_of_ble_eq_true rfl) ⟨Nat.le_of_ble_eq_true rfl, Nat.le_of_ble_eq_true rfl⟩ rfl ?_
        show QW G (qrm 5 0 0) YX11_stand 0 0 60 [some (.ref 0), some (.int a1), some (.int a2)] [] SH M18 J _
        refine q_aload_n (pc := 60) dX11_stand_60 rfl ?_
        refine q_getf (pc := 61) (f := 0) (v := .ref 1) dX11_stand_61 sh_0 cl_10 inX11 rfl (by decide) lk_X11_10 rfl ?_
        refine q_iload_n (pc := 64) dX11_stand_64 rfl ?_
        obtain ⟨r21, h20, h⟩ := Option.bind_eq_some_iff.mp h
        refine q_callv (pc := 65) (st := []) (a_X5_fate h20) okX5_fate rfl dX11_stand_65 lk_X11_173 sh_1 cl_5 rfl (by decide) (by decide) (Nat.le_of_ble_eq_true rfl) ⟨Nat.le_of_ble_eq_true rfl, Nat.le_of_ble_eq_true rfl⟩ rfl ?_
        show QW G (qrm 5 0 0) YX11_stand 0 0 68 [some (.ref 0), some (.int a1), some (.int a2)] [.int r21] SH M18 J _
        refine q_iconst (pc := 68) (v := nI 1) dX11_stand_68 (by decide) ?_
        by_cases k22 : r21 = (nI 1)
        · rw [if_pos k22] at h
          refine q_icmp_ne_f (pc := 69) (tgt := 76) dX11_stand_69 (by decide) k22 ?_
          refine q_iconst (pc := 72) (v := nI 1) dX11_stand_72 (by decide) ?_
          refine q_goto (pc := 73) (tgt := 77) dX11_stand_73 (by decide) ?_
          have h := Option.some.inj h
          obtain ⟨rfl, rfl⟩ := Prod.mk.inj h
          exact q_iret (pc := 77) dX11_stand_77 rfl rfl rfl
        · rw [if_neg k22] at h
          refine q_icmp_ne_t (pc := 69) (tgt := 76) dX11_stand_69 (by decide) k22 ?_
          refine q_iconst (pc := 76) (v := nI 0) dX11_stand_76 (by decide) ?_
          have h := Option.some.inj h
          obtain ⟨rfl, rfl⟩ := Prod.mk.inj h
          exact q_iret (pc := 77) dX11_stand_77 rfl rfl rfl
      · rw [if_neg k12] at h
        refine q_if_ne_f (pc := 34) (tgt := 40) dX11_stand_34 (by decide) (qb_f k12) ?_
        refine q_ldc (pc := 37) (v := (-1000000003 : Int32)) dX11_stand_37 lk_X11_215 ?_
        have h := Option.some.inj h
        obtain ⟨rfl, rfl⟩ := Prod.mk.inj h
        exact q_iret (pc := 39) dX11_stand_39 rfl rfl rfl
    · rw [if_neg k8] at h
      refine q_if_ne_f (pc := 19) (tgt := 25) dX11_stand_19 (by decide) (qb_f k8) ?_
      refine q_ldc (pc := 22) (v := (-1000000001 : Int32)) dX11_stand_22 lk_X11_165 ?_
      have h := Option.some.inj h
      obtain ⟨rfl, rfl⟩ := Prod.mk.inj h
      exact q_iret (pc := 24) dX11_stand_24 rfl rfl rfl
  · rw [if_neg k4] at h
    refine q_if_eq_t (pc := 8) (tgt := 22) dX11_stand_8 (by decide) (qb_f k4) ?_
    refine q_ldc (pc := 22) (v := (-1000000001 : Int32)) dX11_stand_22 lk_X11_165 ?_
    have h := Option.some.inj h
    obtain ⟨rfl, rfl⟩ := Prod.mk.inj h
    exact q_iret (pc := 24) dX11_stand_24 rfl rfl rfl
def f_X11_refusalOfYears (a1 : Int32) (M : qM) : Option Int32 :=
  (f_X11_isOutside a1 (nI 1) (nI 60) M).bind fun b3 => if b3 = true then some ((-1000000002 : Int32))
    else (f_X5_least M).bind fun r7 => if r7 = 0 then some ((-1000000003 : Int32))
    else (f_X5_years M).bind fun r11 => if r11 ≤ (nI 9000) then some (nI 0)
    else some ((-1000000004 : Int32))
set_option maxRecDepth 20000 in
set_option maxHeartbeats 4000000 in
theorem a_X11_refusalOfYears {G : qG} {a1 : Int32} {M : qM} {J : qJ} {r : Int32} (h : f_X11_refusalOfYears a1 M = some (r)) : QM G 1 0 0 YX11_refusalOfYears [.ref 0, .int a1] SH M J (some (.int r), SH, M, J) := by
  refine ⟨Nat.le_of_ble_eq_true rfl, Or.inl rfl, ?_⟩
  show QW G (qrm 1 0 0) YX11_refusalOfYears 0 0 0 [some (.ref 0), some (.int a1)] [] SH M J _
  unfold f_X11_refusalOfYears at h
  refine q_iload_n (pc := 0) dX11_refusalOfYears_0 rfl ?_
  refine q_iconst (pc := 1) (v := nI 1) dX11_refusalOfYears_1 (by decide) ?_
  refine q_bipush (pc := 2) (v := nI 60) dX11_refusalOfYears_2 (by decide) ?_
  obtain ⟨b3, h2, h⟩ := Option.bind_eq_some_iff.mp h
  refine q_calls (pc := 4) (st := []) (a_X11_isOutside h2) okX11_isOutside rfl dX11_refusalOfYears_4 lk_X11_79 rfl (by decide) (by decide) (Nat.le_of_ble_eq_true rfl) ⟨Nat.le_of_ble_eq_true rfl, Nat.le_of_ble_eq_true rfl⟩ rfl ?_
  show QW G (qrm 1 0 0) YX11_refusalOfYears 0 0 7 [some (.ref 0), some (.int a1)] [.int (qb b3)] SH M J _
  by_cases k4 : b3 = true
  · rw [if_pos k4] at h
    refine q_if_eq_f (pc := 7) (tgt := 13) dX11_refusalOfYears_7 (by decide) (qb_t k4) ?_
    refine q_ldc (pc := 10) (v := (-1000000002 : Int32)) dX11_refusalOfYears_10 lk_X11_83 ?_
    obtain rfl := Option.some.inj h
    exact q_iret (pc := 12) dX11_refusalOfYears_12 rfl rfl rfl
  · rw [if_neg k4] at h
    refine q_if_eq_t (pc := 7) (tgt := 13) dX11_refusalOfYears_7 (by decide) (qb_f k4) ?_
    refine q_aload_n (pc := 13) dX11_refusalOfYears_13 rfl ?_
    refine q_getf (pc := 14) (f := 0) (v := .ref 1) dX11_refusalOfYears_14 sh_0 cl_10 inX11 rfl (by decide) lk_X11_10 rfl ?_
    obtain ⟨r7, h6, h⟩ := Option.bind_eq_some_iff.mp h
    refine q_callv (pc := 17) (st := []) (a_X5_least h6) okX5_least rfl dX11_refusalOfYears_17 lk_X11_123 sh_1 cl_5 rfl (by decide) (by decide) (Nat.le_of_ble_eq_true rfl) ⟨Nat.le_of_ble_eq_true rfl, Nat.le_of_ble_eq_true rfl⟩ rfl ?_
    show QW G (qrm 1 0 0) YX11_refusalOfYears 0 0 20 [some (.ref 0), some (.int a1)] [.int r7] SH M J _
    by_cases k8 : r7 = 0
    · rw [if_pos k8] at h
      refine q_if_ne_f (pc := 20) (tgt := 26) dX11_refusalOfYears_20 (by decide) k8 ?_
      refine q_ldc (pc := 23) (v := (-1000000003 : Int32)) dX11_refusalOfYears_23 lk_X11_215 ?_
      obtain rfl := Option.some.inj h
      exact q_iret (pc := 25) dX11_refusalOfYears_25 rfl rfl rfl
    · rw [if_neg k8] at h
      refine q_if_ne_t (pc := 20) (tgt := 26) dX11_refusalOfYears_20 (by decide) k8 ?_
      refine q_aload_n (pc := 26) dX11_refusalOfYears_26 rfl ?_
      refine q_getf (pc := 27) (f := 0) (v := .ref 1) dX11_refusalOfYears_27 sh_0 cl_10 inX11 rfl (by decide) lk_X11_10 rfl ?_
      obtain ⟨r11, h10, h⟩ := Option.bind_eq_some_iff.mp h
      refine q_callv (pc := 30) (st := []) (a_X5_years h10) okX5_years rfl dX11_refusalOfYears_30 lk_X11_132 sh_1 cl_5 rfl (by decide) (by decide) (Nat.le_of_ble_eq_true rfl) ⟨Nat.le_of_ble_eq_true rfl, Nat.le_of_ble_eq_true rfl⟩ rfl ?_
      show QW G (qrm 1 0 0) YX11_refusalOfYears 0 0 33 [some (.ref 0), some (.int a1)] [.int r11] SH M J _
      refine q_sipush (pc := 33) (v := nI 9000) dX11_refusalOfYears_33 (by decide) ?_
      by_cases k12 : r11 ≤ (nI 9000)
      · rw [if_pos k12] at h
        refine q_icmp_le_t (pc := 36) (tgt := 44) dX11_refusalOfYears_36 (by decide) k12 ?_
        refine q_iconst (pc := 44) (v := nI 0) dX11_refusalOfYears_44 (by decide) ?_
        obtain rfl := Option.some.inj h
        exact q_iret (pc := 45) dX11_refusalOfYears_45 rfl rfl rfl
      · rw [if_neg k12] at h
        refine q_icmp_le_f (pc := 36) (tgt := 44) dX11_refusalOfYears_36 (by decide) k12 ?_
        refine q_ldc (pc := 39) (v := (-1000000004 : Int32)) dX11_refusalOfYears_39 lk_X11_88 ?_
        refine q_goto (pc := 41) (tgt := 45) dX11_refusalOfYears_41 (by decide) ?_
        obtain rfl := Option.some.inj h
        exact q_iret (pc := 45) dX11_refusalOfYears_45 rfl rfl rfl
def f_X5_setAnswer (a1 : Int32) (a2 : Int32) (M : qM) : Option qM :=
  (qwr M 2 172 ((nI 6) + a1) a2).bind fun M1 => some (M1)
set_option maxRecDepth 20000 in
set_option maxHeartbeats 4000000 in
theorem a_X5_setAnswer {G : qG} {a1 : Int32} {a2 : Int32} {M : qM} {J : qJ} {M' : qM} (h : f_X5_setAnswer a1 a2 M = some (M')) : QM G 0 0 0 YX5_setAnswer [.ref 1, .int a1, .int a2] SH M J (none, SH, M', J) := by
  refine ⟨Nat.le_of_ble_eq_true rfl, rfl, ?_⟩
  show QW G (qrm 0 0 0) YX5_setAnswer 0 0 0 [some (.ref 1), some (.int a1), some (.int a2)] [] SH M J _
  unfold f_X5_setAnswer at h
  refine q_aload_n (pc := 0) dX5_setAnswer_0 rfl ?_
  refine q_getf (pc := 1) (f := 0) (v := .ref 2) dX5_setAnswer_1 sh_1 cl_5 inX5 rfl (by decide) lk_X5_11 rfl ?_
  refine q_bipush (pc := 4) (v := nI 6) dX5_setAnswer_4 (by decide) ?_
  refine q_iload_n (pc := 6) dX5_setAnswer_6 rfl ?_
  refine q_iadd (pc := 7) dX5_setAnswer_7 ?_
  refine q_iload_n (pc := 8) dX5_setAnswer_8 rfl ?_
  obtain ⟨M1, h2, h⟩ := Option.bind_eq_some_iff.mp h
  refine q_iast (pc := 9) dX5_setAnswer_9 sh_2 h2 ?_
  obtain rfl := Option.some.inj h
  exact q_vret (pc := 10) dX5_setAnswer_10 rfl rfl rfl
def f_X5_setSkill (a1 : Int32) (a2 : Int32) (M : qM) : Option qM :=
  (qwr M 2 172 ((nI 60) + a1) a2).bind fun M1 => some (M1)
set_option maxRecDepth 20000 in
set_option maxHeartbeats 4000000 in
theorem a_X5_setSkill {G : qG} {a1 : Int32} {a2 : Int32} {M : qM} {J : qJ} {M' : qM} (h : f_X5_setSkill a1 a2 M = some (M')) : QM G 0 0 0 YX5_setSkill [.ref 1, .int a1, .int a2] SH M J (none, SH, M', J) := by
  refine ⟨Nat.le_of_ble_eq_true rfl, rfl, ?_⟩
  show QW G (qrm 0 0 0) YX5_setSkill 0 0 0 [some (.ref 1), some (.int a1), some (.int a2)] [] SH M J _
  unfold f_X5_setSkill at h
  refine q_aload_n (pc := 0) dX5_setSkill_0 rfl ?_
  refine q_getf (pc := 1) (f := 0) (v := .ref 2) dX5_setSkill_1 sh_1 cl_5 inX5 rfl (by decide) lk_X5_11 rfl ?_
  refine q_bipush (pc := 4) (v := nI 60) dX5_setSkill_4 (by decide) ?_
  refine q_iload_n (pc := 6) dX5_setSkill_6 rfl ?_
  refine q_iadd (pc := 7) dX5_setSkill_7 ?_
  refine q_iload_n (pc := 8) dX5_setSkill_8 rfl ?_
  obtain ⟨M1, h2, h⟩ := Option.bind_eq_some_iff.mp h
  refine q_iast (pc := 9) dX5_setSkill_9 sh_2 h2 ?_
  obtain rfl := Option.some.inj h
  exact q_vret (pc := 10) dX5_setSkill_10 rfl rfl rfl
def f_X5_passYear_L2  : Nat → Int32 → qM → Option (Int32 × qM)
  | 0, _, _ => none
  | n + 1, c1, M =>
  (f_X5_couples M).bind fun r3 => if r3 ≤ c1 then some (c1, M)
    else (f_X5_waits c1 M).bind fun b7 => if b7 = true then (f_X5_answer c1 M).bind fun r11 => (f_X5_setAnswer c1 (qmin (nI 99) (r11 + (nI 1))) M).bind fun M14 => f_X5_passYear_L2  n (c1 + nI 1) M14
    else f_X5_passYear_L2  n (c1 + nI 1) M
set_option maxRecDepth 20000 in
set_option maxHeartbeats 4000000 in
theorem l_X5_passYear_L2 {G : qG} {ρ : qR}  (J : qJ) : ∀ (n : Nat) (c1 : Int32) (M : qM) (res : Int32 × qM), f_X5_passYear_L2  n c1 M = some res → (∀ x : Int32 × qM, res = x → QW G (qrm 1 0 0) YX5_passYear 0 0 41 [some (.ref 1), none] [] SH x.2 J ρ) → QW G (qrm 1 0 0) YX5_passYear 0 0 2 [some (.ref 1), some (.int c1)] [] SH M J ρ
  | 0, _, _, _, h, _ => by simp [f_X5_passYear_L2] at h
  | n + 1, c1, M, res, h, hk => by
    rw [f_X5_passYear_L2] at h
    refine q_iload_n (pc := 2) dX5_passYear_2 rfl ?_
    refine q_aload_n (pc := 3) dX5_passYear_3 rfl ?_
    obtain ⟨r3, h2, h⟩ := Option.bind_eq_some_iff.mp h
    refine q_callv (pc := 4) (st := [.int c1]) (a_X5_couples h2) okX5_couples rfl dX5_passYear_4 lk_X5_27 sh_1 cl_5 rfl (by decide) (by decide) (Nat.le_of_ble_eq_true rfl) ⟨Nat.le_of_ble_eq_true rfl, Nat.le_of_ble_eq_true rfl⟩ rfl ?_
    show QW G (qrm 1 0 0) YX5_passYear 0 0 7 [some (.ref 1), some (.int c1)] [.int r3, .int c1] SH M J _
    by_cases k4 : r3 ≤ c1
    · rw [if_pos k4] at h
      refine q_icmp_ge_t (pc := 7) (tgt := 41) dX5_passYear_7 (by decide) k4 ?_
      refine q_weak (ls' := [some (.ref 1), none]) ⟨rfl, trivial⟩ ?_
      obtain rfl := Option.some.inj h
      exact hk (c1, M) rfl
    · rw [if_neg k4] at h
      refine q_icmp_ge_f (pc := 7) (tgt := 41) dX5_passYear_7 (by decide) k4 ?_
      refine q_aload_n (pc := 10) dX5_passYear_10 rfl ?_
      refine q_iload_n (pc := 11) dX5_passYear_11 rfl ?_
      obtain ⟨b7, h6, h⟩ := Option.bind_eq_some_iff.mp h
      refine q_callv (pc := 12) (st := []) (a_X5_waits h6) okX5_waits rfl dX5_passYear_12 lk_X5_69 sh_1 cl_5 rfl (by decide) (by decide) (Nat.le_of_ble_eq_true rfl) ⟨Nat.le_of_ble_eq_true rfl, Nat.le_of_ble_eq_true rfl⟩ rfl ?_
      show QW G (qrm 1 0 0) YX5_passYear 0 0 15 [some (.ref 1), some (.int c1)] [.int (qb b7)] SH M J _
      by_cases k8 : b7 = true
      · rw [if_pos k8] at h
        refine q_if_eq_f (pc := 15) (tgt := 35) dX5_passYear_15 (by decide) (qb_t k8) ?_
        refine q_aload_n (pc := 18) dX5_passYear_18 rfl ?_
        refine q_iload_n (pc := 19) dX5_passYear_19 rfl ?_
        refine q_bipush (pc := 20) (v := nI 99) dX5_passYear_20 (by decide) ?_
        refine q_aload_n (pc := 22) dX5_passYear_22 rfl ?_
        refine q_iload_n (pc := 23) dX5_passYear_23 rfl ?_
        obtain ⟨r11, h10, h⟩ := Option.bind_eq_some_iff.mp h
        refine q_callv (pc := 24) (st := [.int (nI 99), .int c1, .ref 1]) (a_X5_answer h10) okX5_answer rfl dX5_passYear_24 lk_X5_66 sh_1 cl_5 rfl (by decide) (by decide) (Nat.le_of_ble_eq_true rfl) ⟨Nat.le_of_ble_eq_true rfl, Nat.le_of_ble_eq_true rfl⟩ rfl ?_
        show QW G (qrm 1 0 0) YX5_passYear 0 0 27 [some (.ref 1), some (.int c1)] [.int r11, .int (nI 99), .int c1, .ref 1] SH M J _
        refine q_iconst (pc := 27) (v := nI 1) dX5_passYear_27 (by decide) ?_
        refine q_iadd (pc := 28) dX5_passYear_28 ?_
        refine q_min (pc := 29) dX5_passYear_29 lk_X5_51 (by decide) (Nat.le_of_ble_eq_true rfl) (Nat.le_of_ble_eq_true rfl) (Nat.le_of_ble_eq_true rfl) ?_
        obtain ⟨M14, h13, h⟩ := Option.bind_eq_some_iff.mp h
        refine q_callv (pc := 32) (st := []) (a_X5_setAnswer h13) okX5_setAnswer rfl dX5_passYear_32 lk_X5_91 sh_1 cl_5 rfl (by decide) (by decide) (Nat.le_of_ble_eq_true rfl) ⟨Nat.le_of_ble_eq_true rfl, Nat.le_of_ble_eq_true rfl⟩ rfl ?_
        show QW G (qrm 1 0 0) YX5_passYear 0 0 35 [some (.ref 1), some (.int c1)] [] SH M14 J _
        refine q_iincW (pc := 35) (w := nI 1) (ls' := [some (.ref 1), some (.int (c1 + nI 1))]) dX5_passYear_35 rfl (by decide) (by decide) rfl rfl ?_
        refine q_goto (pc := 38) (tgt := 2) dX5_passYear_38 (by decide) ?_
        exact l_X5_passYear_L2  J n (c1 + nI 1) M14 res h hk
      · rw [if_neg k8] at h
        refine q_if_eq_t (pc := 15) (tgt := 35) dX5_passYear_15 (by decide) (qb_f k8) ?_
        refine q_iincW (pc := 35) (w := nI 1) (ls' := [some (.ref 1), some (.int (c1 + nI 1))]) dX5_passYear_35 rfl (by decide) (by decide) rfl rfl ?_
        refine q_goto (pc := 38) (tgt := 2) dX5_passYear_38 (by decide) ?_
        exact l_X5_passYear_L2  J n (c1 + nI 1) M res h hk
def f_X5_passYear_L43  : Nat → Int32 → qM → Option (Int32 × qM)
  | 0, _, _ => none
  | n + 1, c1, M =>
  (f_X5_objectors M).bind fun r19 => if r19 ≤ c1 then some (c1, M)
    else (f_X5_kind c1 M).bind fun r23 => if r23 = 0 then (f_X5_skill c1 M).bind fun r27 => (f_X5_setSkill c1 (qmin (nI 40) (r27 + (nI 1))) M).bind fun M30 => f_X5_passYear_L43  n (c1 + nI 1) M30
    else f_X5_passYear_L43  n (c1 + nI 1) M
set_option maxRecDepth 20000 in
set_option maxHeartbeats 4000000 in
theorem l_X5_passYear_L43 {G : qG} {ρ : qR}  (J : qJ) : ∀ (n : Nat) (c1 : Int32) (M : qM) (res : Int32 × qM), f_X5_passYear_L43  n c1 M = some res → (∀ x : Int32 × qM, res = x → QW G (qrm 1 0 0) YX5_passYear 0 0 82 [some (.ref 1), none] [] SH x.2 J ρ) → QW G (qrm 1 0 0) YX5_passYear 0 0 43 [some (.ref 1), some (.int c1)] [] SH M J ρ
  | 0, _, _, _, h, _ => by simp [f_X5_passYear_L43] at h
  | n + 1, c1, M, res, h, hk => by
    rw [f_X5_passYear_L43] at h
    refine q_iload_n (pc := 43) dX5_passYear_43 rfl ?_
    refine q_aload_n (pc := 44) dX5_passYear_44 rfl ?_
    obtain ⟨r19, h18, h⟩ := Option.bind_eq_some_iff.mp h
    refine q_callv (pc := 45) (st := [.int c1]) (a_X5_objectors h18) okX5_objectors rfl dX5_passYear_45 lk_X5_95 sh_1 cl_5 rfl (by decide) (by decide) (Nat.le_of_ble_eq_true rfl) ⟨Nat.le_of_ble_eq_true rfl, Nat.le_of_ble_eq_true rfl⟩ rfl ?_
    show QW G (qrm 1 0 0) YX5_passYear 0 0 48 [some (.ref 1), some (.int c1)] [.int r19, .int c1] SH M J _
    by_cases k20 : r19 ≤ c1
    · rw [if_pos k20] at h
      refine q_icmp_ge_t (pc := 48) (tgt := 82) dX5_passYear_48 (by decide) k20 ?_
      refine q_weak (ls' := [some (.ref 1), none]) ⟨rfl, trivial⟩ ?_
      obtain rfl := Option.some.inj h
      exact hk (c1, M) rfl
    · rw [if_neg k20] at h
      refine q_icmp_ge_f (pc := 48) (tgt := 82) dX5_passYear_48 (by decide) k20 ?_
      refine q_aload_n (pc := 51) dX5_passYear_51 rfl ?_
      refine q_iload_n (pc := 52) dX5_passYear_52 rfl ?_
      obtain ⟨r23, h22, h⟩ := Option.bind_eq_some_iff.mp h
      refine q_callv (pc := 53) (st := []) (a_X5_kind h22) okX5_kind rfl dX5_passYear_53 lk_X5_35 sh_1 cl_5 rfl (by decide) (by decide) (Nat.le_of_ble_eq_true rfl) ⟨Nat.le_of_ble_eq_true rfl, Nat.le_of_ble_eq_true rfl⟩ rfl ?_
      show QW G (qrm 1 0 0) YX5_passYear 0 0 56 [some (.ref 1), some (.int c1)] [.int r23] SH M J _
      by_cases k24 : r23 = 0
      · rw [if_pos k24] at h
        refine q_if_ne_f (pc := 56) (tgt := 76) dX5_passYear_56 (by decide) k24 ?_
        refine q_aload_n (pc := 59) dX5_passYear_59 rfl ?_
        refine q_iload_n (pc := 60) dX5_passYear_60 rfl ?_
        refine q_bipush (pc := 61) (v := nI 40) dX5_passYear_61 (by decide) ?_
        refine q_aload_n (pc := 63) dX5_passYear_63 rfl ?_
        refine q_iload_n (pc := 64) dX5_passYear_64 rfl ?_
        obtain ⟨r27, h26, h⟩ := Option.bind_eq_some_iff.mp h
        refine q_callv (pc := 65) (st := [.int (nI 40), .int c1, .ref 1]) (a_X5_skill h26) okX5_skill rfl dX5_passYear_65 lk_X5_48 sh_1 cl_5 rfl (by decide) (by decide) (Nat.le_of_ble_eq_true rfl) ⟨Nat.le_of_ble_eq_true rfl, Nat.le_of_ble_eq_true rfl⟩ rfl ?_
        show QW G (qrm 1 0 0) YX5_passYear 0 0 68 [some (.ref 1), some (.int c1)] [.int r27, .int (nI 40), .int c1, .ref 1] SH M J _
        refine q_iconst (pc := 68) (v := nI 1) dX5_passYear_68 (by decide) ?_
        refine q_iadd (pc := 69) dX5_passYear_69 ?_
        refine q_min (pc := 70) dX5_passYear_70 lk_X5_51 (by decide) (Nat.le_of_ble_eq_true rfl) (Nat.le_of_ble_eq_true rfl) (Nat.le_of_ble_eq_true rfl) ?_
        obtain ⟨M30, h29, h⟩ := Option.bind_eq_some_iff.mp h
        refine q_callv (pc := 73) (st := []) (a_X5_setSkill h29) okX5_setSkill rfl dX5_passYear_73 lk_X5_98 sh_1 cl_5 rfl (by decide) (by decide) (Nat.le_of_ble_eq_true rfl) ⟨Nat.le_of_ble_eq_true rfl, Nat.le_of_ble_eq_true rfl⟩ rfl ?_
        show QW G (qrm 1 0 0) YX5_passYear 0 0 76 [some (.ref 1), some (.int c1)] [] SH M30 J _
        refine q_iincW (pc := 76) (w := nI 1) (ls' := [some (.ref 1), some (.int (c1 + nI 1))]) dX5_passYear_76 rfl (by decide) (by decide) rfl rfl ?_
        refine q_goto (pc := 79) (tgt := 43) dX5_passYear_79 (by decide) ?_
        exact l_X5_passYear_L43  J n (c1 + nI 1) M30 res h hk
      · rw [if_neg k24] at h
        refine q_if_ne_t (pc := 56) (tgt := 76) dX5_passYear_56 (by decide) k24 ?_
        refine q_iincW (pc := 76) (w := nI 1) (ls' := [some (.ref 1), some (.int (c1 + nI 1))]) dX5_passYear_76 rfl (by decide) (by decide) rfl rfl ?_
        refine q_goto (pc := 79) (tgt := 43) dX5_passYear_79 (by decide) ?_
        exact l_X5_passYear_L43  J n (c1 + nI 1) M res h hk
def f_X5_passYear  (M : qM) : Option qM :=
  (f_X5_passYear_L2  qF (nI 0) M).bind fun e15 => (f_X5_passYear_L43  qF (nI 0) e15.2).bind fun e31 => (qwr e31.2 2 172 (nI 4) (nI 0)).bind fun M33 => (qrd M33 2 172 (nI 3)).bind fun v35 => (qwr M33 2 172 (nI 3) (v35 + (nI 1))).bind fun M37 => some (M37)
set_option maxRecDepth 20000 in
set_option maxHeartbeats 4000000 in
theorem a_X5_passYear {G : qG}  {M : qM} {J : qJ} {M' : qM} (h : f_X5_passYear  M = some (M')) : QM G 1 0 0 YX5_passYear [.ref 1] SH M J (none, SH, M', J) := by
  refine ⟨Nat.le_of_ble_eq_true rfl, rfl, ?_⟩
  show QW G (qrm 1 0 0) YX5_passYear 0 0 0 [some (.ref 1), none] [] SH M J _
  unfold f_X5_passYear at h
  refine q_iconst (pc := 0) (v := nI 0) dX5_passYear_0 (by decide) ?_
  refine q_istore_n (pc := 1) (ls' := [some (.ref 1), some (.int (nI 0))]) dX5_passYear_1 (by decide) rfl rfl ?_
  obtain ⟨⟨e15_1, M16⟩, h40, h⟩ := Option.bind_eq_some_iff.mp h
  try dsimp only at h
  refine l_X5_passYear_L2  J qF (nI 0) M _ h40 (fun x hx => ?_)
  subst hx
  show QW G (qrm 1 0 0) YX5_passYear 0 0 41 [some (.ref 1), none] [] SH M16 J _
  refine q_iconst (pc := 41) (v := nI 0) dX5_passYear_41 (by decide) ?_
  refine q_istore_n (pc := 42) (ls' := [some (.ref 1), some (.int (nI 0))]) dX5_passYear_42 (by decide) rfl rfl ?_
  obtain ⟨⟨e31_1, M32⟩, h39, h⟩ := Option.bind_eq_some_iff.mp h
  try dsimp only at h
  refine l_X5_passYear_L43  J qF (nI 0) M16 _ h39 (fun x hx => ?_)
  subst hx
  show QW G (qrm 1 0 0) YX5_passYear 0 0 82 [some (.ref 1), none] [] SH M32 J _
  refine q_aload_n (pc := 82) dX5_passYear_82 rfl ?_
  refine q_getf (pc := 83) (f := 0) (v := .ref 2) dX5_passYear_83 sh_1 cl_5 inX5 rfl (by decide) lk_X5_11 rfl ?_
  refine q_iconst (pc := 86) (v := nI 4) dX5_passYear_86 (by decide) ?_
  refine q_iconst (pc := 87) (v := nI 0) dX5_passYear_87 (by decide) ?_
  obtain ⟨M33, h34, h⟩ := Option.bind_eq_some_iff.mp h
  refine q_iast (pc := 88) dX5_passYear_88 sh_2 h34 ?_
  refine q_aload_n (pc := 89) dX5_passYear_89 rfl ?_
  refine q_getf (pc := 90) (f := 0) (v := .ref 2) dX5_passYear_90 sh_1 cl_5 inX5 rfl (by decide) lk_X5_11 rfl ?_
  refine q_iconst (pc := 93) (v := nI 3) dX5_passYear_93 (by decide) ?_
  refine q_dup2 (pc := 94) dX5_passYear_94 rfl rfl ?_
  obtain ⟨v35, h36, h⟩ := Option.bind_eq_some_iff.mp h
  refine q_iald (pc := 95) dX5_passYear_95 sh_2 h36 ?_
  refine q_iconst (pc := 96) (v := nI 1) dX5_passYear_96 (by decide) ?_
  refine q_iadd (pc := 97) dX5_passYear_97 ?_
  obtain ⟨M37, h38, h⟩ := Option.bind_eq_some_iff.mp h
  refine q_iast (pc := 98) dX5_passYear_98 sh_2 h38 ?_
  obtain rfl := Option.some.inj h
  exact q_vret (pc := 99) dX5_passYear_99 rfl rfl rfl
def f_X11_year_L25 (x1 : Int32) : Nat → Int32 → qM → Option (Int32 × qM)
  | 0, _, _ => none
  | n + 1, c3, M =>
  if x1 ≤ c3 then some (c3, M)
    else (f_X5_passYear M).bind fun M11 => f_X11_year_L25 x1 n (c3 + nI 1) M11
set_option maxRecDepth 20000 in
set_option maxHeartbeats 4000000 in
theorem l_X11_year_L25 {G : qG} {ρ : qR} (x1 : Int32) (J : qJ) : ∀ (n : Nat) (c3 : Int32) (M : qM) (res : Int32 × qM), f_X11_year_L25 x1 n c3 M = some res → (∀ x : Int32 × qM, res = x → QW G (qrm 3 0 0) YX11_year 0 0 43 [some (.ref 0), none, none, none] [] SH x.2 J ρ) → QW G (qrm 3 0 0) YX11_year 0 0 25 [some (.ref 0), some (.int x1), none, some (.int c3)] [] SH M J ρ
  | 0, _, _, _, h, _ => by simp [f_X11_year_L25] at h
  | n + 1, c3, M, res, h, hk => by
    rw [f_X11_year_L25] at h
    refine q_iload_n (pc := 25) dX11_year_25 rfl ?_
    refine q_iload_n (pc := 26) dX11_year_26 rfl ?_
    by_cases k8 : x1 ≤ c3
    · rw [if_pos k8] at h
      refine q_icmp_ge_t (pc := 27) (tgt := 43) dX11_year_27 (by decide) k8 ?_
      refine q_weak (ls' := [some (.ref 0), none, none, none]) ⟨rfl, trivial⟩ ?_
      obtain rfl := Option.some.inj h
      exact hk (c3, M) rfl
    · rw [if_neg k8] at h
      refine q_icmp_ge_f (pc := 27) (tgt := 43) dX11_year_27 (by decide) k8 ?_
      refine q_aload_n (pc := 30) dX11_year_30 rfl ?_
      refine q_getf (pc := 31) (f := 0) (v := .ref 1) dX11_year_31 sh_0 cl_10 inX11 rfl (by decide) lk_X11_10 rfl ?_
      obtain ⟨M11, h10, h⟩ := Option.bind_eq_some_iff.mp h
      refine q_callv (pc := 34) (st := []) (a_X5_passYear h10) okX5_passYear rfl dX11_year_34 lk_X11_227 sh_1 cl_5 rfl (by decide) (by decide) (Nat.le_of_ble_eq_true rfl) ⟨Nat.le_of_ble_eq_true rfl, Nat.le_of_ble_eq_true rfl⟩ rfl ?_
      show QW G (qrm 3 0 0) YX11_year 0 0 37 [some (.ref 0), some (.int x1), none, some (.int c3)] [] SH M11 J _
      refine q_iincW (pc := 37) (w := nI 1) (ls' := [some (.ref 0), some (.int x1), none, some (.int (c3 + nI 1))]) dX11_year_37 rfl (by decide) (by decide) rfl rfl ?_
      refine q_goto (pc := 40) (tgt := 25) dX11_year_40 (by decide) ?_
      exact l_X11_year_L25 x1 J n (c3 + nI 1) M11 res h hk
def f_X11_year (a1 : Int32) (M : qM) : Option (Int32 × qM) :=
  (f_X11_refusalOfYears a1 M).bind fun r3 => if r3 = 0 then (f_X6_remember M).bind fun M7 => (f_X11_year_L25 a1 qF (nI 0) M7).bind fun e12 => (f_X5_years e12.2).bind fun r16 => some (r16, e12.2)
    else some (r3, M)
set_option maxRecDepth 20000 in
set_option maxHeartbeats 4000000 in
theorem a_X11_year {G : qG} {a1 : Int32} {M : qM} {J : qJ} {r : Int32} {M' : qM} (h : f_X11_year a1 M = some (r, M')) : QM G 3 0 0 YX11_year [.ref 0, .int a1] SH M J (some (.int r), SH, M', J) := by
  refine ⟨Nat.le_of_ble_eq_true rfl, Or.inl rfl, ?_⟩
  show QW G (qrm 3 0 0) YX11_year 0 0 0 [some (.ref 0), some (.int a1), none, none] [] SH M J _
  unfold f_X11_year at h
  refine q_aload_n (pc := 0) dX11_year_0 rfl ?_
  refine q_iload_n (pc := 1) dX11_year_1 rfl ?_
  obtain ⟨r3, h2, h⟩ := Option.bind_eq_some_iff.mp h
  refine q_callv (pc := 2) (st := []) (a_X11_refusalOfYears h2) okX11_refusalOfYears rfl dX11_year_2 lk_X11_224 sh_0 cl_10 rfl (by decide) (by decide) (Nat.le_of_ble_eq_true rfl) ⟨Nat.le_of_ble_eq_true rfl, Nat.le_of_ble_eq_true rfl⟩ rfl ?_
  show QW G (qrm 3 0 0) YX11_year 0 0 5 [some (.ref 0), some (.int a1), none, none] [.int r3] SH M J _
  refine q_istore_n (pc := 5) (ls' := [some (.ref 0), some (.int a1), some (.int r3), none]) dX11_year_5 (by decide) rfl rfl ?_
  refine q_iload_n (pc := 6) dX11_year_6 rfl ?_
  by_cases k4 : r3 = 0
  · rw [if_pos k4] at h
    refine q_if_eq_t (pc := 7) (tgt := 12) dX11_year_7 (by decide) k4 ?_
    refine q_aload_n (pc := 12) dX11_year_12 rfl ?_
    refine q_getf (pc := 13) (f := 2) (v := .ref 7) dX11_year_13 sh_0 cl_10 inX11 rfl (by decide) lk_X11_26 rfl ?_
    refine q_aload_n (pc := 16) dX11_year_16 rfl ?_
    refine q_getf (pc := 17) (f := 0) (v := .ref 1) dX11_year_17 sh_0 cl_10 inX11 rfl (by decide) lk_X11_10 rfl ?_
    obtain ⟨M7, h6, h⟩ := Option.bind_eq_some_iff.mp h
    refine q_callv (pc := 20) (st := []) (a_X6_remember h6) okX6_remember rfl dX11_year_20 lk_X11_216 sh_7 cl_6 rfl (by decide) (by decide) (Nat.le_of_ble_eq_true rfl) ⟨Nat.le_of_ble_eq_true rfl, Nat.le_of_ble_eq_true rfl⟩ rfl ?_
    show QW G (qrm 3 0 0) YX11_year 0 0 23 [some (.ref 0), some (.int a1), some (.int r3), none] [] SH M7 J _
    refine q_iconst (pc := 23) (v := nI 0) dX11_year_23 (by decide) ?_
    refine q_istore_n (pc := 24) (ls' := [some (.ref 0), some (.int a1), some (.int r3), some (.int (nI 0))]) dX11_year_24 (by decide) rfl rfl ?_
    refine q_weak (ls' := [some (.ref 0), some (.int a1), none, some (.int (nI 0))]) ⟨rfl, ⟨rfl, ⟨rfl, trivial⟩⟩⟩ ?_
    obtain ⟨⟨e12_3, M13⟩, h17, h⟩ := Option.bind_eq_some_iff.mp h
    try dsimp only at h
    refine l_X11_year_L25 a1 J qF (nI 0) M7 _ h17 (fun x hx => ?_)
    subst hx
    show QW G (qrm 3 0 0) YX11_year 0 0 43 [some (.ref 0), none, none, none] [] SH M13 J _
    refine q_aload_n (pc := 43) dX11_year_43 rfl ?_
    refine q_getf (pc := 44) (f := 0) (v := .ref 1) dX11_year_44 sh_0 cl_10 inX11 rfl (by decide) lk_X11_10 rfl ?_
    obtain ⟨r16, h15, h⟩ := Option.bind_eq_some_iff.mp h
    refine q_callv (pc := 47) (st := []) (a_X5_years h15) okX5_years rfl dX11_year_47 lk_X11_132 sh_1 cl_5 rfl (by decide) (by decide) (Nat.le_of_ble_eq_true rfl) ⟨Nat.le_of_ble_eq_true rfl, Nat.le_of_ble_eq_true rfl⟩ rfl ?_
    show QW G (qrm 3 0 0) YX11_year 0 0 50 [some (.ref 0), none, none, none] [.int r16] SH M13 J _
    have h := Option.some.inj h
    obtain ⟨rfl, rfl⟩ := Prod.mk.inj h
    exact q_iret (pc := 50) dX11_year_50 rfl rfl rfl
  · rw [if_neg k4] at h
    refine q_if_eq_f (pc := 7) (tgt := 12) dX11_year_7 (by decide) k4 ?_
    refine q_iload_n (pc := 10) dX11_year_10 rfl ?_
    have h := Option.some.inj h
    obtain ⟨rfl, rfl⟩ := Prod.mk.inj h
    exact q_iret (pc := 11) dX11_year_11 rfl rfl rfl
def f_X5_setKnown (a1 : Int32) (a2 : Int32) (M : qM) : Option qM :=
  (qwr M 2 172 ((nI 66) + a1) a2).bind fun M1 => some (M1)
set_option maxRecDepth 20000 in
set_option maxHeartbeats 4000000 in
theorem a_X5_setKnown {G : qG} {a1 : Int32} {a2 : Int32} {M : qM} {J : qJ} {M' : qM} (h : f_X5_setKnown a1 a2 M = some (M')) : QM G 0 0 0 YX5_setKnown [.ref 1, .int a1, .int a2] SH M J (none, SH, M', J) := by
  refine ⟨Nat.le_of_ble_eq_true rfl, rfl, ?_⟩
  show QW G (qrm 0 0 0) YX5_setKnown 0 0 0 [some (.ref 1), some (.int a1), some (.int a2)] [] SH M J _
  unfold f_X5_setKnown at h
  refine q_aload_n (pc := 0) dX5_setKnown_0 rfl ?_
  refine q_getf (pc := 1) (f := 0) (v := .ref 2) dX5_setKnown_1 sh_1 cl_5 inX5 rfl (by decide) lk_X5_11 rfl ?_
  refine q_bipush (pc := 4) (v := nI 66) dX5_setKnown_4 (by decide) ?_
  refine q_iload_n (pc := 6) dX5_setKnown_6 rfl ?_
  refine q_iadd (pc := 7) dX5_setKnown_7 ?_
  refine q_iload_n (pc := 8) dX5_setKnown_8 rfl ?_
  obtain ⟨M1, h2, h⟩ := Option.bind_eq_some_iff.mp h
  refine q_iast (pc := 9) dX5_setKnown_9 sh_2 h2 ?_
  obtain rfl := Option.some.inj h
  exact q_vret (pc := 10) dX5_setKnown_10 rfl rfl rfl
def f_X11_teach (a1 : Int32) (a2 : Int32) (a3 : Int32) (M : qM) : Option (Int32 × qM) :=
  (f_X5_hasObjector a1 M).bind fun b3 => if b3 = true then (f_X11_isOutside a2 (nI 0) (nI 4) M).bind fun b7 => if b7 = true then some ((-1000000002 : Int32), M)
    else (f_X6_remember M).bind fun M11 => if a3 = 0 then (f_X5_known a1 M11).bind fun r15 => (f_X5_setKnown a1 (r15 &&& (((nI 1) <<< (a2 &&& 31)) ^^^ (-1 : Int32))) M11).bind fun M18 => (f_X5_known a1 M18).bind fun r21 => some (r21, M18)
    else (f_X5_known a1 M11).bind fun r24 => (f_X5_setKnown a1 (r24 ||| ((nI 1) <<< (a2 &&& 31))) M11).bind fun M27 => (f_X5_known a1 M27).bind fun r30 => some (r30, M27)
    else some ((-1000000001 : Int32), M)
set_option maxRecDepth 20000 in
set_option maxHeartbeats 4000000 in
theorem a_X11_teach {G : qG} {a1 : Int32} {a2 : Int32} {a3 : Int32} {M : qM} {J : qJ} {r : Int32} {M' : qM} (h : f_X11_teach a1 a2 a3 M = some (r, M')) : QM G 3 0 0 YX11_teach [.ref 0, .int a1, .int a2, .int a3] SH M J (some (.int r), SH, M', J) := by
  refine ⟨Nat.le_of_ble_eq_true rfl, Or.inl rfl, ?_⟩
  show QW G (qrm 3 0 0) YX11_teach 0 0 0 [some (.ref 0), some (.int a1), some (.int a2), some (.int a3)] [] SH M J _
  unfold f_X11_teach at h
  refine q_aload_n (pc := 0) dX11_teach_0 rfl ?_
  refine q_getf (pc := 1) (f := 0) (v := .ref 1) dX11_teach_1 sh_0 cl_10 inX11 rfl (by decide) lk_X11_10 rfl ?_
  refine q_iload_n (pc := 4) dX11_teach_4 rfl ?_
  obtain ⟨b3, h2, h⟩ := Option.bind_eq_some_iff.mp h
  refine q_callv (pc := 5) (st := []) (a_X5_hasObjector h2) okX5_hasObjector rfl dX11_teach_5 lk_X11_186 sh_1 cl_5 rfl (by decide) (by decide) (Nat.le_of_ble_eq_true rfl) ⟨Nat.le_of_ble_eq_true rfl, Nat.le_of_ble_eq_true rfl⟩ rfl ?_
  show QW G (qrm 3 0 0) YX11_teach 0 0 8 [some (.ref 0), some (.int a1), some (.int a2), some (.int a3)] [.int (qb b3)] SH M J _
  by_cases k4 : b3 = true
  · rw [if_pos k4] at h
    refine q_if_ne_t (pc := 8) (tgt := 14) dX11_teach_8 (by decide) (qb_t k4) ?_
    refine q_iload_n (pc := 14) dX11_teach_14 rfl ?_
    refine q_iconst (pc := 15) (v := nI 0) dX11_teach_15 (by decide) ?_
    refine q_iconst (pc := 16) (v := nI 4) dX11_teach_16 (by decide) ?_
    obtain ⟨b7, h6, h⟩ := Option.bind_eq_some_iff.mp h
    refine q_calls (pc := 17) (st := []) (a_X11_isOutside h6) okX11_isOutside rfl dX11_teach_17 lk_X11_79 rfl (by decide) (by decide) (Nat.le_of_ble_eq_true rfl) ⟨Nat.le_of_ble_eq_true rfl, Nat.le_of_ble_eq_true rfl⟩ rfl ?_
    show QW G (qrm 3 0 0) YX11_teach 0 0 20 [some (.ref 0), some (.int a1), some (.int a2), some (.int a3)] [.int (qb b7)] SH M J _
    by_cases k8 : b7 = true
    · rw [if_pos k8] at h
      refine q_if_eq_f (pc := 20) (tgt := 26) dX11_teach_20 (by decide) (qb_t k8) ?_
      refine q_ldc (pc := 23) (v := (-1000000002 : Int32)) dX11_teach_23 lk_X11_83 ?_
      have h := Option.some.inj h
      obtain ⟨rfl, rfl⟩ := Prod.mk.inj h
      exact q_iret (pc := 25) dX11_teach_25 rfl rfl rfl
    · rw [if_neg k8] at h
      refine q_if_eq_t (pc := 20) (tgt := 26) dX11_teach_20 (by decide) (qb_f k8) ?_
      refine q_aload_n (pc := 26) dX11_teach_26 rfl ?_
      refine q_getf (pc := 27) (f := 2) (v := .ref 7) dX11_teach_27 sh_0 cl_10 inX11 rfl (by decide) lk_X11_26 rfl ?_
      refine q_aload_n (pc := 30) dX11_teach_30 rfl ?_
      refine q_getf (pc := 31) (f := 0) (v := .ref 1) dX11_teach_31 sh_0 cl_10 inX11 rfl (by decide) lk_X11_10 rfl ?_
      obtain ⟨M11, h10, h⟩ := Option.bind_eq_some_iff.mp h
      refine q_callv (pc := 34) (st := []) (a_X6_remember h10) okX6_remember rfl dX11_teach_34 lk_X11_216 sh_7 cl_6 rfl (by decide) (by decide) (Nat.le_of_ble_eq_true rfl) ⟨Nat.le_of_ble_eq_true rfl, Nat.le_of_ble_eq_true rfl⟩ rfl ?_
      show QW G (qrm 3 0 0) YX11_teach 0 0 37 [some (.ref 0), some (.int a1), some (.int a2), some (.int a3)] [] SH M11 J _
      refine q_aload_n (pc := 37) dX11_teach_37 rfl ?_
      refine q_getf (pc := 38) (f := 0) (v := .ref 1) dX11_teach_38 sh_0 cl_10 inX11 rfl (by decide) lk_X11_10 rfl ?_
      refine q_iload_n (pc := 41) dX11_teach_41 rfl ?_
      refine q_iload_n (pc := 42) dX11_teach_42 rfl ?_
      by_cases k12 : a3 = 0
      · rw [if_pos k12] at h
        refine q_if_eq_t (pc := 43) (tgt := 61) dX11_teach_43 (by decide) k12 ?_
        refine q_aload_n (pc := 61) dX11_teach_61 rfl ?_
        refine q_getf (pc := 62) (f := 0) (v := .ref 1) dX11_teach_62 sh_0 cl_10 inX11 rfl (by decide) lk_X11_10 rfl ?_
        refine q_iload_n (pc := 65) dX11_teach_65 rfl ?_
        obtain ⟨r15, h14, h⟩ := Option.bind_eq_some_iff.mp h
        refine q_callv (pc := 66) (st := [.int a1, .ref 1]) (a_X5_known h14) okX5_known rfl dX11_teach_66 lk_X11_195 sh_1 cl_5 rfl (by decide) (by decide) (Nat.le_of_ble_eq_true rfl) ⟨Nat.le_of_ble_eq_true rfl, Nat.le_of_ble_eq_true rfl⟩ rfl ?_
        show QW G (qrm 3 0 0) YX11_teach 0 0 69 [some (.ref 0), some (.int a1), some (.int a2), some (.int a3)] [.int r15, .int a1, .ref 1] SH M11 J _
        refine q_iconst (pc := 69) (v := nI 1) dX11_teach_69 (by decide) ?_
        refine q_iload_n (pc := 70) dX11_teach_70 rfl ?_
        refine q_ishl (pc := 71) dX11_teach_71 ?_
        refine q_iconst (pc := 72) (v := (-1 : Int32)) dX11_teach_72 (by decide) ?_
        refine q_ixor (pc := 73) dX11_teach_73 ?_
        refine q_iand (pc := 74) dX11_teach_74 ?_
        obtain ⟨M18, h17, h⟩ := Option.bind_eq_some_iff.mp h
        refine q_callv (pc := 75) (st := []) (a_X5_setKnown h17) okX5_setKnown rfl dX11_teach_75 lk_X11_230 sh_1 cl_5 rfl (by decide) (by decide) (Nat.le_of_ble_eq_true rfl) ⟨Nat.le_of_ble_eq_true rfl, Nat.le_of_ble_eq_true rfl⟩ rfl ?_
        show QW G (qrm 3 0 0) YX11_teach 0 0 78 [some (.ref 0), some (.int a1), some (.int a2), some (.int a3)] [] SH M18 J _
        refine q_aload_n (pc := 78) dX11_teach_78 rfl ?_
        refine q_getf (pc := 79) (f := 0) (v := .ref 1) dX11_teach_79 sh_0 cl_10 inX11 rfl (by decide) lk_X11_10 rfl ?_
        refine q_iload_n (pc := 82) dX11_teach_82 rfl ?_
        obtain ⟨r21, h20, h⟩ := Option.bind_eq_some_iff.mp h
        refine q_callv (pc := 83) (st := []) (a_X5_known h20) okX5_known rfl dX11_teach_83 lk_X11_195 sh_1 cl_5 rfl (by decide) (by decide) (Nat.le_of_ble_eq_true rfl) ⟨Nat.le_of_ble_eq_true rfl, Nat.le_of_ble_eq_true rfl⟩ rfl ?_
        show QW G (qrm 3 0 0) YX11_teach 0 0 86 [some (.ref 0), some (.int a1), some (.int a2), some (.int a3)] [.int r21] SH M18 J _
        have h := Option.some.inj h
        obtain ⟨rfl, rfl⟩ := Prod.mk.inj h
        exact q_iret (pc := 86) dX11_teach_86 rfl rfl rfl
      · rw [if_neg k12] at h
        refine q_if_eq_f (pc := 43) (tgt := 61) dX11_teach_43 (by decide) k12 ?_
        refine q_aload_n (pc := 46) dX11_teach_46 rfl ?_
        refine q_getf (pc := 47) (f := 0) (v := .ref 1) dX11_teach_47 sh_0 cl_10 inX11 rfl (by decide) lk_X11_10 rfl ?_
        refine q_iload_n (pc := 50) dX11_teach_50 rfl ?_
        obtain ⟨r24, h23, h⟩ := Option.bind_eq_some_iff.mp h
        refine q_callv (pc := 51) (st := [.int a1, .ref 1]) (a_X5_known h23) okX5_known rfl dX11_teach_51 lk_X11_195 sh_1 cl_5 rfl (by decide) (by decide) (Nat.le_of_ble_eq_true rfl) ⟨Nat.le_of_ble_eq_true rfl, Nat.le_of_ble_eq_true rfl⟩ rfl ?_
        show QW G (qrm 3 0 0) YX11_teach 0 0 54 [some (.ref 0), some (.int a1), some (.int a2), some (.int a3)] [.int r24, .int a1, .ref 1] SH M11 J _
        refine q_iconst (pc := 54) (v := nI 1) dX11_teach_54 (by decide) ?_
        refine q_iload_n (pc := 55) dX11_teach_55 rfl ?_
        refine q_ishl (pc := 56) dX11_teach_56 ?_
        refine q_ior (pc := 57) dX11_teach_57 ?_
        refine q_goto (pc := 58) (tgt := 75) dX11_teach_58 (by decide) ?_
        obtain ⟨M27, h26, h⟩ := Option.bind_eq_some_iff.mp h
        refine q_callv (pc := 75) (st := []) (a_X5_setKnown h26) okX5_setKnown rfl dX11_teach_75 lk_X11_230 sh_1 cl_5 rfl (by decide) (by decide) (Nat.le_of_ble_eq_true rfl) ⟨Nat.le_of_ble_eq_true rfl, Nat.le_of_ble_eq_true rfl⟩ rfl ?_
        show QW G (qrm 3 0 0) YX11_teach 0 0 78 [some (.ref 0), some (.int a1), some (.int a2), some (.int a3)] [] SH M27 J _
        refine q_aload_n (pc := 78) dX11_teach_78 rfl ?_
        refine q_getf (pc := 79) (f := 0) (v := .ref 1) dX11_teach_79 sh_0 cl_10 inX11 rfl (by decide) lk_X11_10 rfl ?_
        refine q_iload_n (pc := 82) dX11_teach_82 rfl ?_
        obtain ⟨r30, h29, h⟩ := Option.bind_eq_some_iff.mp h
        refine q_callv (pc := 83) (st := []) (a_X5_known h29) okX5_known rfl dX11_teach_83 lk_X11_195 sh_1 cl_5 rfl (by decide) (by decide) (Nat.le_of_ble_eq_true rfl) ⟨Nat.le_of_ble_eq_true rfl, Nat.le_of_ble_eq_true rfl⟩ rfl ?_
        show QW G (qrm 3 0 0) YX11_teach 0 0 86 [some (.ref 0), some (.int a1), some (.int a2), some (.int a3)] [.int r30] SH M27 J _
        have h := Option.some.inj h
        obtain ⟨rfl, rfl⟩ := Prod.mk.inj h
        exact q_iret (pc := 86) dX11_teach_86 rfl rfl rfl
  · rw [if_neg k4] at h
    refine q_if_ne_f (pc := 8) (tgt := 14) dX11_teach_8 (by decide) (qb_f k4) ?_
    refine q_ldc (pc := 11) (v := (-1000000001 : Int32)) dX11_teach_11 lk_X11_165 ?_
    have h := Option.some.inj h
    obtain ⟨rfl, rfl⟩ := Prod.mk.inj h
    exact q_iret (pc := 13) dX11_teach_13 rfl rfl rfl
def f_X5_setWeight (a1 : Int32) (a2 : Int32) (a3 : Int32) (M : qM) : Option qM :=
  (qwr M 2 172 (((nI 24) + (a1 * (nI 5))) + a2) a3).bind fun M1 => some (M1)
set_option maxRecDepth 20000 in
set_option maxHeartbeats 4000000 in
theorem a_X5_setWeight {G : qG} {a1 : Int32} {a2 : Int32} {a3 : Int32} {M : qM} {J : qJ} {M' : qM} (h : f_X5_setWeight a1 a2 a3 M = some (M')) : QM G 0 0 0 YX5_setWeight [.ref 1, .int a1, .int a2, .int a3] SH M J (none, SH, M', J) := by
  refine ⟨Nat.le_of_ble_eq_true rfl, rfl, ?_⟩
  show QW G (qrm 0 0 0) YX5_setWeight 0 0 0 [some (.ref 1), some (.int a1), some (.int a2), some (.int a3)] [] SH M J _
  unfold f_X5_setWeight at h
  refine q_aload_n (pc := 0) dX5_setWeight_0 rfl ?_
  refine q_getf (pc := 1) (f := 0) (v := .ref 2) dX5_setWeight_1 sh_1 cl_5 inX5 rfl (by decide) lk_X5_11 rfl ?_
  refine q_bipush (pc := 4) (v := nI 24) dX5_setWeight_4 (by decide) ?_
  refine q_iload_n (pc := 6) dX5_setWeight_6 rfl ?_
  refine q_iconst (pc := 7) (v := nI 5) dX5_setWeight_7 (by decide) ?_
  refine q_imul (pc := 8) dX5_setWeight_8 ?_
  refine q_iadd (pc := 9) dX5_setWeight_9 ?_
  refine q_iload_n (pc := 10) dX5_setWeight_10 rfl ?_
  refine q_iadd (pc := 11) dX5_setWeight_11 ?_
  refine q_iload_n (pc := 12) dX5_setWeight_12 rfl ?_
  obtain ⟨M1, h2, h⟩ := Option.bind_eq_some_iff.mp h
  refine q_iast (pc := 13) dX5_setWeight_13 sh_2 h2 ?_
  obtain rfl := Option.some.inj h
  exact q_vret (pc := 14) dX5_setWeight_14 rfl rfl rfl
def f_X11_hear (a1 : Int32) (a2 : Int32) (a3 : Int32) (M : qM) : Option (Int32 × qM) :=
  (f_X5_hasCouple a1 M).bind fun b3 => if b3 = true then (f_X11_isOutside a2 (nI 0) (nI 4) M).bind fun b7 => if b7 = true then some ((-1000000002 : Int32), M)
    else (f_X11_isOutside a3 (nI 0) (nI 20) M).bind fun b11 => if b11 = true then some ((-1000000002 : Int32), M)
    else (f_X5_weight a1 a2 M).bind fun r15 => (f_X6_remember M).bind fun M18 => (f_X5_setWeight a1 a2 a3 M18).bind fun M21 => some (r15, M21)
    else some ((-1000000001 : Int32), M)
set_option maxRecDepth 20000 in
set_option maxHeartbeats 4000000 in
theorem a_X11_hear {G : qG} {a1 : Int32} {a2 : Int32} {a3 : Int32} {M : qM} {J : qJ} {r : Int32} {M' : qM} (h : f_X11_hear a1 a2 a3 M = some (r, M')) : QM G 3 0 0 YX11_hear [.ref 0, .int a1, .int a2, .int a3] SH M J (some (.int r), SH, M', J) := by
  refine ⟨Nat.le_of_ble_eq_true rfl, Or.inl rfl, ?_⟩
  show QW G (qrm 3 0 0) YX11_hear 0 0 0 [some (.ref 0), some (.int a1), some (.int a2), some (.int a3), none] [] SH M J _
  unfold f_X11_hear at h
  refine q_aload_n (pc := 0) dX11_hear_0 rfl ?_
  refine q_getf (pc := 1) (f := 0) (v := .ref 1) dX11_hear_1 sh_0 cl_10 inX11 rfl (by decide) lk_X11_10 rfl ?_
  refine q_iload_n (pc := 4) dX11_hear_4 rfl ?_
  obtain ⟨b3, h2, h⟩ := Option.bind_eq_some_iff.mp h
  refine q_callv (pc := 5) (st := []) (a_X5_hasCouple h2) okX5_hasCouple rfl dX11_hear_5 lk_X11_161 sh_1 cl_5 rfl (by decide) (by decide) (Nat.le_of_ble_eq_true rfl) ⟨Nat.le_of_ble_eq_true rfl, Nat.le_of_ble_eq_true rfl⟩ rfl ?_
  show QW G (qrm 3 0 0) YX11_hear 0 0 8 [some (.ref 0), some (.int a1), some (.int a2), some (.int a3), none] [.int (qb b3)] SH M J _
  by_cases k4 : b3 = true
  · rw [if_pos k4] at h
    refine q_if_ne_t (pc := 8) (tgt := 14) dX11_hear_8 (by decide) (qb_t k4) ?_
    refine q_iload_n (pc := 14) dX11_hear_14 rfl ?_
    refine q_iconst (pc := 15) (v := nI 0) dX11_hear_15 (by decide) ?_
    refine q_iconst (pc := 16) (v := nI 4) dX11_hear_16 (by decide) ?_
    obtain ⟨b7, h6, h⟩ := Option.bind_eq_some_iff.mp h
    refine q_calls (pc := 17) (st := []) (a_X11_isOutside h6) okX11_isOutside rfl dX11_hear_17 lk_X11_79 rfl (by decide) (by decide) (Nat.le_of_ble_eq_true rfl) ⟨Nat.le_of_ble_eq_true rfl, Nat.le_of_ble_eq_true rfl⟩ rfl ?_
    show QW G (qrm 3 0 0) YX11_hear 0 0 20 [some (.ref 0), some (.int a1), some (.int a2), some (.int a3), none] [.int (qb b7)] SH M J _
    by_cases k8 : b7 = true
    · rw [if_pos k8] at h
      refine q_if_ne_t (pc := 20) (tgt := 33) dX11_hear_20 (by decide) (qb_t k8) ?_
      refine q_ldc (pc := 33) (v := (-1000000002 : Int32)) dX11_hear_33 lk_X11_83 ?_
      have h := Option.some.inj h
      obtain ⟨rfl, rfl⟩ := Prod.mk.inj h
      exact q_iret (pc := 35) dX11_hear_35 rfl rfl rfl
    · rw [if_neg k8] at h
      refine q_if_ne_f (pc := 20) (tgt := 33) dX11_hear_20 (by decide) (qb_f k8) ?_
      refine q_iload_n (pc := 23) dX11_hear_23 rfl ?_
      refine q_iconst (pc := 24) (v := nI 0) dX11_hear_24 (by decide) ?_
      refine q_bipush (pc := 25) (v := nI 20) dX11_hear_25 (by decide) ?_
      obtain ⟨b11, h10, h⟩ := Option.bind_eq_some_iff.mp h
      refine q_calls (pc := 27) (st := []) (a_X11_isOutside h10) okX11_isOutside rfl dX11_hear_27 lk_X11_79 rfl (by decide) (by decide) (Nat.le_of_ble_eq_true rfl) ⟨Nat.le_of_ble_eq_true rfl, Nat.le_of_ble_eq_true rfl⟩ rfl ?_
      show QW G (qrm 3 0 0) YX11_hear 0 0 30 [some (.ref 0), some (.int a1), some (.int a2), some (.int a3), none] [.int (qb b11)] SH M J _
      by_cases k12 : b11 = true
      · rw [if_pos k12] at h
        refine q_if_eq_f (pc := 30) (tgt := 36) dX11_hear_30 (by decide) (qb_t k12) ?_
        refine q_ldc (pc := 33) (v := (-1000000002 : Int32)) dX11_hear_33 lk_X11_83 ?_
        have h := Option.some.inj h
        obtain ⟨rfl, rfl⟩ := Prod.mk.inj h
        exact q_iret (pc := 35) dX11_hear_35 rfl rfl rfl
      · rw [if_neg k12] at h
        refine q_if_eq_t (pc := 30) (tgt := 36) dX11_hear_30 (by decide) (qb_f k12) ?_
        refine q_aload_n (pc := 36) dX11_hear_36 rfl ?_
        refine q_getf (pc := 37) (f := 0) (v := .ref 1) dX11_hear_37 sh_0 cl_10 inX11 rfl (by decide) lk_X11_10 rfl ?_
        refine q_iload_n (pc := 40) dX11_hear_40 rfl ?_
        refine q_iload_n (pc := 41) dX11_hear_41 rfl ?_
        obtain ⟨r15, h14, h⟩ := Option.bind_eq_some_iff.mp h
        refine q_callv (pc := 42) (st := []) (a_X5_weight h14) okX5_weight rfl dX11_hear_42 lk_X11_166 sh_1 cl_5 rfl (by decide) (by decide) (Nat.le_of_ble_eq_true rfl) ⟨Nat.le_of_ble_eq_true rfl, Nat.le_of_ble_eq_true rfl⟩ rfl ?_
        show QW G (qrm 3 0 0) YX11_hear 0 0 45 [some (.ref 0), some (.int a1), some (.int a2), some (.int a3), none] [.int r15] SH M J _
        refine q_istore (pc := 45) (ls' := [some (.ref 0), some (.int a1), some (.int a2), some (.int a3), some (.int r15)]) dX11_hear_45 (by decide) rfl rfl ?_
        refine q_aload_n (pc := 47) dX11_hear_47 rfl ?_
        refine q_getf (pc := 48) (f := 2) (v := .ref 7) dX11_hear_48 sh_0 cl_10 inX11 rfl (by decide) lk_X11_26 rfl ?_
        refine q_aload_n (pc := 51) dX11_hear_51 rfl ?_
        refine q_getf (pc := 52) (f := 0) (v := .ref 1) dX11_hear_52 sh_0 cl_10 inX11 rfl (by decide) lk_X11_10 rfl ?_
        obtain ⟨M18, h17, h⟩ := Option.bind_eq_some_iff.mp h
        refine q_callv (pc := 55) (st := []) (a_X6_remember h17) okX6_remember rfl dX11_hear_55 lk_X11_216 sh_7 cl_6 rfl (by decide) (by decide) (Nat.le_of_ble_eq_true rfl) ⟨Nat.le_of_ble_eq_true rfl, Nat.le_of_ble_eq_true rfl⟩ rfl ?_
        show QW G (qrm 3 0 0) YX11_hear 0 0 58 [some (.ref 0), some (.int a1), some (.int a2), some (.int a3), some (.int r15)] [] SH M18 J _
        refine q_aload_n (pc := 58) dX11_hear_58 rfl ?_
        refine q_getf (pc := 59) (f := 0) (v := .ref 1) dX11_hear_59 sh_0 cl_10 inX11 rfl (by decide) lk_X11_10 rfl ?_
        refine q_iload_n (pc := 62) dX11_hear_62 rfl ?_
        refine q_iload_n (pc := 63) dX11_hear_63 rfl ?_
        refine q_iload_n (pc := 64) dX11_hear_64 rfl ?_
        obtain ⟨M21, h20, h⟩ := Option.bind_eq_some_iff.mp h
        refine q_callv (pc := 65) (st := []) (a_X5_setWeight h20) okX5_setWeight rfl dX11_hear_65 lk_X11_233 sh_1 cl_5 rfl (by decide) (by decide) (Nat.le_of_ble_eq_true rfl) ⟨Nat.le_of_ble_eq_true rfl, Nat.le_of_ble_eq_true rfl⟩ rfl ?_
        show QW G (qrm 3 0 0) YX11_hear 0 0 68 [some (.ref 0), some (.int a1), some (.int a2), some (.int a3), some (.int r15)] [] SH M21 J _
        refine q_iload (pc := 68) dX11_hear_68 rfl ?_
        have h := Option.some.inj h
        obtain ⟨rfl, rfl⟩ := Prod.mk.inj h
        exact q_iret (pc := 70) dX11_hear_70 rfl rfl rfl
  · rw [if_neg k4] at h
    refine q_if_ne_f (pc := 8) (tgt := 14) dX11_hear_8 (by decide) (qb_f k4) ?_
    refine q_ldc (pc := 11) (v := (-1000000001 : Int32)) dX11_hear_11 lk_X11_165 ?_
    have h := Option.some.inj h
    obtain ⟨rfl, rfl⟩ := Prod.mk.inj h
    exact q_iret (pc := 13) dX11_hear_13 rfl rfl rfl
def f_X11_practise (a1 : Int32) (a2 : Int32) (M : qM) : Option (Int32 × qM) :=
  (f_X5_hasCouple a1 M).bind fun b3 => if b3 = true then (f_X11_isOutside a2 (nI 0) (nI 99) M).bind fun b7 => if b7 = true then some ((-1000000002 : Int32), M)
    else (f_X5_waits a1 M).bind fun b11 => if b11 = true then (f_X5_answer a1 M).bind fun r15 => (f_X6_remember M).bind fun M18 => (f_X5_setAnswer a1 a2 M18).bind fun M21 => some (r15, M21)
    else some ((-1000000003 : Int32), M)
    else some ((-1000000001 : Int32), M)
set_option maxRecDepth 20000 in
set_option maxHeartbeats 4000000 in
theorem a_X11_practise {G : qG} {a1 : Int32} {a2 : Int32} {M : qM} {J : qJ} {r : Int32} {M' : qM} (h : f_X11_practise a1 a2 M = some (r, M')) : QM G 3 0 0 YX11_practise [.ref 0, .int a1, .int a2] SH M J (some (.int r), SH, M', J) := by
  refine ⟨Nat.le_of_ble_eq_true rfl, Or.inl rfl, ?_⟩
  show QW G (qrm 3 0 0) YX11_practise 0 0 0 [some (.ref 0), some (.int a1), some (.int a2), none] [] SH M J _
  unfold f_X11_practise at h
  refine q_aload_n (pc := 0) dX11_practise_0 rfl ?_
  refine q_getf (pc := 1) (f := 0) (v := .ref 1) dX11_practise_1 sh_0 cl_10 inX11 rfl (by decide) lk_X11_10 rfl ?_
  refine q_iload_n (pc := 4) dX11_practise_4 rfl ?_
  obtain ⟨b3, h2, h⟩ := Option.bind_eq_some_iff.mp h
  refine q_callv (pc := 5) (st := []) (a_X5_hasCouple h2) okX5_hasCouple rfl dX11_practise_5 lk_X11_161 sh_1 cl_5 rfl (by decide) (by decide) (Nat.le_of_ble_eq_true rfl) ⟨Nat.le_of_ble_eq_true rfl, Nat.le_of_ble_eq_true rfl⟩ rfl ?_
  show QW G (qrm 3 0 0) YX11_practise 0 0 8 [some (.ref 0), some (.int a1), some (.int a2), none] [.int (qb b3)] SH M J _
  by_cases k4 : b3 = true
  · rw [if_pos k4] at h
    refine q_if_ne_t (pc := 8) (tgt := 14) dX11_practise_8 (by decide) (qb_t k4) ?_
    refine q_iload_n (pc := 14) dX11_practise_14 rfl ?_
    refine q_iconst (pc := 15) (v := nI 0) dX11_practise_15 (by decide) ?_
    refine q_bipush (pc := 16) (v := nI 99) dX11_practise_16 (by decide) ?_
    obtain ⟨b7, h6, h⟩ := Option.bind_eq_some_iff.mp h
    refine q_calls (pc := 18) (st := []) (a_X11_isOutside h6) okX11_isOutside rfl dX11_practise_18 lk_X11_79 rfl (by decide) (by decide) (Nat.le_of_ble_eq_true rfl) ⟨Nat.le_of_ble_eq_true rfl, Nat.le_of_ble_eq_true rfl⟩ rfl ?_
    show QW G (qrm 3 0 0) YX11_practise 0 0 21 [some (.ref 0), some (.int a1), some (.int a2), none] [.int (qb b7)] SH M J _
    by_cases k8 : b7 = true
    · rw [if_pos k8] at h
      refine q_if_eq_f (pc := 21) (tgt := 27) dX11_practise_21 (by decide) (qb_t k8) ?_
      refine q_ldc (pc := 24) (v := (-1000000002 : Int32)) dX11_practise_24 lk_X11_83 ?_
      have h := Option.some.inj h
      obtain ⟨rfl, rfl⟩ := Prod.mk.inj h
      exact q_iret (pc := 26) dX11_practise_26 rfl rfl rfl
    · rw [if_neg k8] at h
      refine q_if_eq_t (pc := 21) (tgt := 27) dX11_practise_21 (by decide) (qb_f k8) ?_
      refine q_aload_n (pc := 27) dX11_practise_27 rfl ?_
      refine q_getf (pc := 28) (f := 0) (v := .ref 1) dX11_practise_28 sh_0 cl_10 inX11 rfl (by decide) lk_X11_10 rfl ?_
      refine q_iload_n (pc := 31) dX11_practise_31 rfl ?_
      obtain ⟨b11, h10, h⟩ := Option.bind_eq_some_iff.mp h
      refine q_callv (pc := 32) (st := []) (a_X5_waits h10) okX5_waits rfl dX11_practise_32 lk_X11_237 sh_1 cl_5 rfl (by decide) (by decide) (Nat.le_of_ble_eq_true rfl) ⟨Nat.le_of_ble_eq_true rfl, Nat.le_of_ble_eq_true rfl⟩ rfl ?_
      show QW G (qrm 3 0 0) YX11_practise 0 0 35 [some (.ref 0), some (.int a1), some (.int a2), none] [.int (qb b11)] SH M J _
      by_cases k12 : b11 = true
      · rw [if_pos k12] at h
        refine q_if_ne_t (pc := 35) (tgt := 41) dX11_practise_35 (by decide) (qb_t k12) ?_
        refine q_aload_n (pc := 41) dX11_practise_41 rfl ?_
        refine q_getf (pc := 42) (f := 0) (v := .ref 1) dX11_practise_42 sh_0 cl_10 inX11 rfl (by decide) lk_X11_10 rfl ?_
        refine q_iload_n (pc := 45) dX11_practise_45 rfl ?_
        obtain ⟨r15, h14, h⟩ := Option.bind_eq_some_iff.mp h
        refine q_callv (pc := 46) (st := []) (a_X5_answer h14) okX5_answer rfl dX11_practise_46 lk_X11_170 sh_1 cl_5 rfl (by decide) (by decide) (Nat.le_of_ble_eq_true rfl) ⟨Nat.le_of_ble_eq_true rfl, Nat.le_of_ble_eq_true rfl⟩ rfl ?_
        show QW G (qrm 3 0 0) YX11_practise 0 0 49 [some (.ref 0), some (.int a1), some (.int a2), none] [.int r15] SH M J _
        refine q_istore_n (pc := 49) (ls' := [some (.ref 0), some (.int a1), some (.int a2), some (.int r15)]) dX11_practise_49 (by decide) rfl rfl ?_
        refine q_aload_n (pc := 50) dX11_practise_50 rfl ?_
        refine q_getf (pc := 51) (f := 2) (v := .ref 7) dX11_practise_51 sh_0 cl_10 inX11 rfl (by decide) lk_X11_26 rfl ?_
        refine q_aload_n (pc := 54) dX11_practise_54 rfl ?_
        refine q_getf (pc := 55) (f := 0) (v := .ref 1) dX11_practise_55 sh_0 cl_10 inX11 rfl (by decide) lk_X11_10 rfl ?_
        obtain ⟨M18, h17, h⟩ := Option.bind_eq_some_iff.mp h
        refine q_callv (pc := 58) (st := []) (a_X6_remember h17) okX6_remember rfl dX11_practise_58 lk_X11_216 sh_7 cl_6 rfl (by decide) (by decide) (Nat.le_of_ble_eq_true rfl) ⟨Nat.le_of_ble_eq_true rfl, Nat.le_of_ble_eq_true rfl⟩ rfl ?_
        show QW G (qrm 3 0 0) YX11_practise 0 0 61 [some (.ref 0), some (.int a1), some (.int a2), some (.int r15)] [] SH M18 J _
        refine q_aload_n (pc := 61) dX11_practise_61 rfl ?_
        refine q_getf (pc := 62) (f := 0) (v := .ref 1) dX11_practise_62 sh_0 cl_10 inX11 rfl (by decide) lk_X11_10 rfl ?_
        refine q_iload_n (pc := 65) dX11_practise_65 rfl ?_
        refine q_iload_n (pc := 66) dX11_practise_66 rfl ?_
        obtain ⟨M21, h20, h⟩ := Option.bind_eq_some_iff.mp h
        refine q_callv (pc := 67) (st := []) (a_X5_setAnswer h20) okX5_setAnswer rfl dX11_practise_67 lk_X11_240 sh_1 cl_5 rfl (by decide) (by decide) (Nat.le_of_ble_eq_true rfl) ⟨Nat.le_of_ble_eq_true rfl, Nat.le_of_ble_eq_true rfl⟩ rfl ?_
        show QW G (qrm 3 0 0) YX11_practise 0 0 70 [some (.ref 0), some (.int a1), some (.int a2), some (.int r15)] [] SH M21 J _
        refine q_iload_n (pc := 70) dX11_practise_70 rfl ?_
        have h := Option.some.inj h
        obtain ⟨rfl, rfl⟩ := Prod.mk.inj h
        exact q_iret (pc := 71) dX11_practise_71 rfl rfl rfl
      · rw [if_neg k12] at h
        refine q_if_ne_f (pc := 35) (tgt := 41) dX11_practise_35 (by decide) (qb_f k12) ?_
        refine q_ldc (pc := 38) (v := (-1000000003 : Int32)) dX11_practise_38 lk_X11_215 ?_
        have h := Option.some.inj h
        obtain ⟨rfl, rfl⟩ := Prod.mk.inj h
        exact q_iret (pc := 40) dX11_practise_40 rfl rfl rfl
  · rw [if_neg k4] at h
    refine q_if_ne_f (pc := 8) (tgt := 14) dX11_practise_8 (by decide) (qb_f k4) ?_
    refine q_ldc (pc := 11) (v := (-1000000001 : Int32)) dX11_practise_11 lk_X11_165 ?_
    have h := Option.some.inj h
    obtain ⟨rfl, rfl⟩ := Prod.mk.inj h
    exact q_iret (pc := 13) dX11_practise_13 rfl rfl rfl
def f_X11_sour (a1 : Int32) (a2 : Int32) (M : qM) : Option (Int32 × qM) :=
  (f_X5_hasObjector a1 M).bind fun b3 => if b3 = true then (f_X11_isOutside a2 (nI 0) (nI 40) M).bind fun b7 => if b7 = true then some ((-1000000002 : Int32), M)
    else (f_X5_skill a1 M).bind fun r11 => (f_X6_remember M).bind fun M14 => (f_X5_setSkill a1 a2 M14).bind fun M17 => some (r11, M17)
    else some ((-1000000001 : Int32), M)
set_option maxRecDepth 20000 in
set_option maxHeartbeats 4000000 in
theorem a_X11_sour {G : qG} {a1 : Int32} {a2 : Int32} {M : qM} {J : qJ} {r : Int32} {M' : qM} (h : f_X11_sour a1 a2 M = some (r, M')) : QM G 3 0 0 YX11_sour [.ref 0, .int a1, .int a2] SH M J (some (.int r), SH, M', J) := by
  refine ⟨Nat.le_of_ble_eq_true rfl, Or.inl rfl, ?_⟩
  show QW G (qrm 3 0 0) YX11_sour 0 0 0 [some (.ref 0), some (.int a1), some (.int a2), none] [] SH M J _
  unfold f_X11_sour at h
  refine q_aload_n (pc := 0) dX11_sour_0 rfl ?_
  refine q_getf (pc := 1) (f := 0) (v := .ref 1) dX11_sour_1 sh_0 cl_10 inX11 rfl (by decide) lk_X11_10 rfl ?_
  refine q_iload_n (pc := 4) dX11_sour_4 rfl ?_
  obtain ⟨b3, h2, h⟩ := Option.bind_eq_some_iff.mp h
  refine q_callv (pc := 5) (st := []) (a_X5_hasObjector h2) okX5_hasObjector rfl dX11_sour_5 lk_X11_186 sh_1 cl_5 rfl (by decide) (by decide) (Nat.le_of_ble_eq_true rfl) ⟨Nat.le_of_ble_eq_true rfl, Nat.le_of_ble_eq_true rfl⟩ rfl ?_
  show QW G (qrm 3 0 0) YX11_sour 0 0 8 [some (.ref 0), some (.int a1), some (.int a2), none] [.int (qb b3)] SH M J _
  by_cases k4 : b3 = true
  · rw [if_pos k4] at h
    refine q_if_ne_t (pc := 8) (tgt := 14) dX11_sour_8 (by decide) (qb_t k4) ?_
    refine q_iload_n (pc := 14) dX11_sour_14 rfl ?_
    refine q_iconst (pc := 15) (v := nI 0) dX11_sour_15 (by decide) ?_
    refine q_bipush (pc := 16) (v := nI 40) dX11_sour_16 (by decide) ?_
    obtain ⟨b7, h6, h⟩ := Option.bind_eq_some_iff.mp h
    refine q_calls (pc := 18) (st := []) (a_X11_isOutside h6) okX11_isOutside rfl dX11_sour_18 lk_X11_79 rfl (by decide) (by decide) (Nat.le_of_ble_eq_true rfl) ⟨Nat.le_of_ble_eq_true rfl, Nat.le_of_ble_eq_true rfl⟩ rfl ?_
    show QW G (qrm 3 0 0) YX11_sour 0 0 21 [some (.ref 0), some (.int a1), some (.int a2), none] [.int (qb b7)] SH M J _
    by_cases k8 : b7 = true
    · rw [if_pos k8] at h
      refine q_if_eq_f (pc := 21) (tgt := 27) dX11_sour_21 (by decide) (qb_t k8) ?_
      refine q_ldc (pc := 24) (v := (-1000000002 : Int32)) dX11_sour_24 lk_X11_83 ?_
      have h := Option.some.inj h
      obtain ⟨rfl, rfl⟩ := Prod.mk.inj h
      exact q_iret (pc := 26) dX11_sour_26 rfl rfl rfl
    · rw [if_neg k8] at h
      refine q_if_eq_t (pc := 21) (tgt := 27) dX11_sour_21 (by decide) (qb_f k8) ?_
      refine q_aload_n (pc := 27) dX11_sour_27 rfl ?_
      refine q_getf (pc := 28) (f := 0) (v := .ref 1) dX11_sour_28 sh_0 cl_10 inX11 rfl (by decide) lk_X11_10 rfl ?_
      refine q_iload_n (pc := 31) dX11_sour_31 rfl ?_
      obtain ⟨r11, h10, h⟩ := Option.bind_eq_some_iff.mp h
      refine q_callv (pc := 32) (st := []) (a_X5_skill h10) okX5_skill rfl dX11_sour_32 lk_X11_192 sh_1 cl_5 rfl (by decide) (by decide) (Nat.le_of_ble_eq_true rfl) ⟨Nat.le_of_ble_eq_true rfl, Nat.le_of_ble_eq_true rfl⟩ rfl ?_
      show QW G (qrm 3 0 0) YX11_sour 0 0 35 [some (.ref 0), some (.int a1), some (.int a2), none] [.int r11] SH M J _
      refine q_istore_n (pc := 35) (ls' := [some (.ref 0), some (.int a1), some (.int a2), some (.int r11)]) dX11_sour_35 (by decide) rfl rfl ?_
      refine q_aload_n (pc := 36) dX11_sour_36 rfl ?_
      refine q_getf (pc := 37) (f := 2) (v := .ref 7) dX11_sour_37 sh_0 cl_10 inX11 rfl (by decide) lk_X11_26 rfl ?_
      refine q_aload_n (pc := 40) dX11_sour_40 rfl ?_
      refine q_getf (pc := 41) (f := 0) (v := .ref 1) dX11_sour_41 sh_0 cl_10 inX11 rfl (by decide) lk_X11_10 rfl ?_
      obtain ⟨M14, h13, h⟩ := Option.bind_eq_some_iff.mp h
      refine q_callv (pc := 44) (st := []) (a_X6_remember h13) okX6_remember rfl dX11_sour_44 lk_X11_216 sh_7 cl_6 rfl (by decide) (by decide) (Nat.le_of_ble_eq_true rfl) ⟨Nat.le_of_ble_eq_true rfl, Nat.le_of_ble_eq_true rfl⟩ rfl ?_
      show QW G (qrm 3 0 0) YX11_sour 0 0 47 [some (.ref 0), some (.int a1), some (.int a2), some (.int r11)] [] SH M14 J _
      refine q_aload_n (pc := 47) dX11_sour_47 rfl ?_
      refine q_getf (pc := 48) (f := 0) (v := .ref 1) dX11_sour_48 sh_0 cl_10 inX11 rfl (by decide) lk_X11_10 rfl ?_
      refine q_iload_n (pc := 51) dX11_sour_51 rfl ?_
      refine q_iload_n (pc := 52) dX11_sour_52 rfl ?_
      obtain ⟨M17, h16, h⟩ := Option.bind_eq_some_iff.mp h
      refine q_callv (pc := 53) (st := []) (a_X5_setSkill h16) okX5_setSkill rfl dX11_sour_53 lk_X11_243 sh_1 cl_5 rfl (by decide) (by decide) (Nat.le_of_ble_eq_true rfl) ⟨Nat.le_of_ble_eq_true rfl, Nat.le_of_ble_eq_true rfl⟩ rfl ?_
      show QW G (qrm 3 0 0) YX11_sour 0 0 56 [some (.ref 0), some (.int a1), some (.int a2), some (.int r11)] [] SH M17 J _
      refine q_iload_n (pc := 56) dX11_sour_56 rfl ?_
      have h := Option.some.inj h
      obtain ⟨rfl, rfl⟩ := Prod.mk.inj h
      exact q_iret (pc := 57) dX11_sour_57 rfl rfl rfl
  · rw [if_neg k4] at h
    refine q_if_ne_f (pc := 8) (tgt := 14) dX11_sour_8 (by decide) (qb_f k4) ?_
    refine q_ldc (pc := 11) (v := (-1000000001 : Int32)) dX11_sour_11 lk_X11_165 ?_
    have h := Option.some.inj h
    obtain ⟨rfl, rfl⟩ := Prod.mk.inj h
    exact q_iret (pc := 13) dX11_sour_13 rfl rfl rfl
def f_X2_draw (a1 : Int32) (M : qM) : Option (Int32 × qM) :=
  (qpu M 12 0 ((((((M 12 0).toInt64) * (lN 1103515245)) + (lN 12345)) &&& (lN 2147483647)).toInt32)).bind fun M1 => if a1 ≤ 0 then some (nI 0, M1)
    else (qdiv (M1 12 0) (nI 65536)).bind fun v4 => (qrem v4 a1).bind fun v6 => some (v6, M1)
set_option maxRecDepth 20000 in
set_option maxHeartbeats 4000000 in
theorem a_X2_draw {G : qG} {a1 : Int32} {M : qM} {J : qJ} {r : Int32} {M' : qM} (h : f_X2_draw a1 M = some (r, M')) : QM G 0 0 0 YX2_draw [.ref 12, .int a1] SH M J (some (.int r), SH, M', J) := by
  refine ⟨Nat.le_of_ble_eq_true rfl, Or.inl rfl, ?_⟩
  show QW G (qrm 0 0 0) YX2_draw 0 0 0 [some (.ref 12), some (.int a1)] [] SH M J _
  unfold f_X2_draw at h
  refine q_aload_n (pc := 0) dX2_draw_0 rfl ?_
  refine q_aload_n (pc := 1) dX2_draw_1 rfl ?_
  refine q_getf (pc := 2) (f := 0) (v := .int (M 12 0)) dX2_draw_2 sh_12 cl_2 inX2 rfl (by decide) lk_X2_9 rfl ?_
  refine q_i2l (pc := 5) dX2_draw_5 ?_
  refine q_ldc2 (pc := 6) (v := lN 1103515245) dX2_draw_6 lk_X2_15 ?_
  refine q_lmul (pc := 9) dX2_draw_9 ?_
  refine q_ldc2 (pc := 10) (v := lN 12345) dX2_draw_10 lk_X2_17 ?_
  refine q_ladd (pc := 13) dX2_draw_13 ?_
  refine q_ldc2 (pc := 14) (v := lN 2147483647) dX2_draw_14 lk_X2_19 ?_
  refine q_land (pc := 17) dX2_draw_17 ?_
  refine q_l2i (pc := 18) dX2_draw_18 ?_
  obtain ⟨M1, h2, h⟩ := Option.bind_eq_some_iff.mp h
  refine q_putI (pc := 19) (f := 0) tyX2 dX2_draw_19 sh_12 cl_2 inX2 tyX2_ok nmX2 rfl (by decide) lk_X2_9 rfl rfl rfl h2 ?_
  refine q_iload_n (pc := 22) dX2_draw_22 rfl ?_
  by_cases k3 : a1 ≤ 0
  · rw [if_pos k3] at h
    refine q_if_le_t (pc := 23) (tgt := 38) dX2_draw_23 (by decide) k3 ?_
    refine q_iconst (pc := 38) (v := nI 0) dX2_draw_38 (by decide) ?_
    have h := Option.some.inj h
    obtain ⟨rfl, rfl⟩ := Prod.mk.inj h
    exact q_iret (pc := 39) dX2_draw_39 rfl rfl rfl
  · rw [if_neg k3] at h
    refine q_if_le_f (pc := 23) (tgt := 38) dX2_draw_23 (by decide) k3 ?_
    refine q_aload_n (pc := 26) dX2_draw_26 rfl ?_
    refine q_getf (pc := 27) (f := 0) (v := .int (M1 12 0)) dX2_draw_27 sh_12 cl_2 inX2 rfl (by decide) lk_X2_9 rfl ?_
    refine q_ldc (pc := 30) (v := nI 65536) dX2_draw_30 (show Cond.constant YX2_draw.1.cls 21 (nI 65536) ∈ qT from lk_X2_21) ?_
    obtain ⟨v4, h5, h⟩ := Option.bind_eq_some_iff.mp h
    refine q_idiv (pc := 32) dX2_draw_32 h5 ?_
    refine q_iload_n (pc := 33) dX2_draw_33 rfl ?_
    obtain ⟨v6, h7, h⟩ := Option.bind_eq_some_iff.mp h
    refine q_irem (pc := 34) dX2_draw_34 h7 ?_
    refine q_goto (pc := 35) (tgt := 39) dX2_draw_35 (by decide) ?_
    have h := Option.some.inj h
    obtain ⟨rfl, rfl⟩ := Prod.mk.inj h
    exact q_iret (pc := 39) dX2_draw_39 rfl rfl rfl
