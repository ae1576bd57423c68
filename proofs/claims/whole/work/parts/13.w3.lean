def f_X2_stir  (M : qM) : Option qM :=
  (f_X5_couples M).bind fun r3 => if r3 = 0 then some (M)
    else (f_X5_objectors M).bind fun r7 => if r7 = 0 then some (M)
    else (f_X2_draw (nI 4) M).bind fun p9 => (f_X5_couples p9.2).bind fun r15 => (f_X2_draw r15 p9.2).bind fun p16 => (f_X5_objectors p16.2).bind fun r22 => (f_X2_draw r22 p16.2).bind fun p23 => if p9.1 = 0 then (f_X5_mayStand p23.1 p16.1 p23.2).bind fun b30 => if b30 = true then (f_X5_standUp p23.1 p16.1 p23.2).bind fun M34 => some (M34)
    else if p9.1 = (nI 1) then (f_X2_draw (nI 5) p23.2).bind fun p36 => (f_X2_draw (nI 21) p36.2).bind fun p40 => (f_X5_setWeight p16.1 p36.1 p40.1 p40.2).bind fun M46 => some (M46)
    else if p9.1 = (nI 2) then (f_X5_known p23.1 p23.2).bind fun r50 => (f_X2_draw (nI 5) p23.2).bind fun p51 => (f_X5_setKnown p23.1 (r50 ||| ((nI 1) <<< (p51.1 &&& 31))) p51.2).bind fun M57 => some (M57)
    else some (p23.2)
    else if p9.1 = (nI 1) then (f_X2_draw (nI 5) p23.2).bind fun p59 => (f_X2_draw (nI 21) p59.2).bind fun p63 => (f_X5_setWeight p16.1 p59.1 p63.1 p63.2).bind fun M69 => some (M69)
    else if p9.1 = (nI 2) then (f_X5_known p23.1 p23.2).bind fun r73 => (f_X2_draw (nI 5) p23.2).bind fun p74 => (f_X5_setKnown p23.1 (r73 ||| ((nI 1) <<< (p74.1 &&& 31))) p74.2).bind fun M80 => some (M80)
    else some (p23.2)
set_option maxRecDepth 20000 in
set_option maxHeartbeats 4000000 in
theorem a_X2_stir {G : qG}  {M : qM} {J : qJ} {M' : qM} (h : f_X2_stir  M = some (M')) : QM G 5 0 0 YX2_stir [.ref 12, .ref 1] SH M J (none, SH, M', J) := by
  refine ⟨Nat.le_of_ble_eq_true rfl, rfl, ?_⟩
  show QW G (qrm 5 0 0) YX2_stir 0 0 0 [some (.ref 12), some (.ref 1), none, none, none, none] [] SH M J _
  unfold f_X2_stir at h
  refine q_aload_n (pc := 0) dX2_stir_0 rfl ?_
  obtain ⟨r3, h2, h⟩ := Option.bind_eq_some_iff.mp h
  refine q_callv (pc := 1) (st := []) (a_X5_couples h2) okX5_couples rfl dX2_stir_1 lk_X2_22 sh_1 cl_5 rfl (by decide) (by decide) (Nat.le_of_ble_eq_true rfl) ⟨Nat.le_of_ble_eq_true rfl, Nat.le_of_ble_eq_true rfl⟩ rfl ?_
  show QW G (qrm 5 0 0) YX2_stir 0 0 4 [some (.ref 12), some (.ref 1), none, none, none, none] [.int r3] SH M J _
  by_cases k4 : r3 = 0
  · rw [if_pos k4] at h
    refine q_if_eq_t (pc := 4) (tgt := 14) dX2_stir_4 (by decide) k4 ?_
    obtain rfl := Option.some.inj h
    exact q_vret (pc := 14) dX2_stir_14 rfl rfl rfl
  · rw [if_neg k4] at h
    refine q_if_eq_f (pc := 4) (tgt := 14) dX2_stir_4 (by decide) k4 ?_
    refine q_aload_n (pc := 7) dX2_stir_7 rfl ?_
    obtain ⟨r7, h6, h⟩ := Option.bind_eq_some_iff.mp h
    refine q_callv (pc := 8) (st := []) (a_X5_objectors h6) okX5_objectors rfl dX2_stir_8 lk_X2_28 sh_1 cl_5 rfl (by decide) (by decide) (Nat.le_of_ble_eq_true rfl) ⟨Nat.le_of_ble_eq_true rfl, Nat.le_of_ble_eq_true rfl⟩ rfl ?_
    show QW G (qrm 5 0 0) YX2_stir 0 0 11 [some (.ref 12), some (.ref 1), none, none, none, none] [.int r7] SH M J _
    by_cases k8 : r7 = 0
    · rw [if_pos k8] at h
      refine q_if_ne_f (pc := 11) (tgt := 15) dX2_stir_11 (by decide) k8 ?_
      obtain rfl := Option.some.inj h
      exact q_vret (pc := 14) dX2_stir_14 rfl rfl rfl
    · rw [if_neg k8] at h
      refine q_if_ne_t (pc := 11) (tgt := 15) dX2_stir_11 (by decide) k8 ?_
      refine q_aload_n (pc := 15) dX2_stir_15 rfl ?_
      refine q_iconst (pc := 16) (v := nI 4) dX2_stir_16 (by decide) ?_
      obtain ⟨⟨r11, M12⟩, h10, h⟩ := Option.bind_eq_some_iff.mp h
      try dsimp only at h
      refine q_callv (pc := 17) (st := []) (a_X2_draw h10) okX2_draw rfl dX2_stir_17 lk_X2_31 sh_12 cl_2 rfl (by decide) (by decide) (Nat.le_of_ble_eq_true rfl) ⟨Nat.le_of_ble_eq_true rfl, Nat.le_of_ble_eq_true rfl⟩ rfl ?_
      show QW G (qrm 5 0 0) YX2_stir 0 0 20 [some (.ref 12), some (.ref 1), none, none, none, none] [.int r11] SH M12 J _
      refine q_istore_n (pc := 20) (ls' := [some (.ref 12), some (.ref 1), some (.int r11), none, none, none]) dX2_stir_20 (by decide) rfl rfl ?_
      refine q_aload_n (pc := 21) dX2_stir_21 rfl ?_
      refine q_aload_n (pc := 22) dX2_stir_22 rfl ?_
      obtain ⟨r15, h14, h⟩ := Option.bind_eq_some_iff.mp h
      refine q_callv (pc := 23) (st := [.ref 12]) (a_X5_couples h14) okX5_couples rfl dX2_stir_23 lk_X2_22 sh_1 cl_5 rfl (by decide) (by decide) (Nat.le_of_ble_eq_true rfl) ⟨Nat.le_of_ble_eq_true rfl, Nat.le_of_ble_eq_true rfl⟩ rfl ?_
      show QW G (qrm 5 0 0) YX2_stir 0 0 26 [some (.ref 12), some (.ref 1), some (.int r11), none, none, none] [.int r15, .ref 12] SH M12 J _
      obtain ⟨⟨r18, M19⟩, h17, h⟩ := Option.bind_eq_some_iff.mp h
      try dsimp only at h
      refine q_callv (pc := 26) (st := []) (a_X2_draw h17) okX2_draw rfl dX2_stir_26 lk_X2_31 sh_12 cl_2 rfl (by decide) (by decide) (Nat.le_of_ble_eq_true rfl) ⟨Nat.le_of_ble_eq_true rfl, Nat.le_of_ble_eq_true rfl⟩ rfl ?_
      show QW G (qrm 5 0 0) YX2_stir 0 0 29 [some (.ref 12), some (.ref 1), some (.int r11), none, none, none] [.int r18] SH M19 J _
      refine q_istore_n (pc := 29) (ls' := [some (.ref 12), some (.ref 1), some (.int r11), some (.int r18), none, none]) dX2_stir_29 (by decide) rfl rfl ?_
      refine q_aload_n (pc := 30) dX2_stir_30 rfl ?_
      refine q_aload_n (pc := 31) dX2_stir_31 rfl ?_
      obtain ⟨r22, h21, h⟩ := Option.bind_eq_some_iff.mp h
      refine q_callv (pc := 32) (st := [.ref 12]) (a_X5_objectors h21) okX5_objectors rfl dX2_stir_32 lk_X2_28 sh_1 cl_5 rfl (by decide) (by decide) (Nat.le_of_ble_eq_true rfl) ⟨Nat.le_of_ble_eq_true rfl, Nat.le_of_ble_eq_true rfl⟩ rfl ?_
      show QW G (qrm 5 0 0) YX2_stir 0 0 35 [some (.ref 12), some (.ref 1), some (.int r11), some (.int r18), none, none] [.int r22, .ref 12] SH M19 J _
      obtain ⟨⟨r25, M26⟩, h24, h⟩ := Option.bind_eq_some_iff.mp h
      try dsimp only at h
      refine q_callv (pc := 35) (st := []) (a_X2_draw h24) okX2_draw rfl dX2_stir_35 lk_X2_31 sh_12 cl_2 rfl (by decide) (by decide) (Nat.le_of_ble_eq_true rfl) ⟨Nat.le_of_ble_eq_true rfl, Nat.le_of_ble_eq_true rfl⟩ rfl ?_
      show QW G (qrm 5 0 0) YX2_stir 0 0 38 [some (.ref 12), some (.ref 1), some (.int r11), some (.int r18), none, none] [.int r25] SH M26 J _
      refine q_istore (pc := 38) (ls' := [some (.ref 12), some (.ref 1), some (.int r11), some (.int r18), some (.int r25), none]) dX2_stir_38 (by decide) rfl rfl ?_
      refine q_iload_n (pc := 40) dX2_stir_40 rfl ?_
      by_cases k27 : r11 = 0
      · rw [if_pos k27] at h
        refine q_if_ne_f (pc := 41) (tgt := 64) dX2_stir_41 (by decide) k27 ?_
        refine q_aload_n (pc := 44) dX2_stir_44 rfl ?_
        refine q_iload (pc := 45) dX2_stir_45 rfl ?_
        refine q_iload_n (pc := 47) dX2_stir_47 rfl ?_
        obtain ⟨b30, h29, h⟩ := Option.bind_eq_some_iff.mp h
        refine q_callv (pc := 48) (st := []) (a_X5_mayStand h29) okX5_mayStand rfl dX2_stir_48 lk_X2_35 sh_1 cl_5 rfl (by decide) (by decide) (Nat.le_of_ble_eq_true rfl) ⟨Nat.le_of_ble_eq_true rfl, Nat.le_of_ble_eq_true rfl⟩ rfl ?_
        show QW G (qrm 5 0 0) YX2_stir 0 0 51 [some (.ref 12), some (.ref 1), some (.int r11), some (.int r18), some (.int r25), none] [.int (qb b30)] SH M26 J _
        by_cases k31 : b30 = true
        · rw [if_pos k31] at h
          refine q_if_eq_f (pc := 51) (tgt := 64) dX2_stir_51 (by decide) (qb_t k31) ?_
          refine q_aload_n (pc := 54) dX2_stir_54 rfl ?_
          refine q_iload (pc := 55) dX2_stir_55 rfl ?_
          refine q_iload_n (pc := 57) dX2_stir_57 rfl ?_
          obtain ⟨M34, h33, h⟩ := Option.bind_eq_some_iff.mp h
          refine q_callv (pc := 58) (st := []) (a_X5_standUp h33) okX5_standUp rfl dX2_stir_58 lk_X2_39 sh_1 cl_5 rfl (by decide) (by decide) (Nat.le_of_ble_eq_true rfl) ⟨Nat.le_of_ble_eq_true rfl, Nat.le_of_ble_eq_true rfl⟩ rfl ?_
          show QW G (qrm 5 0 0) YX2_stir 0 0 61 [some (.ref 12), some (.ref 1), some (.int r11), some (.int r18), some (.int r25), none] [] SH M34 J _
          refine q_goto (pc := 61) (tgt := 117) dX2_stir_61 (by decide) ?_
          obtain rfl := Option.some.inj h
          exact q_vret (pc := 117) dX2_stir_117 rfl rfl rfl
        · rw [if_neg k31] at h
          refine q_if_eq_t (pc := 51) (tgt := 64) dX2_stir_51 (by decide) (qb_f k31) ?_
          refine q_iload_n (pc := 64) dX2_stir_64 rfl ?_
          refine q_iconst (pc := 65) (v := nI 1) dX2_stir_65 (by decide) ?_
          by_cases k35 : r11 = (nI 1)
          · rw [if_pos k35] at h
            refine q_icmp_ne_f (pc := 66) (tgt := 92) dX2_stir_66 (by decide) k35 ?_
            refine q_aload_n (pc := 69) dX2_stir_69 rfl ?_
            refine q_iconst (pc := 70) (v := nI 5) dX2_stir_70 (by decide) ?_
            obtain ⟨⟨r38, M39⟩, h37, h⟩ := Option.bind_eq_some_iff.mp h
            try dsimp only at h
            refine q_callv (pc := 71) (st := []) (a_X2_draw h37) okX2_draw rfl dX2_stir_71 lk_X2_31 sh_12 cl_2 rfl (by decide) (by decide) (Nat.le_of_ble_eq_true rfl) ⟨Nat.le_of_ble_eq_true rfl, Nat.le_of_ble_eq_true rfl⟩ rfl ?_
            show QW G (qrm 5 0 0) YX2_stir 0 0 74 [some (.ref 12), some (.ref 1), some (.int r11), some (.int r18), some (.int r25), none] [.int r38] SH M39 J _
            refine q_istore (pc := 74) (ls' := [some (.ref 12), some (.ref 1), some (.int r11), some (.int r18), some (.int r25), some (.int r38)]) dX2_stir_74 (by decide) rfl rfl ?_
            refine q_aload_n (pc := 76) dX2_stir_76 rfl ?_
            refine q_iload_n (pc := 77) dX2_stir_77 rfl ?_
            refine q_iload (pc := 78) dX2_stir_78 rfl ?_
            refine q_aload_n (pc := 80) dX2_stir_80 rfl ?_
            refine q_bipush (pc := 81) (v := nI 21) dX2_stir_81 (by decide) ?_
            obtain ⟨⟨r42, M43⟩, h41, h⟩ := Option.bind_eq_some_iff.mp h
            try dsimp only at h
            refine q_callv (pc := 83) (st := [.int r38, .int r18, .ref 1]) (a_X2_draw h41) okX2_draw rfl dX2_stir_83 lk_X2_31 sh_12 cl_2 rfl (by decide) (by decide) (Nat.le_of_ble_eq_true rfl) ⟨Nat.le_of_ble_eq_true rfl, Nat.le_of_ble_eq_true rfl⟩ rfl ?_
            show QW G (qrm 5 0 0) YX2_stir 0 0 86 [some (.ref 12), some (.ref 1), some (.int r11), some (.int r18), some (.int r25), some (.int r38)] [.int r42, .int r38, .int r18, .ref 1] SH M43 J _
            obtain ⟨M46, h45, h⟩ := Option.bind_eq_some_iff.mp h
            refine q_callv (pc := 86) (st := []) (a_X5_setWeight h45) okX5_setWeight rfl dX2_stir_86 lk_X2_43 sh_1 cl_5 rfl (by decide) (by decide) (Nat.le_of_ble_eq_true rfl) ⟨Nat.le_of_ble_eq_true rfl, Nat.le_of_ble_eq_true rfl⟩ rfl ?_
            show QW G (qrm 5 0 0) YX2_stir 0 0 89 [some (.ref 12), some (.ref 1), some (.int r11), some (.int r18), some (.int r25), some (.int r38)] [] SH M46 J _
            refine q_goto (pc := 89) (tgt := 117) dX2_stir_89 (by decide) ?_
            obtain rfl := Option.some.inj h
            exact q_vret (pc := 117) dX2_stir_117 rfl rfl rfl
          · rw [if_neg k35] at h
            refine q_icmp_ne_t (pc := 66) (tgt := 92) dX2_stir_66 (by decide) k35 ?_
            refine q_iload_n (pc := 92) dX2_stir_92 rfl ?_
            refine q_iconst (pc := 93) (v := nI 2) dX2_stir_93 (by decide) ?_
            by_cases k47 : r11 = (nI 2)
            · rw [if_pos k47] at h
              refine q_icmp_ne_f (pc := 94) (tgt := 117) dX2_stir_94 (by decide) k47 ?_
              refine q_aload_n (pc := 97) dX2_stir_97 rfl ?_
              refine q_iload (pc := 98) dX2_stir_98 rfl ?_
              refine q_aload_n (pc := 100) dX2_stir_100 rfl ?_
              refine q_iload (pc := 101) dX2_stir_101 rfl ?_
              obtain ⟨r50, h49, h⟩ := Option.bind_eq_some_iff.mp h
              refine q_callv (pc := 103) (st := [.int r25, .ref 1]) (a_X5_known h49) okX5_known rfl dX2_stir_103 lk_X2_47 sh_1 cl_5 rfl (by decide) (by decide) (Nat.le_of_ble_eq_true rfl) ⟨Nat.le_of_ble_eq_true rfl, Nat.le_of_ble_eq_true rfl⟩ rfl ?_
              show QW G (qrm 5 0 0) YX2_stir 0 0 106 [some (.ref 12), some (.ref 1), some (.int r11), some (.int r18), some (.int r25), none] [.int r50, .int r25, .ref 1] SH M26 J _
              refine q_iconst (pc := 106) (v := nI 1) dX2_stir_106 (by decide) ?_
              refine q_aload_n (pc := 107) dX2_stir_107 rfl ?_
              refine q_iconst (pc := 108) (v := nI 5) dX2_stir_108 (by decide) ?_
              obtain ⟨⟨r53, M54⟩, h52, h⟩ := Option.bind_eq_some_iff.mp h
              try dsimp only at h
              refine q_callv (pc := 109) (st := [.int (nI 1), .int r50, .int r25, .ref 1]) (a_X2_draw h52) okX2_draw rfl dX2_stir_109 lk_X2_31 sh_12 cl_2 rfl (by decide) (by decide) (Nat.le_of_ble_eq_true rfl) ⟨Nat.le_of_ble_eq_true rfl, Nat.le_of_ble_eq_true rfl⟩ rfl ?_
              show QW G (qrm 5 0 0) YX2_stir 0 0 112 [some (.ref 12), some (.ref 1), some (.int r11), some (.int r18), some (.int r25), none] [.int r53, .int (nI 1), .int r50, .int r25, .ref 1] SH M54 J _
              refine q_ishl (pc := 112) dX2_stir_112 ?_
              refine q_ior (pc := 113) dX2_stir_113 ?_
              obtain ⟨M57, h56, h⟩ := Option.bind_eq_some_iff.mp h
              refine q_callv (pc := 114) (st := []) (a_X5_setKnown h56) okX5_setKnown rfl dX2_stir_114 lk_X2_50 sh_1 cl_5 rfl (by decide) (by decide) (Nat.le_of_ble_eq_true rfl) ⟨Nat.le_of_ble_eq_true rfl, Nat.le_of_ble_eq_true rfl⟩ rfl ?_
              show QW G (qrm 5 0 0) YX2_stir 0 0 117 [some (.ref 12), some (.ref 1), some (.int r11), some (.int r18), some (.int r25), none] [] SH M57 J _
              obtain rfl := Option.some.inj h
              exact q_vret (pc := 117) dX2_stir_117 rfl rfl rfl
            · rw [if_neg k47] at h
              refine q_icmp_ne_t (pc := 94) (tgt := 117) dX2_stir_94 (by decide) k47 ?_
              obtain rfl := Option.some.inj h
              exact q_vret (pc := 117) dX2_stir_117 rfl rfl rfl
      · rw [if_neg k27] at h
        refine q_if_ne_t (pc := 41) (tgt := 64) dX2_stir_41 (by decide) k27 ?_
        refine q_iload_n (pc := 64) dX2_stir_64 rfl ?_
        refine q_iconst (pc := 65) (v := nI 1) dX2_stir_65 (by decide) ?_
        by_cases k58 : r11 = (nI 1)
        · rw [if_pos k58] at h
          refine q_icmp_ne_f (pc := 66) (tgt := 92) dX2_stir_66 (by decide) k58 ?_
          refine q_aload_n (pc := 69) dX2_stir_69 rfl ?_
          refine q_iconst (pc := 70) (v := nI 5) dX2_stir_70 (by decide) ?_
          obtain ⟨⟨r61, M62⟩, h60, h⟩ := Option.bind_eq_some_iff.mp h
          try dsimp only at h
          refine q_callv (pc := 71) (st := []) (a_X2_draw h60) okX2_draw rfl dX2_stir_71 lk_X2_31 sh_12 cl_2 rfl (by decide) (by decide) (Nat.le_of_ble_eq_true rfl) ⟨Nat.le_of_ble_eq_true rfl, Nat.le_of_ble_eq_true rfl⟩ rfl ?_
          show QW G (qrm 5 0 0) YX2_stir 0 0 74 [some (.ref 12), some (.ref 1), some (.int r11), some (.int r18), some (.int r25), none] [.int r61] SH M62 J _
          refine q_istore (pc := 74) (ls' := [some (.ref 12), some (.ref 1), some (.int r11), some (.int r18), some (.int r25), some (.int r61)]) dX2_stir_74 (by decide) rfl rfl ?_
          refine q_aload_n (pc := 76) dX2_stir_76 rfl ?_
          refine q_iload_n (pc := 77) dX2_stir_77 rfl ?_
          refine q_iload (pc := 78) dX2_stir_78 rfl ?_
          refine q_aload_n (pc := 80) dX2_stir_80 rfl ?_
          refine q_bipush (pc := 81) (v := nI 21) dX2_stir_81 (by decide) ?_
          obtain ⟨⟨r65, M66⟩, h64, h⟩ := Option.bind_eq_some_iff.mp h
          try dsimp only at h
          refine q_callv (pc := 83) (st := [.int r61, .int r18, .ref 1]) (a_X2_draw h64) okX2_draw rfl dX2_stir_83 lk_X2_31 sh_12 cl_2 rfl (by decide) (by decide) (Nat.le_of_ble_eq_true rfl) ⟨Nat.le_of_ble_eq_true rfl, Nat.le_of_ble_eq_true rfl⟩ rfl ?_
          show QW G (qrm 5 0 0) YX2_stir 0 0 86 [some (.ref 12), some (.ref 1), some (.int r11), some (.int r18), some (.int r25), some (.int r61)] [.int r65, .int r61, .int r18, .ref 1] SH M66 J _
          obtain ⟨M69, h68, h⟩ := Option.bind_eq_some_iff.mp h
          refine q_callv (pc := 86) (st := []) (a_X5_setWeight h68) okX5_setWeight rfl dX2_stir_86 lk_X2_43 sh_1 cl_5 rfl (by decide) (by decide) (Nat.le_of_ble_eq_true rfl) ⟨Nat.le_of_ble_eq_true rfl, Nat.le_of_ble_eq_true rfl⟩ rfl ?_
          show QW G (qrm 5 0 0) YX2_stir 0 0 89 [some (.ref 12), some (.ref 1), some (.int r11), some (.int r18), some (.int r25), some (.int r61)] [] SH M69 J _
          refine q_goto (pc := 89) (tgt := 117) dX2_stir_89 (by decide) ?_
          obtain rfl := Option.some.inj h
          exact q_vret (pc := 117) dX2_stir_117 rfl rfl rfl
        · rw [if_neg k58] at h
          refine q_icmp_ne_t (pc := 66) (tgt := 92) dX2_stir_66 (by decide) k58 ?_
          refine q_iload_n (pc := 92) dX2_stir_92 rfl ?_
          refine q_iconst (pc := 93) (v := nI 2) dX2_stir_93 (by decide) ?_
          by_cases k70 : r11 = (nI 2)
          · rw [if_pos k70] at h
            refine q_icmp_ne_f (pc := 94) (tgt := 117) dX2_stir_94 (by decide) k70 ?_
            refine q_aload_n (pc := 97) dX2_stir_97 rfl ?_
            refine q_iload (pc := 98) dX2_stir_98 rfl ?_
            refine q_aload_n (pc := 100) dX2_stir_100 rfl ?_
            refine q_iload (pc := 101) dX2_stir_101 rfl ?_
            obtain ⟨r73, h72, h⟩ := Option.bind_eq_some_iff.mp h
            refine q_callv (pc := 103) (st := [.int r25, .ref 1]) (a_X5_known h72) okX5_known rfl dX2_stir_103 lk_X2_47 sh_1 cl_5 rfl (by decide) (by decide) (Nat.le_of_ble_eq_true rfl) ⟨Nat.le_of_ble_eq_true rfl, Nat.le_of_ble_eq_true rfl⟩ rfl ?_
            show QW G (qrm 5 0 0) YX2_stir 0 0 106 [some (.ref 12), some (.ref 1), some (.int r11), some (.int r18), some (.int r25), none] [.int r73, .int r25, .ref 1] SH M26 J _
            refine q_iconst (pc := 106) (v := nI 1) dX2_stir_106 (by decide) ?_
            refine q_aload_n (pc := 107) dX2_stir_107 rfl ?_
            refine q_iconst (pc := 108) (v := nI 5) dX2_stir_108 (by decide) ?_
            obtain ⟨⟨r76, M77⟩, h75, h⟩ := Option.bind_eq_some_iff.mp h
            try dsimp only at h
            refine q_callv (pc := 109) (st := [.int (nI 1), .int r73, .int r25, .ref 1]) (a_X2_draw h75) okX2_draw rfl dX2_stir_109 lk_X2_31 sh_12 cl_2 rfl (by decide) (by decide) (Nat.le_of_ble_eq_true rfl) ⟨Nat.le_of_ble_eq_true rfl, Nat.le_of_ble_eq_true rfl⟩ rfl ?_
            show QW G (qrm 5 0 0) YX2_stir 0 0 112 [some (.ref 12), some (.ref 1), some (.int r11), some (.int r18), some (.int r25), none] [.int r76, .int (nI 1), .int r73, .int r25, .ref 1] SH M77 J _
            refine q_ishl (pc := 112) dX2_stir_112 ?_
            refine q_ior (pc := 113) dX2_stir_113 ?_
            obtain ⟨M80, h79, h⟩ := Option.bind_eq_some_iff.mp h
            refine q_callv (pc := 114) (st := []) (a_X5_setKnown h79) okX5_setKnown rfl dX2_stir_114 lk_X2_50 sh_1 cl_5 rfl (by decide) (by decide) (Nat.le_of_ble_eq_true rfl) ⟨Nat.le_of_ble_eq_true rfl, Nat.le_of_ble_eq_true rfl⟩ rfl ?_
            show QW G (qrm 5 0 0) YX2_stir 0 0 117 [some (.ref 12), some (.ref 1), some (.int r11), some (.int r18), some (.int r25), none] [] SH M80 J _
            obtain rfl := Option.some.inj h
            exact q_vret (pc := 117) dX2_stir_117 rfl rfl rfl
          · rw [if_neg k70] at h
            refine q_icmp_ne_t (pc := 94) (tgt := 117) dX2_stir_94 (by decide) k70 ?_
            obtain rfl := Option.some.inj h
            exact q_vret (pc := 117) dX2_stir_117 rfl rfl rfl
def f_X11_drift_L25 (x1 : Int32) : Nat → Int32 → qM → Option (Int32 × qM)
  | 0, _, _ => none
  | n + 1, c3, M =>
  if x1 ≤ c3 then some (c3, M)
    else (f_X2_stir M).bind fun M11 => (f_X5_passYear M11).bind fun M14 => f_X11_drift_L25 x1 n (c3 + nI 1) M14
set_option maxRecDepth 20000 in
set_option maxHeartbeats 4000000 in
theorem l_X11_drift_L25 {G : qG} {ρ : qR} (x1 : Int32) (J : qJ) : ∀ (n : Nat) (c3 : Int32) (M : qM) (res : Int32 × qM), f_X11_drift_L25 x1 n c3 M = some res → (∀ x : Int32 × qM, res = x → QW G (qrm 6 0 0) YX11_drift 0 0 54 [some (.ref 0), none, none, none] [] SH x.2 J ρ) → QW G (qrm 6 0 0) YX11_drift 0 0 25 [some (.ref 0), some (.int x1), none, some (.int c3)] [] SH M J ρ
  | 0, _, _, _, h, _ => by simp [f_X11_drift_L25] at h
  | n + 1, c3, M, res, h, hk => by
    rw [f_X11_drift_L25] at h
    refine q_iload_n (pc := 25) dX11_drift_25 rfl ?_
    refine q_iload_n (pc := 26) dX11_drift_26 rfl ?_
    by_cases k8 : x1 ≤ c3
    · rw [if_pos k8] at h
      refine q_icmp_ge_t (pc := 27) (tgt := 54) dX11_drift_27 (by decide) k8 ?_
      refine q_weak (ls' := [some (.ref 0), none, none, none]) ⟨rfl, trivial⟩ ?_
      obtain rfl := Option.some.inj h
      exact hk (c3, M) rfl
    · rw [if_neg k8] at h
      refine q_icmp_ge_f (pc := 27) (tgt := 54) dX11_drift_27 (by decide) k8 ?_
      refine q_aload_n (pc := 30) dX11_drift_30 rfl ?_
      refine q_getf (pc := 31) (f := 4) (v := .ref 12) dX11_drift_31 sh_0 cl_10 inX11 rfl (by decide) lk_X11_40 rfl ?_
      refine q_aload_n (pc := 34) dX11_drift_34 rfl ?_
      refine q_getf (pc := 35) (f := 0) (v := .ref 1) dX11_drift_35 sh_0 cl_10 inX11 rfl (by decide) lk_X11_10 rfl ?_
      obtain ⟨M11, h10, h⟩ := Option.bind_eq_some_iff.mp h
      refine q_callv (pc := 38) (st := []) (a_X2_stir h10) okX2_stir rfl dX11_drift_38 lk_X11_246 sh_12 cl_2 rfl (by decide) (by decide) (Nat.le_of_ble_eq_true rfl) ⟨Nat.le_of_ble_eq_true rfl, Nat.le_of_ble_eq_true rfl⟩ rfl ?_
      show QW G (qrm 6 0 0) YX11_drift 0 0 41 [some (.ref 0), some (.int x1), none, some (.int c3)] [] SH M11 J _
      refine q_aload_n (pc := 41) dX11_drift_41 rfl ?_
      refine q_getf (pc := 42) (f := 0) (v := .ref 1) dX11_drift_42 sh_0 cl_10 inX11 rfl (by decide) lk_X11_10 rfl ?_
      obtain ⟨M14, h13, h⟩ := Option.bind_eq_some_iff.mp h
      refine q_callv (pc := 45) (st := []) (a_X5_passYear h13) okX5_passYear rfl dX11_drift_45 lk_X11_227 sh_1 cl_5 rfl (by decide) (by decide) (Nat.le_of_ble_eq_true rfl) ⟨Nat.le_of_ble_eq_true rfl, Nat.le_of_ble_eq_true rfl⟩ rfl ?_
      show QW G (qrm 6 0 0) YX11_drift 0 0 48 [some (.ref 0), some (.int x1), none, some (.int c3)] [] SH M14 J _
      refine q_iincW (pc := 48) (w := nI 1) (ls' := [some (.ref 0), some (.int x1), none, some (.int (c3 + nI 1))]) dX11_drift_48 rfl (by decide) (by decide) rfl rfl ?_
      refine q_goto (pc := 51) (tgt := 25) dX11_drift_51 (by decide) ?_
      exact l_X11_drift_L25 x1 J n (c3 + nI 1) M14 res h hk
def f_X11_drift (a1 : Int32) (M : qM) : Option (Int32 × qM) :=
  (f_X11_refusalOfYears a1 M).bind fun r3 => if r3 = 0 then (f_X6_remember M).bind fun M7 => (f_X11_drift_L25 a1 qF (nI 0) M7).bind fun e15 => (f_X5_years e15.2).bind fun r19 => some (r19, e15.2)
    else some (r3, M)
set_option maxRecDepth 20000 in
set_option maxHeartbeats 4000000 in
theorem a_X11_drift {G : qG} {a1 : Int32} {M : qM} {J : qJ} {r : Int32} {M' : qM} (h : f_X11_drift a1 M = some (r, M')) : QM G 6 0 0 YX11_drift [.ref 0, .int a1] SH M J (some (.int r), SH, M', J) := by
  refine ⟨Nat.le_of_ble_eq_true rfl, Or.inl rfl, ?_⟩
  show QW G (qrm 6 0 0) YX11_drift 0 0 0 [some (.ref 0), some (.int a1), none, none] [] SH M J _
  unfold f_X11_drift at h
  refine q_aload_n (pc := 0) dX11_drift_0 rfl ?_
  refine q_iload_n (pc := 1) dX11_drift_1 rfl ?_
  obtain ⟨r3, h2, h⟩ := Option.bind_eq_some_iff.mp h
  refine q_callv (pc := 2) (st := []) (a_X11_refusalOfYears h2) okX11_refusalOfYears rfl dX11_drift_2 lk_X11_224 sh_0 cl_10 rfl (by decide) (by decide) (Nat.le_of_ble_eq_true rfl) ⟨Nat.le_of_ble_eq_true rfl, Nat.le_of_ble_eq_true rfl⟩ rfl ?_
  show QW G (qrm 6 0 0) YX11_drift 0 0 5 [some (.ref 0), some (.int a1), none, none] [.int r3] SH M J _
  refine q_istore_n (pc := 5) (ls' := [some (.ref 0), some (.int a1), some (.int r3), none]) dX11_drift_5 (by decide) rfl rfl ?_
  refine q_iload_n (pc := 6) dX11_drift_6 rfl ?_
  by_cases k4 : r3 = 0
  · rw [if_pos k4] at h
    refine q_if_eq_t (pc := 7) (tgt := 12) dX11_drift_7 (by decide) k4 ?_
    refine q_aload_n (pc := 12) dX11_drift_12 rfl ?_
    refine q_getf (pc := 13) (f := 2) (v := .ref 7) dX11_drift_13 sh_0 cl_10 inX11 rfl (by decide) lk_X11_26 rfl ?_
    refine q_aload_n (pc := 16) dX11_drift_16 rfl ?_
    refine q_getf (pc := 17) (f := 0) (v := .ref 1) dX11_drift_17 sh_0 cl_10 inX11 rfl (by decide) lk_X11_10 rfl ?_
    obtain ⟨M7, h6, h⟩ := Option.bind_eq_some_iff.mp h
    refine q_callv (pc := 20) (st := []) (a_X6_remember h6) okX6_remember rfl dX11_drift_20 lk_X11_216 sh_7 cl_6 rfl (by decide) (by decide) (Nat.le_of_ble_eq_true rfl) ⟨Nat.le_of_ble_eq_true rfl, Nat.le_of_ble_eq_true rfl⟩ rfl ?_
    show QW G (qrm 6 0 0) YX11_drift 0 0 23 [some (.ref 0), some (.int a1), some (.int r3), none] [] SH M7 J _
    refine q_iconst (pc := 23) (v := nI 0) dX11_drift_23 (by decide) ?_
    refine q_istore_n (pc := 24) (ls' := [some (.ref 0), some (.int a1), some (.int r3), some (.int (nI 0))]) dX11_drift_24 (by decide) rfl rfl ?_
    refine q_weak (ls' := [some (.ref 0), some (.int a1), none, some (.int (nI 0))]) ⟨rfl, ⟨rfl, ⟨rfl, trivial⟩⟩⟩ ?_
    obtain ⟨⟨e15_3, M16⟩, h20, h⟩ := Option.bind_eq_some_iff.mp h
    try dsimp only at h
    refine l_X11_drift_L25 a1 J qF (nI 0) M7 _ h20 (fun x hx => ?_)
    subst hx
    show QW G (qrm 6 0 0) YX11_drift 0 0 54 [some (.ref 0), none, none, none] [] SH M16 J _
    refine q_aload_n (pc := 54) dX11_drift_54 rfl ?_
    refine q_getf (pc := 55) (f := 0) (v := .ref 1) dX11_drift_55 sh_0 cl_10 inX11 rfl (by decide) lk_X11_10 rfl ?_
    obtain ⟨r19, h18, h⟩ := Option.bind_eq_some_iff.mp h
    refine q_callv (pc := 58) (st := []) (a_X5_years h18) okX5_years rfl dX11_drift_58 lk_X11_132 sh_1 cl_5 rfl (by decide) (by decide) (Nat.le_of_ble_eq_true rfl) ⟨Nat.le_of_ble_eq_true rfl, Nat.le_of_ble_eq_true rfl⟩ rfl ?_
    show QW G (qrm 6 0 0) YX11_drift 0 0 61 [some (.ref 0), none, none, none] [.int r19] SH M16 J _
    have h := Option.some.inj h
    obtain ⟨rfl, rfl⟩ := Prod.mk.inj h
    exact q_iret (pc := 61) dX11_drift_61 rfl rfl rfl
  · rw [if_neg k4] at h
    refine q_if_eq_f (pc := 7) (tgt := 12) dX11_drift_7 (by decide) k4 ?_
    refine q_iload_n (pc := 10) dX11_drift_10 rfl ?_
    have h := Option.some.inj h
    obtain ⟨rfl, rfl⟩ := Prod.mk.inj h
    exact q_iret (pc := 11) dX11_drift_11 rfl rfl rfl
def f_X5_copyFrom_at1_8 (a2 : Int32) (M : qM) : Option qM :=
  (qco M 8 2 2752 172 a2 (nI 0) (nI 172)).bind fun M1 => some (M1)
set_option maxRecDepth 20000 in
set_option maxHeartbeats 4000000 in
theorem a_X5_copyFrom_at1_8 {G : qG} {a2 : Int32} {M : qM} {J : qJ} {M' : qM} (h : f_X5_copyFrom_at1_8 a2 M = some (M')) : QM G 1 0 0 YX5_copyFrom [.ref 1, .ref 8, .int a2] SH M J (none, SH, M', J) := by
  refine ⟨Nat.le_of_ble_eq_true rfl, rfl, ?_⟩
  show QW G (qrm 1 0 0) YX5_copyFrom 0 0 0 [some (.ref 1), some (.ref 8), some (.int a2)] [] SH M J _
  unfold f_X5_copyFrom_at1_8 at h
  refine q_aload_n (pc := 0) dX5_copyFrom_0 rfl ?_
  refine q_iload_n (pc := 1) dX5_copyFrom_1 rfl ?_
  refine q_aload_n (pc := 2) dX5_copyFrom_2 rfl ?_
  refine q_getf (pc := 3) (f := 0) (v := .ref 2) dX5_copyFrom_3 sh_1 cl_5 inX5 rfl (by decide) lk_X5_11 rfl ?_
  refine q_iconst (pc := 6) (v := nI 0) dX5_copyFrom_6 (by decide) ?_
  refine q_sipush (pc := 7) (v := nI 172) dX5_copyFrom_7 (by decide) ?_
  obtain ⟨M1, h2, h⟩ := Option.bind_eq_some_iff.mp h
  refine q_copy (pc := 10) dX5_copyFrom_10 lk_X5_21 sh_8 sh_2 h2 (by decide) (Nat.le_of_ble_eq_true rfl) ?_
  obtain rfl := Option.some.inj h
  exact q_vret (pc := 13) dX5_copyFrom_13 rfl rfl rfl
def f_X6_restore  (M : qM) : Option qM :=
  (qrem (((M 7 1) + (nI 16)) - (nI 1)) (nI 16)).bind fun v1 => (qpu M 7 1 v1).bind fun M3 => (qpu M3 7 0 ((M3 7 0) - (nI 1))).bind fun M5 => (f_X5_copyFrom_at1_8 ((M5 7 1) * (nI 172)) M5).bind fun M9 => some (M9)
set_option maxRecDepth 20000 in
set_option maxHeartbeats 4000000 in
theorem a_X6_restore {G : qG}  {M : qM} {J : qJ} {M' : qM} (h : f_X6_restore  M = some (M')) : QM G 2 0 0 YX6_restore [.ref 7, .ref 1] SH M J (none, SH, M', J) := by
  refine ⟨Nat.le_of_ble_eq_true rfl, rfl, ?_⟩
  show QW G (qrm 2 0 0) YX6_restore 0 0 0 [some (.ref 7), some (.ref 1)] [] SH M J _
  unfold f_X6_restore at h
  refine q_aload_n (pc := 0) dX6_restore_0 rfl ?_
  refine q_aload_n (pc := 1) dX6_restore_1 rfl ?_
  refine q_getf (pc := 2) (f := 1) (v := .int (M 7 1)) dX6_restore_2 sh_7 cl_6 inX6 rfl (by decide) lk_X6_13 rfl ?_
  refine q_bipush (pc := 5) (v := nI 16) dX6_restore_5 (by decide) ?_
  refine q_iadd (pc := 7) dX6_restore_7 ?_
  refine q_iconst (pc := 8) (v := nI 1) dX6_restore_8 (by decide) ?_
  refine q_isub (pc := 9) dX6_restore_9 ?_
  refine q_bipush (pc := 10) (v := nI 16) dX6_restore_10 (by decide) ?_
  obtain ⟨v1, h2, h⟩ := Option.bind_eq_some_iff.mp h
  refine q_irem (pc := 12) dX6_restore_12 h2 ?_
  obtain ⟨M3, h4, h⟩ := Option.bind_eq_some_iff.mp h
  refine q_putI (pc := 13) (f := 1) tyX6 dX6_restore_13 sh_7 cl_6 inX6 tyX6_ok nmX6 rfl (by decide) lk_X6_13 rfl rfl rfl h4 ?_
  refine q_aload_n (pc := 16) dX6_restore_16 rfl ?_
  refine q_dup (pc := 17) dX6_restore_17 rfl ?_
  refine q_getf (pc := 18) (f := 0) (v := .int (M3 7 0)) dX6_restore_18 sh_7 cl_6 inX6 rfl (by decide) lk_X6_7 rfl ?_
  refine q_iconst (pc := 21) (v := nI 1) dX6_restore_21 (by decide) ?_
  refine q_isub (pc := 22) dX6_restore_22 ?_
  obtain ⟨M5, h6, h⟩ := Option.bind_eq_some_iff.mp h
  refine q_putI (pc := 23) (f := 0) tyX6 dX6_restore_23 sh_7 cl_6 inX6 tyX6_ok nmX6 rfl (by decide) lk_X6_7 rfl rfl rfl h6 ?_
  refine q_aload_n (pc := 26) dX6_restore_26 rfl ?_
  refine q_aload_n (pc := 27) dX6_restore_27 rfl ?_
  refine q_getf (pc := 28) (f := 2) (v := .ref 8) dX6_restore_28 sh_7 cl_6 inX6 rfl (by decide) lk_X6_18 rfl ?_
  refine q_aload_n (pc := 31) dX6_restore_31 rfl ?_
  refine q_getf (pc := 32) (f := 1) (v := .int (M5 7 1)) dX6_restore_32 sh_7 cl_6 inX6 rfl (by decide) lk_X6_13 rfl ?_
  refine q_sipush (pc := 35) (v := nI 172) dX6_restore_35 (by decide) ?_
  refine q_imul (pc := 38) dX6_restore_38 ?_
  obtain ⟨M9, h8, h⟩ := Option.bind_eq_some_iff.mp h
  refine q_callv (pc := 39) (st := []) (a_X5_copyFrom_at1_8 h8) okX5_copyFrom rfl dX6_restore_39 lk_X6_32 sh_1 cl_5 rfl (by decide) (by decide) (Nat.le_of_ble_eq_true rfl) ⟨Nat.le_of_ble_eq_true rfl, Nat.le_of_ble_eq_true rfl⟩ rfl ?_
  show QW G (qrm 2 0 0) YX6_restore 0 0 42 [some (.ref 7), some (.ref 1)] [] SH M9 J _
  obtain rfl := Option.some.inj h
  exact q_vret (pc := 42) dX6_restore_42 rfl rfl rfl
def f_X11_undo  (M : qM) : Option (Int32 × qM) :=
  if (M 7 0) = 0 then some ((-1000000003 : Int32), M)
    else (f_X6_restore M).bind fun M4 => some (M4 7 0, M4)
set_option maxRecDepth 20000 in
set_option maxHeartbeats 4000000 in
theorem a_X11_undo {G : qG}  {M : qM} {J : qJ} {r : Int32} {M' : qM} (h : f_X11_undo  M = some (r, M')) : QM G 3 0 0 YX11_undo [.ref 0] SH M J (some (.int r), SH, M', J) := by
  refine ⟨Nat.le_of_ble_eq_true rfl, Or.inl rfl, ?_⟩
  show QW G (qrm 3 0 0) YX11_undo 0 0 0 [some (.ref 0)] [] SH M J _
  unfold f_X11_undo at h
  refine q_aload_n (pc := 0) dX11_undo_0 rfl ?_
  refine q_getf (pc := 1) (f := 2) (v := .ref 7) dX11_undo_1 sh_0 cl_10 inX11 rfl (by decide) lk_X11_26 rfl ?_
  refine q_getf (pc := 4) (f := 0) (v := .int (M 7 0)) dX11_undo_4 sh_7 cl_6 inX6 rfl (by decide) lk_X11_160 rfl ?_
  by_cases k1 : (M 7 0) = 0
  · rw [if_pos k1] at h
    refine q_if_ne_f (pc := 7) (tgt := 13) dX11_undo_7 (by decide) k1 ?_
    refine q_ldc (pc := 10) (v := (-1000000003 : Int32)) dX11_undo_10 lk_X11_215 ?_
    have h := Option.some.inj h
    obtain ⟨rfl, rfl⟩ := Prod.mk.inj h
    exact q_iret (pc := 12) dX11_undo_12 rfl rfl rfl
  · rw [if_neg k1] at h
    refine q_if_ne_t (pc := 7) (tgt := 13) dX11_undo_7 (by decide) k1 ?_
    refine q_aload_n (pc := 13) dX11_undo_13 rfl ?_
    refine q_getf (pc := 14) (f := 2) (v := .ref 7) dX11_undo_14 sh_0 cl_10 inX11 rfl (by decide) lk_X11_26 rfl ?_
    refine q_aload_n (pc := 17) dX11_undo_17 rfl ?_
    refine q_getf (pc := 18) (f := 0) (v := .ref 1) dX11_undo_18 sh_0 cl_10 inX11 rfl (by decide) lk_X11_10 rfl ?_
    obtain ⟨M4, h3, h⟩ := Option.bind_eq_some_iff.mp h
    refine q_callv (pc := 21) (st := []) (a_X6_restore h3) okX6_restore rfl dX11_undo_21 lk_X11_249 sh_7 cl_6 rfl (by decide) (by decide) (Nat.le_of_ble_eq_true rfl) ⟨Nat.le_of_ble_eq_true rfl, Nat.le_of_ble_eq_true rfl⟩ rfl ?_
    show QW G (qrm 3 0 0) YX11_undo 0 0 24 [some (.ref 0)] [] SH M4 J _
    refine q_aload_n (pc := 24) dX11_undo_24 rfl ?_
    refine q_getf (pc := 25) (f := 2) (v := .ref 7) dX11_undo_25 sh_0 cl_10 inX11 rfl (by decide) lk_X11_26 rfl ?_
    refine q_getf (pc := 28) (f := 0) (v := .int (M4 7 0)) dX11_undo_28 sh_7 cl_6 inX6 rfl (by decide) lk_X11_160 rfl ?_
    have h := Option.some.inj h
    obtain ⟨rfl, rfl⟩ := Prod.mk.inj h
    exact q_iret (pc := 31) dX11_undo_31 rfl rfl rfl
def f_X10_firstYear_L2 (x1 : Int32) (x2 : Int32) (M : qM) : Nat → Int32 → Option ((Int32) ⊕ (Int32))
  | 0, _ => none
  | n + 1, c3 =>
  if (nI 200) < c3 then some (.inr (c3))
    else (f_X5_wedIn x2 x1 c3 M).bind fun b4 => if b4 = true then some (.inl (c3))
    else f_X10_firstYear_L2 x1 x2 M n (c3 + nI 1)
set_option maxRecDepth 20000 in
set_option maxHeartbeats 4000000 in
theorem l_X10_firstYear_L2 {G : qG} {ρ : qR} (x1 : Int32) (x2 : Int32) (M : qM) (J : qJ) : ∀ (n : Nat) (c3 : Int32) (res : (Int32) ⊕ (Int32)), f_X10_firstYear_L2 x1 x2 M n c3 = some res → (∀ x : Int32, res = .inr x → QW G (qrm 4 0 0) YX10_firstYear 0 0 27 [none, none, none, none] [] SH M J ρ) → (∀ r : Int32, res = .inl r → (some (.int r), SH, M, J) = ρ) → QW G (qrm 4 0 0) YX10_firstYear 0 0 2 [some (.ref 1), some (.int x1), some (.int x2), some (.int c3)] [] SH M J ρ
  | 0, _, _, h, _, _ => by simp [f_X10_firstYear_L2] at h
  | n + 1, c3, res, h, hk, hr => by
    rw [f_X10_firstYear_L2] at h
    refine q_iload_n (pc := 2) dX10_firstYear_2 rfl ?_
    refine q_sipush (pc := 3) (v := nI 200) dX10_firstYear_3 (by decide) ?_
    by_cases k1 : (nI 200) < c3
    · rw [if_pos k1] at h
      refine q_icmp_gt_t (pc := 6) (tgt := 27) dX10_firstYear_6 (by decide) k1 ?_
      refine q_weak (ls' := [none, none, none, none]) trivial ?_
      obtain rfl := Option.some.inj h
      exact hk (c3) rfl
    · rw [if_neg k1] at h
      refine q_icmp_gt_f (pc := 6) (tgt := 27) dX10_firstYear_6 (by decide) k1 ?_
      refine q_aload_n (pc := 9) dX10_firstYear_9 rfl ?_
      refine q_iload_n (pc := 10) dX10_firstYear_10 rfl ?_
      refine q_iload_n (pc := 11) dX10_firstYear_11 rfl ?_
      refine q_iload_n (pc := 12) dX10_firstYear_12 rfl ?_
      obtain ⟨b4, h3, h⟩ := Option.bind_eq_some_iff.mp h
      refine q_callv (pc := 13) (st := []) (a_X5_wedIn h3) okX5_wedIn rfl dX10_firstYear_13 lk_X10_15 sh_1 cl_5 rfl (by decide) (by decide) (Nat.le_of_ble_eq_true rfl) ⟨Nat.le_of_ble_eq_true rfl, Nat.le_of_ble_eq_true rfl⟩ rfl ?_
      show QW G (qrm 4 0 0) YX10_firstYear 0 0 16 [some (.ref 1), some (.int x1), some (.int x2), some (.int c3)] [.int (qb b4)] SH M J _
      by_cases k5 : b4 = true
      · rw [if_pos k5] at h
        refine q_if_eq_f (pc := 16) (tgt := 21) dX10_firstYear_16 (by decide) (qb_t k5) ?_
        refine q_iload_n (pc := 19) dX10_firstYear_19 rfl ?_
        obtain rfl := Option.some.inj h
        exact q_iret (pc := 20) dX10_firstYear_20 rfl rfl (hr (c3) rfl)
      · rw [if_neg k5] at h
        refine q_if_eq_t (pc := 16) (tgt := 21) dX10_firstYear_16 (by decide) (qb_f k5) ?_
        refine q_iincW (pc := 21) (w := nI 1) (ls' := [some (.ref 1), some (.int x1), some (.int x2), some (.int (c3 + nI 1))]) dX10_firstYear_21 rfl (by decide) (by decide) rfl rfl ?_
        refine q_goto (pc := 24) (tgt := 2) dX10_firstYear_24 (by decide) ?_
        exact l_X10_firstYear_L2 x1 x2 M J n (c3 + nI 1) res h hk hr
def f_X10_firstYear (a1 : Int32) (a2 : Int32) (M : qM) : Option Int32 :=
  (f_X10_firstYear_L2 a1 a2 M qF (nI 0)).bind fun e6 => Sum.elim some (fun e6 => some ((-1 : Int32))) e6
set_option maxRecDepth 20000 in
set_option maxHeartbeats 4000000 in
theorem a_X10_firstYear {G : qG} {a1 : Int32} {a2 : Int32} {M : qM} {J : qJ} {r : Int32} (h : f_X10_firstYear a1 a2 M = some (r)) : QM G 4 0 0 YX10_firstYear [.ref 1, .int a1, .int a2] SH M J (some (.int r), SH, M, J) := by
  refine ⟨Nat.le_of_ble_eq_true rfl, Or.inl rfl, ?_⟩
  show QW G (qrm 4 0 0) YX10_firstYear 0 0 0 [some (.ref 1), some (.int a1), some (.int a2), none] [] SH M J _
  unfold f_X10_firstYear at h
  refine q_iconst (pc := 0) (v := nI 0) dX10_firstYear_0 (by decide) ?_
  refine q_istore_n (pc := 1) (ls' := [some (.ref 1), some (.int a1), some (.int a2), some (.int (nI 0))]) dX10_firstYear_1 (by decide) rfl rfl ?_
  obtain ⟨e6, h7, h⟩ := Option.bind_eq_some_iff.mp h
  rcases e6 with r | e6_3
  · simp only [Sum.elim_inl] at h
    obtain rfl := Option.some.inj h
    exact l_X10_firstYear_L2 a1 a2 M J qF (nI 0) _ h7 (fun x hx => by cases hx) (fun r2 hx => by have hx := Sum.inl.inj hx; subst hx; rfl)
  · simp only [Sum.elim_inr] at h
    refine l_X10_firstYear_L2 a1 a2 M J qF (nI 0) _ h7 (fun x hx => ?_) (fun r hx => by cases hx)
    have hx := Sum.inr.inj hx
    subst hx
    show QW G (qrm 4 0 0) YX10_firstYear 0 0 27 [none, none, none, none] [] SH M J _
    refine q_iconst (pc := 27) (v := (-1 : Int32)) dX10_firstYear_27 (by decide) ?_
    obtain rfl := Option.some.inj h
    exact q_iret (pc := 28) dX10_firstYear_28 rfl rfl rfl
def f_X11_soonest (a1 : Int32) (a2 : Int32) (M : qM) : Option Int32 :=
  (f_X5_hasCouple a1 M).bind fun b3 => if b3 = true then (f_X5_hasObjector a2 M).bind fun b7 => if b7 = true then (f_X5_waits a1 M).bind fun b11 => if b11 = true then (f_X10_firstYear a1 a2 M).bind fun r15 => some (r15)
    else some ((-1000000003 : Int32))
    else some ((-1000000001 : Int32))
    else some ((-1000000001 : Int32))
set_option maxRecDepth 20000 in
set_option maxHeartbeats 4000000 in
theorem a_X11_soonest {G : qG} {a1 : Int32} {a2 : Int32} {M : qM} {J : qJ} {r : Int32} (h : f_X11_soonest a1 a2 M = some (r)) : QM G 5 0 0 YX11_soonest [.ref 0, .int a1, .int a2] SH M J (some (.int r), SH, M, J) := by
  refine ⟨Nat.le_of_ble_eq_true rfl, Or.inl rfl, ?_⟩
  show QW G (qrm 5 0 0) YX11_soonest 0 0 0 [some (.ref 0), some (.int a1), some (.int a2)] [] SH M J _
  unfold f_X11_soonest at h
  refine q_aload_n (pc := 0) dX11_soonest_0 rfl ?_
  refine q_getf (pc := 1) (f := 0) (v := .ref 1) dX11_soonest_1 sh_0 cl_10 inX11 rfl (by decide) lk_X11_10 rfl ?_
  refine q_iload_n (pc := 4) dX11_soonest_4 rfl ?_
  obtain ⟨b3, h2, h⟩ := Option.bind_eq_some_iff.mp h
  refine q_callv (pc := 5) (st := []) (a_X5_hasCouple h2) okX5_hasCouple rfl dX11_soonest_5 lk_X11_161 sh_1 cl_5 rfl (by decide) (by decide) (Nat.le_of_ble_eq_true rfl) ⟨Nat.le_of_ble_eq_true rfl, Nat.le_of_ble_eq_true rfl⟩ rfl ?_
  show QW G (qrm 5 0 0) YX11_soonest 0 0 8 [some (.ref 0), some (.int a1), some (.int a2)] [.int (qb b3)] SH M J _
  by_cases k4 : b3 = true
  · rw [if_pos k4] at h
    refine q_if_eq_f (pc := 8) (tgt := 22) dX11_soonest_8 (by decide) (qb_t k4) ?_
    refine q_aload_n (pc := 11) dX11_soonest_11 rfl ?_
    refine q_getf (pc := 12) (f := 0) (v := .ref 1) dX11_soonest_12 sh_0 cl_10 inX11 rfl (by decide) lk_X11_10 rfl ?_
    refine q_iload_n (pc := 15) dX11_soonest_15 rfl ?_
    obtain ⟨b7, h6, h⟩ := Option.bind_eq_some_iff.mp h
    refine q_callv (pc := 16) (st := []) (a_X5_hasObjector h6) okX5_hasObjector rfl dX11_soonest_16 lk_X11_186 sh_1 cl_5 rfl (by decide) (by decide) (Nat.le_of_ble_eq_true rfl) ⟨Nat.le_of_ble_eq_true rfl, Nat.le_of_ble_eq_true rfl⟩ rfl ?_
    show QW G (qrm 5 0 0) YX11_soonest 0 0 19 [some (.ref 0), some (.int a1), some (.int a2)] [.int (qb b7)] SH M J _
    by_cases k8 : b7 = true
    · rw [if_pos k8] at h
      refine q_if_ne_t (pc := 19) (tgt := 25) dX11_soonest_19 (by decide) (qb_t k8) ?_
      refine q_aload_n (pc := 25) dX11_soonest_25 rfl ?_
      refine q_getf (pc := 26) (f := 0) (v := .ref 1) dX11_soonest_26 sh_0 cl_10 inX11 rfl (by decide) lk_X11_10 rfl ?_
      refine q_iload_n (pc := 29) dX11_soonest_29 rfl ?_
      obtain ⟨b11, h10, h⟩ := Option.bind_eq_some_iff.mp h
      refine q_callv (pc := 30) (st := []) (a_X5_waits h10) okX5_waits rfl dX11_soonest_30 lk_X11_237 sh_1 cl_5 rfl (by decide) (by decide) (Nat.le_of_ble_eq_true rfl) ⟨Nat.le_of_ble_eq_true rfl, Nat.le_of_ble_eq_true rfl⟩ rfl ?_
      show QW G (qrm 5 0 0) YX11_soonest 0 0 33 [some (.ref 0), some (.int a1), some (.int a2)] [.int (qb b11)] SH M J _
      by_cases k12 : b11 = true
      · rw [if_pos k12] at h
        refine q_if_eq_f (pc := 33) (tgt := 48) dX11_soonest_33 (by decide) (qb_t k12) ?_
        refine q_aload_n (pc := 36) dX11_soonest_36 rfl ?_
        refine q_getf (pc := 37) (f := 0) (v := .ref 1) dX11_soonest_37 sh_0 cl_10 inX11 rfl (by decide) lk_X11_10 rfl ?_
        refine q_iload_n (pc := 40) dX11_soonest_40 rfl ?_
        refine q_iload_n (pc := 41) dX11_soonest_41 rfl ?_
        obtain ⟨r15, h14, h⟩ := Option.bind_eq_some_iff.mp h
        refine q_calls (pc := 42) (st := []) (a_X10_firstYear h14) okX10_firstYear rfl dX11_soonest_42 lk_X11_252 rfl (by decide) (by decide) (Nat.le_of_ble_eq_true rfl) ⟨Nat.le_of_ble_eq_true rfl, Nat.le_of_ble_eq_true rfl⟩ rfl ?_
        show QW G (qrm 5 0 0) YX11_soonest 0 0 45 [some (.ref 0), some (.int a1), some (.int a2)] [.int r15] SH M J _
        refine q_goto (pc := 45) (tgt := 50) dX11_soonest_45 (by decide) ?_
        obtain rfl := Option.some.inj h
        exact q_iret (pc := 50) dX11_soonest_50 rfl rfl rfl
      · rw [if_neg k12] at h
        refine q_if_eq_t (pc := 33) (tgt := 48) dX11_soonest_33 (by decide) (qb_f k12) ?_
        refine q_ldc (pc := 48) (v := (-1000000003 : Int32)) dX11_soonest_48 lk_X11_215 ?_
        obtain rfl := Option.some.inj h
        exact q_iret (pc := 50) dX11_soonest_50 rfl rfl rfl
    · rw [if_neg k8] at h
      refine q_if_ne_f (pc := 19) (tgt := 25) dX11_soonest_19 (by decide) (qb_f k8) ?_
      refine q_ldc (pc := 22) (v := (-1000000001 : Int32)) dX11_soonest_22 lk_X11_165 ?_
      obtain rfl := Option.some.inj h
      exact q_iret (pc := 24) dX11_soonest_24 rfl rfl rfl
  · rw [if_neg k4] at h
    refine q_if_eq_t (pc := 8) (tgt := 22) dX11_soonest_8 (by decide) (qb_f k4) ?_
    refine q_ldc (pc := 22) (v := (-1000000001 : Int32)) dX11_soonest_22 lk_X11_165 ?_
    obtain rfl := Option.some.inj h
    exact q_iret (pc := 24) dX11_soonest_24 rfl rfl rfl
def f_X4_weighPairs_L12 (x2 : Int32) : Nat → Int32 → qM → Option (Int32 × qM)
  | 0, _, _ => none
  | n + 1, c3, M =>
  (f_X5_objectors M).bind fun r7 => if r7 ≤ c3 then some (c3, M)
    else (f_X5_wedIn c3 x2 (nI 0) M).bind fun b11 => if b11 = true then (f_X5_strengthIn c3 x2 (nI 0) M).bind fun r15 => (qwr M 15 36 ((x2 * (nI 6)) + c3) ((nI 10000) + r15)).bind fun M16 => f_X4_weighPairs_L12 x2 n (c3 + nI 1) M16
    else (qwr M 15 36 ((x2 * (nI 6)) + c3) (nI 0)).bind fun M18 => f_X4_weighPairs_L12 x2 n (c3 + nI 1) M18
set_option maxRecDepth 20000 in
set_option maxHeartbeats 4000000 in
theorem l_X4_weighPairs_L12 {G : qG} {ρ : qR} (x2 : Int32) (J : qJ) : ∀ (n : Nat) (c3 : Int32) (M : qM) (res : Int32 × qM), f_X4_weighPairs_L12 x2 n c3 M = some res → (∀ x : Int32 × qM, res = x → QW G (qrm 4 0 0) YX4_weighPairs 0 0 66 [some (.ref 13), some (.ref 1), some (.int x2), none, none] [] SH x.2 J ρ) → QW G (qrm 4 0 0) YX4_weighPairs 0 0 12 [some (.ref 13), some (.ref 1), some (.int x2), some (.int c3), none] [] SH M J ρ
  | 0, _, _, _, h, _ => by simp [f_X4_weighPairs_L12] at h
  | n + 1, c3, M, res, h, hk => by
    rw [f_X4_weighPairs_L12] at h
    refine q_iload_n (pc := 12) dX4_weighPairs_12 rfl ?_
    refine q_aload_n (pc := 13) dX4_weighPairs_13 rfl ?_
    obtain ⟨r7, h6, h⟩ := Option.bind_eq_some_iff.mp h
    refine q_callv (pc := 14) (st := [.int c3]) (a_X5_objectors h6) okX5_objectors rfl dX4_weighPairs_14 lk_X4_34 sh_1 cl_5 rfl (by decide) (by decide) (Nat.le_of_ble_eq_true rfl) ⟨Nat.le_of_ble_eq_true rfl, Nat.le_of_ble_eq_true rfl⟩ rfl ?_
    show QW G (qrm 4 0 0) YX4_weighPairs 0 0 17 [some (.ref 13), some (.ref 1), some (.int x2), some (.int c3), none] [.int r7, .int c3] SH M J _
    by_cases k8 : r7 ≤ c3
    · rw [if_pos k8] at h
      refine q_icmp_ge_t (pc := 17) (tgt := 66) dX4_weighPairs_17 (by decide) k8 ?_
      refine q_weak (ls' := [some (.ref 13), some (.ref 1), some (.int x2), none, none]) ⟨rfl, ⟨rfl, ⟨rfl, trivial⟩⟩⟩ ?_
      obtain rfl := Option.some.inj h
      exact hk (c3, M) rfl
    · rw [if_neg k8] at h
      refine q_icmp_ge_f (pc := 17) (tgt := 66) dX4_weighPairs_17 (by decide) k8 ?_
      refine q_aload_n (pc := 20) dX4_weighPairs_20 rfl ?_
      refine q_iload_n (pc := 21) dX4_weighPairs_21 rfl ?_
      refine q_iload_n (pc := 22) dX4_weighPairs_22 rfl ?_
      refine q_iconst (pc := 23) (v := nI 0) dX4_weighPairs_23 (by decide) ?_
      obtain ⟨b11, h10, h⟩ := Option.bind_eq_some_iff.mp h
      refine q_callv (pc := 24) (st := []) (a_X5_wedIn h10) okX5_wedIn rfl dX4_weighPairs_24 lk_X4_41 sh_1 cl_5 rfl (by decide) (by decide) (Nat.le_of_ble_eq_true rfl) ⟨Nat.le_of_ble_eq_true rfl, Nat.le_of_ble_eq_true rfl⟩ rfl ?_
      show QW G (qrm 4 0 0) YX4_weighPairs 0 0 27 [some (.ref 13), some (.ref 1), some (.int x2), some (.int c3), none] [.int (qb b11)] SH M J _
      by_cases k12 : b11 = true
      · rw [if_pos k12] at h
        refine q_if_eq_f (pc := 27) (tgt := 44) dX4_weighPairs_27 (by decide) (qb_t k12) ?_
        refine q_sipush (pc := 30) (v := nI 10000) dX4_weighPairs_30 (by decide) ?_
        refine q_aload_n (pc := 33) dX4_weighPairs_33 rfl ?_
        refine q_iload_n (pc := 34) dX4_weighPairs_34 rfl ?_
        refine q_iload_n (pc := 35) dX4_weighPairs_35 rfl ?_
        refine q_iconst (pc := 36) (v := nI 0) dX4_weighPairs_36 (by decide) ?_
        obtain ⟨r15, h14, h⟩ := Option.bind_eq_some_iff.mp h
        refine q_callv (pc := 37) (st := [.int (nI 10000)]) (a_X5_strengthIn h14) okX5_strengthIn rfl dX4_weighPairs_37 lk_X4_45 sh_1 cl_5 rfl (by decide) (by decide) (Nat.le_of_ble_eq_true rfl) ⟨Nat.le_of_ble_eq_true rfl, Nat.le_of_ble_eq_true rfl⟩ rfl ?_
        show QW G (qrm 4 0 0) YX4_weighPairs 0 0 40 [some (.ref 13), some (.ref 1), some (.int x2), some (.int c3), none] [.int r15, .int (nI 10000)] SH M J _
        refine q_iadd (pc := 40) dX4_weighPairs_40 ?_
        refine q_goto (pc := 41) (tgt := 45) dX4_weighPairs_41 (by decide) ?_
        refine q_istore (pc := 45) (ls' := [some (.ref 13), some (.ref 1), some (.int x2), some (.int c3), some (.int ((nI 10000) + r15))]) dX4_weighPairs_45 (by decide) rfl rfl ?_
        refine q_aload_n (pc := 47) dX4_weighPairs_47 rfl ?_
        refine q_getf (pc := 48) (f := 1) (v := .ref 15) dX4_weighPairs_48 sh_13 cl_4 inX4 rfl (by decide) lk_X4_15 rfl ?_
        refine q_iload_n (pc := 51) dX4_weighPairs_51 rfl ?_
        refine q_bipush (pc := 52) (v := nI 6) dX4_weighPairs_52 (by decide) ?_
        refine q_imul (pc := 54) dX4_weighPairs_54 ?_
        refine q_iload_n (pc := 55) dX4_weighPairs_55 rfl ?_
        refine q_iadd (pc := 56) dX4_weighPairs_56 ?_
        refine q_iload (pc := 57) dX4_weighPairs_57 rfl ?_
        obtain ⟨M16, h17, h⟩ := Option.bind_eq_some_iff.mp h
        refine q_iast (pc := 59) dX4_weighPairs_59 sh_15 h17 ?_
        refine q_iincW (pc := 60) (w := nI 1) (ls' := [some (.ref 13), some (.ref 1), some (.int x2), some (.int (c3 + nI 1)), some (.int ((nI 10000) + r15))]) dX4_weighPairs_60 rfl (by decide) (by decide) rfl rfl ?_
        refine q_goto (pc := 63) (tgt := 12) dX4_weighPairs_63 (by decide) ?_
        refine q_weak (ls' := [some (.ref 13), some (.ref 1), some (.int x2), some (.int (c3 + nI 1)), none]) ⟨rfl, ⟨rfl, ⟨rfl, ⟨rfl, trivial⟩⟩⟩⟩ ?_
        exact l_X4_weighPairs_L12 x2 J n (c3 + nI 1) M16 res h hk
      · rw [if_neg k12] at h
        refine q_if_eq_t (pc := 27) (tgt := 44) dX4_weighPairs_27 (by decide) (qb_f k12) ?_
        refine q_iconst (pc := 44) (v := nI 0) dX4_weighPairs_44 (by decide) ?_
        refine q_istore (pc := 45) (ls' := [some (.ref 13), some (.ref 1), some (.int x2), some (.int c3), some (.int (nI 0))]) dX4_weighPairs_45 (by decide) rfl rfl ?_
        refine q_aload_n (pc := 47) dX4_weighPairs_47 rfl ?_
        refine q_getf (pc := 48) (f := 1) (v := .ref 15) dX4_weighPairs_48 sh_13 cl_4 inX4 rfl (by decide) lk_X4_15 rfl ?_
        refine q_iload_n (pc := 51) dX4_weighPairs_51 rfl ?_
        refine q_bipush (pc := 52) (v := nI 6) dX4_weighPairs_52 (by decide) ?_
        refine q_imul (pc := 54) dX4_weighPairs_54 ?_
        refine q_iload_n (pc := 55) dX4_weighPairs_55 rfl ?_
        refine q_iadd (pc := 56) dX4_weighPairs_56 ?_
        refine q_iload (pc := 57) dX4_weighPairs_57 rfl ?_
        obtain ⟨M18, h19, h⟩ := Option.bind_eq_some_iff.mp h
        refine q_iast (pc := 59) dX4_weighPairs_59 sh_15 h19 ?_
        refine q_iincW (pc := 60) (w := nI 1) (ls' := [some (.ref 13), some (.ref 1), some (.int x2), some (.int (c3 + nI 1)), some (.int (nI 0))]) dX4_weighPairs_60 rfl (by decide) (by decide) rfl rfl ?_
        refine q_goto (pc := 63) (tgt := 12) dX4_weighPairs_63 (by decide) ?_
        refine q_weak (ls' := [some (.ref 13), some (.ref 1), some (.int x2), some (.int (c3 + nI 1)), none]) ⟨rfl, ⟨rfl, ⟨rfl, ⟨rfl, trivial⟩⟩⟩⟩ ?_
        exact l_X4_weighPairs_L12 x2 J n (c3 + nI 1) M18 res h hk
def f_X4_weighPairs_L2  : Nat → Int32 → qM → Option (Int32 × qM)
  | 0, _, _ => none
  | n + 1, c2, M =>
  (f_X5_couples M).bind fun r3 => if r3 ≤ c2 then some (c2, M)
    else (f_X4_weighPairs_L12 c2 qF (nI 0) M).bind fun e20 => f_X4_weighPairs_L2  n (c2 + nI 1) e20.2
set_option maxRecDepth 20000 in
set_option maxHeartbeats 4000000 in
theorem l_X4_weighPairs_L2 {G : qG} {ρ : qR}  (J : qJ) : ∀ (n : Nat) (c2 : Int32) (M : qM) (res : Int32 × qM), f_X4_weighPairs_L2  n c2 M = some res → (∀ x : Int32 × qM, res = x → QW G (qrm 4 0 0) YX4_weighPairs 0 0 72 [none, none, none, none, none] [] SH x.2 J ρ) → QW G (qrm 4 0 0) YX4_weighPairs 0 0 2 [some (.ref 13), some (.ref 1), some (.int c2), none, none] [] SH M J ρ
  | 0, _, _, _, h, _ => by simp [f_X4_weighPairs_L2] at h
  | n + 1, c2, M, res, h, hk => by
    rw [f_X4_weighPairs_L2] at h
    refine q_iload_n (pc := 2) dX4_weighPairs_2 rfl ?_
    refine q_aload_n (pc := 3) dX4_weighPairs_3 rfl ?_
    obtain ⟨r3, h2, h⟩ := Option.bind_eq_some_iff.mp h
    refine q_callv (pc := 4) (st := [.int c2]) (a_X5_couples h2) okX5_couples rfl dX4_weighPairs_4 lk_X4_28 sh_1 cl_5 rfl (by decide) (by decide) (Nat.le_of_ble_eq_true rfl) ⟨Nat.le_of_ble_eq_true rfl, Nat.le_of_ble_eq_true rfl⟩ rfl ?_
    show QW G (qrm 4 0 0) YX4_weighPairs 0 0 7 [some (.ref 13), some (.ref 1), some (.int c2), none, none] [.int r3, .int c2] SH M J _
    by_cases k4 : r3 ≤ c2
    · rw [if_pos k4] at h
      refine q_icmp_ge_t (pc := 7) (tgt := 72) dX4_weighPairs_7 (by decide) k4 ?_
      refine q_weak (ls' := [none, none, none, none, none]) trivial ?_
      obtain rfl := Option.some.inj h
      exact hk (c2, M) rfl
    · rw [if_neg k4] at h
      refine q_icmp_ge_f (pc := 7) (tgt := 72) dX4_weighPairs_7 (by decide) k4 ?_
      refine q_iconst (pc := 10) (v := nI 0) dX4_weighPairs_10 (by decide) ?_
      refine q_istore_n (pc := 11) (ls' := [some (.ref 13), some (.ref 1), some (.int c2), some (.int (nI 0)), none]) dX4_weighPairs_11 (by decide) rfl rfl ?_
      obtain ⟨⟨e20_3, M21⟩, h22, h⟩ := Option.bind_eq_some_iff.mp h
      try dsimp only at h
      refine l_X4_weighPairs_L12 c2 J qF (nI 0) M _ h22 (fun x hx => ?_)
      subst hx
      show QW G (qrm 4 0 0) YX4_weighPairs 0 0 66 [some (.ref 13), some (.ref 1), some (.int c2), none, none] [] SH M21 J _
      refine q_iincW (pc := 66) (w := nI 1) (ls' := [some (.ref 13), some (.ref 1), some (.int (c2 + nI 1)), none, none]) dX4_weighPairs_66 rfl (by decide) (by decide) rfl rfl ?_
      refine q_goto (pc := 69) (tgt := 2) dX4_weighPairs_69 (by decide) ?_
      exact l_X4_weighPairs_L2  J n (c2 + nI 1) M21 res h hk
def f_X4_weighPairs  (M : qM) : Option qM :=
  (f_X4_weighPairs_L2  qF (nI 0) M).bind fun e23 => some (e23.2)
set_option maxRecDepth 20000 in
set_option maxHeartbeats 4000000 in
theorem a_X4_weighPairs {G : qG}  {M : qM} {J : qJ} {M' : qM} (h : f_X4_weighPairs  M = some (M')) : QM G 4 0 0 YX4_weighPairs [.ref 13, .ref 1] SH M J (none, SH, M', J) := by
  refine ⟨Nat.le_of_ble_eq_true rfl, rfl, ?_⟩
  show QW G (qrm 4 0 0) YX4_weighPairs 0 0 0 [some (.ref 13), some (.ref 1), none, none, none] [] SH M J _
  unfold f_X4_weighPairs at h
  refine q_iconst (pc := 0) (v := nI 0) dX4_weighPairs_0 (by decide) ?_
  refine q_istore_n (pc := 1) (ls' := [some (.ref 13), some (.ref 1), some (.int (nI 0)), none, none]) dX4_weighPairs_1 (by decide) rfl rfl ?_
  obtain ⟨⟨e23_2, M24⟩, h25, h⟩ := Option.bind_eq_some_iff.mp h
  try dsimp only at h
  refine l_X4_weighPairs_L2  J qF (nI 0) M _ h25 (fun x hx => ?_)
  subst hx
  show QW G (qrm 4 0 0) YX4_weighPairs 0 0 72 [none, none, none, none, none] [] SH M24 J _
  obtain rfl := Option.some.inj h
  exact q_vret (pc := 72) dX4_weighPairs_72 rfl rfl rfl
def f_J7_fill_at14_L5 (x1 : Int32) (x3 : Int32) : Nat → Int32 → qM → Option (Int32 × qM)
  | 0, _, _ => none
  | n + 1, c2, M =>
  if x3 ≤ c2 then some (c2, M)
    else (qwr M 14 448 c2 x1).bind fun M2 => f_J7_fill_at14_L5 x1 x3 n (c2 + nI 1) M2
set_option maxRecDepth 20000 in
set_option maxHeartbeats 4000000 in
theorem l_J7_fill_at14_L5 {G : qG} {ρ : qR} (x1 : Int32) (x3 : Int32) (J : qJ) : ∀ (n : Nat) (c2 : Int32) (M : qM) (res : Int32 × qM), f_J7_fill_at14_L5 x1 x3 n c2 M = some res → (∀ x : Int32 × qM, res = x → QW G (qrm 0 0 0) YJ7_fill_53178 0 0 20 [none, none, none, none] [] SH x.2 J ρ) → QW G (qrm 0 0 0) YJ7_fill_53178 0 0 5 [some (.ref 14), some (.int x1), some (.int c2), some (.int x3)] [] SH M J ρ
  | 0, _, _, _, h, _ => by simp [f_J7_fill_at14_L5] at h
  | n + 1, c2, M, res, h, hk => by
    rw [f_J7_fill_at14_L5] at h
    refine q_iload_n (pc := 5) dJ7_fill_53178_5 rfl ?_
    refine q_iload_n (pc := 6) dJ7_fill_53178_6 rfl ?_
    by_cases k1 : x3 ≤ c2
    · rw [if_pos k1] at h
      refine q_icmp_ge_t (pc := 7) (tgt := 20) dJ7_fill_53178_7 (by decide) k1 ?_
      refine q_weak (ls' := [none, none, none, none]) trivial ?_
      obtain rfl := Option.some.inj h
      exact hk (c2, M) rfl
    · rw [if_neg k1] at h
      refine q_icmp_ge_f (pc := 7) (tgt := 20) dJ7_fill_53178_7 (by decide) k1 ?_
      refine q_aload_n (pc := 10) dJ7_fill_53178_10 rfl ?_
      refine q_iload_n (pc := 11) dJ7_fill_53178_11 rfl ?_
      refine q_iload_n (pc := 12) dJ7_fill_53178_12 rfl ?_
      obtain ⟨M2, h3, h⟩ := Option.bind_eq_some_iff.mp h
      refine q_iast (pc := 13) dJ7_fill_53178_13 sh_14 h3 ?_
      refine q_iincW (pc := 14) (w := nI 1) (ls' := [some (.ref 14), some (.int x1), some (.int (c2 + nI 1)), some (.int x3)]) dJ7_fill_53178_14 rfl (by decide) (by decide) rfl rfl ?_
      refine q_goto (pc := 17) (tgt := 5) dJ7_fill_53178_17 (by decide) ?_
      exact l_J7_fill_at14_L5 x1 x3 J n (c2 + nI 1) M2 res h hk
def f_J7_fill_at14 (a1 : Int32) (M : qM) : Option qM :=
  (f_J7_fill_at14_L5 a1 (nI 448) qF (nI 0) M).bind fun e4 => some (e4.2)
set_option maxRecDepth 20000 in
set_option maxHeartbeats 4000000 in
theorem a_J7_fill_at14 {G : qG} {a1 : Int32} {M : qM} {J : qJ} {M' : qM} (h : f_J7_fill_at14 a1 M = some (M')) : QM G 0 0 0 YJ7_fill_53178 [.ref 14, .int a1] SH M J (none, SH, M', J) := by
  refine ⟨Nat.le_of_ble_eq_true rfl, rfl, ?_⟩
  show QW G (qrm 0 0 0) YJ7_fill_53178 0 0 0 [some (.ref 14), some (.int a1), none, none] [] SH M J _
  unfold f_J7_fill_at14 at h
  refine q_iconst (pc := 0) (v := nI 0) dJ7_fill_53178_0 (by decide) ?_
  refine q_istore_n (pc := 1) (ls' := [some (.ref 14), some (.int a1), some (.int (nI 0)), none]) dJ7_fill_53178_1 (by decide) rfl rfl ?_
  refine q_aload_n (pc := 2) dJ7_fill_53178_2 rfl ?_
  refine q_alen (pc := 3) (v := nI 448) dJ7_fill_53178_3 sh_14 rfl ?_
  refine q_istore_n (pc := 4) (ls' := [some (.ref 14), some (.int a1), some (.int (nI 0)), some (.int (nI 448))]) dJ7_fill_53178_4 (by decide) rfl rfl ?_
  obtain ⟨⟨e4_2, M5⟩, h6, h⟩ := Option.bind_eq_some_iff.mp h
  try dsimp only at h
  refine l_J7_fill_at14_L5 a1 (nI 448) J qF (nI 0) M _ h6 (fun x hx => ?_)
  subst hx
  show QW G (qrm 0 0 0) YJ7_fill_53178 0 0 20 [none, none, none, none] [] SH M5 J _
  obtain rfl := Option.some.inj h
  exact q_vret (pc := 20) dJ7_fill_53178_20 rfl rfl rfl
def f_X4_isFree (a1 : Int32) (a2 : Int32) (a3 : Int32) (M : qM) : Option Bool :=
  (qrd M 15 36 ((a1 * (nI 6)) + a2)).bind fun v1 => if v1 ≤ 0 then some (false)
    else if ((a3 >>> (a2 &&& 31)) &&& (nI 1)) = 0 then some (true)
    else some (false)
set_option maxRecDepth 20000 in
set_option maxHeartbeats 4000000 in
theorem a_X4_isFree {G : qG} {a1 : Int32} {a2 : Int32} {a3 : Int32} {M : qM} {J : qJ} {r : Bool} (h : f_X4_isFree a1 a2 a3 M = some (r)) : QM G 0 0 0 YX4_isFree [.ref 13, .int a1, .int a2, .int a3] SH M J (some (.int (qb r)), SH, M, J) := by
  refine ⟨Nat.le_of_ble_eq_true rfl, Or.inr ⟨rfl, _, rfl⟩, ?_⟩
  show QW G (qrm 0 0 0) YX4_isFree 0 0 0 [some (.ref 13), some (.int a1), some (.int a2), some (.int a3)] [] SH M J _
  unfold f_X4_isFree at h
  refine q_aload_n (pc := 0) dX4_isFree_0 rfl ?_
  refine q_getf (pc := 1) (f := 1) (v := .ref 15) dX4_isFree_1 sh_13 cl_4 inX4 rfl (by decide) lk_X4_15 rfl ?_
  refine q_iload_n (pc := 4) dX4_isFree_4 rfl ?_
  refine q_bipush (pc := 5) (v := nI 6) dX4_isFree_5 (by decide) ?_
  refine q_imul (pc := 7) dX4_isFree_7 ?_
  refine q_iload_n (pc := 8) dX4_isFree_8 rfl ?_
  refine q_iadd (pc := 9) dX4_isFree_9 ?_
  obtain ⟨v1, h2, h⟩ := Option.bind_eq_some_iff.mp h
  refine q_iald (pc := 10) dX4_isFree_10 sh_15 h2 ?_
  by_cases k3 : v1 ≤ 0
  · rw [if_pos k3] at h
    refine q_if_le_t (pc := 11) (tgt := 26) dX4_isFree_11 (by decide) k3 ?_
    refine q_iconst (pc := 26) (v := nI 0) dX4_isFree_26 (by decide) ?_
    obtain rfl := Option.some.inj h
    exact q_iret (pc := 27) dX4_isFree_27 rfl rfl rfl
  · rw [if_neg k3] at h
    refine q_if_le_f (pc := 11) (tgt := 26) dX4_isFree_11 (by decide) k3 ?_
    refine q_iload_n (pc := 14) dX4_isFree_14 rfl ?_
    refine q_iload_n (pc := 15) dX4_isFree_15 rfl ?_
    refine q_ishr (pc := 16) dX4_isFree_16 ?_
    refine q_iconst (pc := 17) (v := nI 1) dX4_isFree_17 (by decide) ?_
    refine q_iand (pc := 18) dX4_isFree_18 ?_
    by_cases k4 : ((a3 >>> (a2 &&& 31)) &&& (nI 1)) = 0
    · rw [if_pos k4] at h
      refine q_if_ne_f (pc := 19) (tgt := 26) dX4_isFree_19 (by decide) k4 ?_
      refine q_iconst (pc := 22) (v := nI 1) dX4_isFree_22 (by decide) ?_
      refine q_goto (pc := 23) (tgt := 27) dX4_isFree_23 (by decide) ?_
      obtain rfl := Option.some.inj h
      exact q_iret (pc := 27) dX4_isFree_27 rfl rfl rfl
    · rw [if_neg k4] at h
      refine q_if_ne_t (pc := 19) (tgt := 26) dX4_isFree_19 (by decide) k4 ?_
      refine q_iconst (pc := 26) (v := nI 0) dX4_isFree_26 (by decide) ?_
      obtain rfl := Option.some.inj h
      exact q_iret (pc := 27) dX4_isFree_27 rfl rfl rfl
def f_X4_valueOf (a1 : Int32) (a2 : Int32) (a3 : Int32) (M : qM) : Option Int32 :=
  (qrd M 15 36 ((a1 * (nI 6)) + a2)).bind fun v1 => (qrd M 14 448 (((a1 + (nI 1)) * (nI 64)) + (a3 ||| ((nI 1) <<< (a2 &&& 31))))).bind fun v3 => some (v1 + v3)
set_option maxRecDepth 20000 in
set_option maxHeartbeats 4000000 in
theorem a_X4_valueOf {G : qG} {a1 : Int32} {a2 : Int32} {a3 : Int32} {M : qM} {J : qJ} {r : Int32} (h : f_X4_valueOf a1 a2 a3 M = some (r)) : QM G 0 0 0 YX4_valueOf [.ref 13, .int a1, .int a2, .int a3] SH M J (some (.int r), SH, M, J) := by
  refine ⟨Nat.le_of_ble_eq_true rfl, Or.inl rfl, ?_⟩
  show QW G (qrm 0 0 0) YX4_valueOf 0 0 0 [some (.ref 13), some (.int a1), some (.int a2), some (.int a3)] [] SH M J _
  unfold f_X4_valueOf at h
  refine q_aload_n (pc := 0) dX4_valueOf_0 rfl ?_
  refine q_getf (pc := 1) (f := 1) (v := .ref 15) dX4_valueOf_1 sh_13 cl_4 inX4 rfl (by decide) lk_X4_15 rfl ?_
  refine q_iload_n (pc := 4) dX4_valueOf_4 rfl ?_
  refine q_bipush (pc := 5) (v := nI 6) dX4_valueOf_5 (by decide) ?_
  refine q_imul (pc := 7) dX4_valueOf_7 ?_
  refine q_iload_n (pc := 8) dX4_valueOf_8 rfl ?_
  refine q_iadd (pc := 9) dX4_valueOf_9 ?_
  obtain ⟨v1, h2, h⟩ := Option.bind_eq_some_iff.mp h
  refine q_iald (pc := 10) dX4_valueOf_10 sh_15 h2 ?_
  refine q_aload_n (pc := 11) dX4_valueOf_11 rfl ?_
  refine q_getf (pc := 12) (f := 0) (v := .ref 14) dX4_valueOf_12 sh_13 cl_4 inX4 rfl (by decide) lk_X4_11 rfl ?_
  refine q_iload_n (pc := 15) dX4_valueOf_15 rfl ?_
  refine q_iconst (pc := 16) (v := nI 1) dX4_valueOf_16 (by decide) ?_
  refine q_iadd (pc := 17) dX4_valueOf_17 ?_
  refine q_bipush (pc := 18) (v := nI 64) dX4_valueOf_18 (by decide) ?_
  refine q_imul (pc := 20) dX4_valueOf_20 ?_
  refine q_iload_n (pc := 21) dX4_valueOf_21 rfl ?_
  refine q_iconst (pc := 22) (v := nI 1) dX4_valueOf_22 (by decide) ?_
  refine q_iload_n (pc := 23) dX4_valueOf_23 rfl ?_
  refine q_ishl (pc := 24) dX4_valueOf_24 ?_
  refine q_ior (pc := 25) dX4_valueOf_25 ?_
  refine q_iadd (pc := 26) dX4_valueOf_26 ?_
  obtain ⟨v3, h4, h⟩ := Option.bind_eq_some_iff.mp h
  refine q_iald (pc := 27) dX4_valueOf_27 sh_14 h4 ?_
  refine q_iadd (pc := 28) dX4_valueOf_28 ?_
  obtain rfl := Option.some.inj h
  exact q_iret (pc := 29) dX4_valueOf_29 rfl rfl rfl
def f_X4_bestFrom_L18 (x2 : Int32) (x3 : Int32) (M : qM) : Nat → Int32 → Int32 → Option (Int32 × Int32)
  | 0, _, _ => none
  | n + 1, c4, c5 =>
  (f_X5_objectors M).bind fun r5 => if r5 ≤ c5 then some (c4, c5)
    else (f_X4_isFree x2 c5 x3 M).bind fun b9 => if b9 = true then (f_X4_valueOf x2 c5 x3 M).bind fun r13 => f_X4_bestFrom_L18 x2 x3 M n (qmax c4 r13) (c5 + nI 1)
    else f_X4_bestFrom_L18 x2 x3 M n c4 (c5 + nI 1)
set_option maxRecDepth 20000 in
set_option maxHeartbeats 4000000 in
theorem l_X4_bestFrom_L18 {G : qG} {ρ : qR} (x2 : Int32) (x3 : Int32) (M : qM) (J : qJ) : ∀ (n : Nat) (c4 : Int32) (c5 : Int32) (res : Int32 × Int32), f_X4_bestFrom_L18 x2 x3 M n c4 c5 = some res → (∀ x : Int32 × Int32, res = x → QW G (qrm 1 0 0) YX4_bestFrom 0 0 59 [none, none, none, none, some (.int x.1), none] [] SH M J ρ) → QW G (qrm 1 0 0) YX4_bestFrom 0 0 18 [some (.ref 13), some (.ref 1), some (.int x2), some (.int x3), some (.int c4), some (.int c5)] [] SH M J ρ
  | 0, _, _, _, h, _ => by simp [f_X4_bestFrom_L18] at h
  | n + 1, c4, c5, res, h, hk => by
    rw [f_X4_bestFrom_L18] at h
    refine q_iload (pc := 18) dX4_bestFrom_18 rfl ?_
    refine q_aload_n (pc := 20) dX4_bestFrom_20 rfl ?_
    obtain ⟨r5, h4, h⟩ := Option.bind_eq_some_iff.mp h
    refine q_callv (pc := 21) (st := [.int c5]) (a_X5_objectors h4) okX5_objectors rfl dX4_bestFrom_21 lk_X4_34 sh_1 cl_5 rfl (by decide) (by decide) (Nat.le_of_ble_eq_true rfl) ⟨Nat.le_of_ble_eq_true rfl, Nat.le_of_ble_eq_true rfl⟩ rfl ?_
    show QW G (qrm 1 0 0) YX4_bestFrom 0 0 24 [some (.ref 13), some (.ref 1), some (.int x2), some (.int x3), some (.int c4), some (.int c5)] [.int r5, .int c5] SH M J _
    by_cases k6 : r5 ≤ c5
    · rw [if_pos k6] at h
      refine q_icmp_ge_t (pc := 24) (tgt := 59) dX4_bestFrom_24 (by decide) k6 ?_
      refine q_weak (ls' := [none, none, none, none, some (.int c4), none]) ⟨rfl, trivial⟩ ?_
      obtain rfl := Option.some.inj h
      exact hk (c4, c5) rfl
    · rw [if_neg k6] at h
      refine q_icmp_ge_f (pc := 24) (tgt := 59) dX4_bestFrom_24 (by decide) k6 ?_
      refine q_aload_n (pc := 27) dX4_bestFrom_27 rfl ?_
      refine q_iload_n (pc := 28) dX4_bestFrom_28 rfl ?_
      refine q_iload (pc := 29) dX4_bestFrom_29 rfl ?_
      refine q_iload_n (pc := 31) dX4_bestFrom_31 rfl ?_
      obtain ⟨b9, h8, h⟩ := Option.bind_eq_some_iff.mp h
      refine q_callv (pc := 32) (st := []) (a_X4_isFree h8) okX4_isFree rfl dX4_bestFrom_32 lk_X4_49 sh_13 cl_4 rfl (by decide) (by decide) (Nat.le_of_ble_eq_true rfl) ⟨Nat.le_of_ble_eq_true rfl, Nat.le_of_ble_eq_true rfl⟩ rfl ?_
      show QW G (qrm 1 0 0) YX4_bestFrom 0 0 35 [some (.ref 13), some (.ref 1), some (.int x2), some (.int x3), some (.int c4), some (.int c5)] [.int (qb b9)] SH M J _
      by_cases k10 : b9 = true
      · rw [if_pos k10] at h
        refine q_if_eq_f (pc := 35) (tgt := 53) dX4_bestFrom_35 (by decide) (qb_t k10) ?_
        refine q_iload (pc := 38) dX4_bestFrom_38 rfl ?_
        refine q_aload_n (pc := 40) dX4_bestFrom_40 rfl ?_
        refine q_iload_n (pc := 41) dX4_bestFrom_41 rfl ?_
        refine q_iload (pc := 42) dX4_bestFrom_42 rfl ?_
        refine q_iload_n (pc := 44) dX4_bestFrom_44 rfl ?_
        obtain ⟨r13, h12, h⟩ := Option.bind_eq_some_iff.mp h
        refine q_callv (pc := 45) (st := [.int c4]) (a_X4_valueOf h12) okX4_valueOf rfl dX4_bestFrom_45 lk_X4_52 sh_13 cl_4 rfl (by decide) (by decide) (Nat.le_of_ble_eq_true rfl) ⟨Nat.le_of_ble_eq_true rfl, Nat.le_of_ble_eq_true rfl⟩ rfl ?_
        show QW G (qrm 1 0 0) YX4_bestFrom 0 0 48 [some (.ref 13), some (.ref 1), some (.int x2), some (.int x3), some (.int c4), some (.int c5)] [.int r13, .int c4] SH M J _
        refine q_max (pc := 48) dX4_bestFrom_48 lk_X4_55 (by decide) (Nat.le_of_ble_eq_true rfl) (Nat.le_of_ble_eq_true rfl) (Nat.le_of_ble_eq_true rfl) ?_
        refine q_istore (pc := 51) (ls' := [some (.ref 13), some (.ref 1), some (.int x2), some (.int x3), some (.int (qmax c4 r13)), some (.int c5)]) dX4_bestFrom_51 (by decide) rfl rfl ?_
        refine q_iincW (pc := 53) (w := nI 1) (ls' := [some (.ref 13), some (.ref 1), some (.int x2), some (.int x3), some (.int (qmax c4 r13)), some (.int (c5 + nI 1))]) dX4_bestFrom_53 rfl (by decide) (by decide) rfl rfl ?_
        refine q_goto (pc := 56) (tgt := 18) dX4_bestFrom_56 (by decide) ?_
        exact l_X4_bestFrom_L18 x2 x3 M J n (qmax c4 r13) (c5 + nI 1) res h hk
      · rw [if_neg k10] at h
        refine q_if_eq_t (pc := 35) (tgt := 53) dX4_bestFrom_35 (by decide) (qb_f k10) ?_
        refine q_iincW (pc := 53) (w := nI 1) (ls' := [some (.ref 13), some (.ref 1), some (.int x2), some (.int x3), some (.int c4), some (.int (c5 + nI 1))]) dX4_bestFrom_53 rfl (by decide) (by decide) rfl rfl ?_
        refine q_goto (pc := 56) (tgt := 18) dX4_bestFrom_56 (by decide) ?_
        exact l_X4_bestFrom_L18 x2 x3 M J n c4 (c5 + nI 1) res h hk
def f_X4_bestFrom (a2 : Int32) (a3 : Int32) (M : qM) : Option Int32 :=
  (qrd M 14 448 (((a2 + (nI 1)) * (nI 64)) + a3)).bind fun v1 => (f_X4_bestFrom_L18 a2 a3 M qF v1 (nI 0)).bind fun e14 => some (e14.1)
set_option maxRecDepth 20000 in
set_option maxHeartbeats 4000000 in
theorem a_X4_bestFrom {G : qG} {a2 : Int32} {a3 : Int32} {M : qM} {J : qJ} {r : Int32} (h : f_X4_bestFrom a2 a3 M = some (r)) : QM G 1 0 0 YX4_bestFrom [.ref 13, .ref 1, .int a2, .int a3] SH M J (some (.int r), SH, M, J) := by
  refine ⟨Nat.le_of_ble_eq_true rfl, Or.inl rfl, ?_⟩
  show QW G (qrm 1 0 0) YX4_bestFrom 0 0 0 [some (.ref 13), some (.ref 1), some (.int a2), some (.int a3), none, none] [] SH M J _
  unfold f_X4_bestFrom at h
  refine q_aload_n (pc := 0) dX4_bestFrom_0 rfl ?_
  refine q_getf (pc := 1) (f := 0) (v := .ref 14) dX4_bestFrom_1 sh_13 cl_4 inX4 rfl (by decide) lk_X4_11 rfl ?_
  refine q_iload_n (pc := 4) dX4_bestFrom_4 rfl ?_
  refine q_iconst (pc := 5) (v := nI 1) dX4_bestFrom_5 (by decide) ?_
  refine q_iadd (pc := 6) dX4_bestFrom_6 ?_
  refine q_bipush (pc := 7) (v := nI 64) dX4_bestFrom_7 (by decide) ?_
  refine q_imul (pc := 9) dX4_bestFrom_9 ?_
  refine q_iload_n (pc := 10) dX4_bestFrom_10 rfl ?_
  refine q_iadd (pc := 11) dX4_bestFrom_11 ?_
  obtain ⟨v1, h2, h⟩ := Option.bind_eq_some_iff.mp h
  refine q_iald (pc := 12) dX4_bestFrom_12 sh_14 h2 ?_
  refine q_istore (pc := 13) (ls' := [some (.ref 13), some (.ref 1), some (.int a2), some (.int a3), some (.int v1), none]) dX4_bestFrom_13 (by decide) rfl rfl ?_
  refine q_iconst (pc := 15) (v := nI 0) dX4_bestFrom_15 (by decide) ?_
  refine q_istore (pc := 16) (ls' := [some (.ref 13), some (.ref 1), some (.int a2), some (.int a3), some (.int v1), some (.int (nI 0))]) dX4_bestFrom_16 (by decide) rfl rfl ?_
  obtain ⟨⟨e14_4, e14_5⟩, h15, h⟩ := Option.bind_eq_some_iff.mp h
  try dsimp only at h
  refine l_X4_bestFrom_L18 a2 a3 M J qF v1 (nI 0) _ h15 (fun x hx => ?_)
  subst hx
  show QW G (qrm 1 0 0) YX4_bestFrom 0 0 59 [none, none, none, none, some (.int e14_4), none] [] SH M J _
  refine q_iload (pc := 59) dX4_bestFrom_59 rfl ?_
  obtain rfl := Option.some.inj h
  exact q_iret (pc := 61) dX4_bestFrom_61 rfl rfl rfl
def f_X4_weigh_L26 (x2 : Int32) : Nat → Int32 → qM → Option (Int32 × qM)
  | 0, _, _ => none
  | n + 1, c3, M =>
  (f_X5_objectors M).bind fun r13 => if ((nI 1) <<< (r13 &&& 31)) ≤ c3 then some (c3, M)
    else (f_X4_bestFrom x2 c3 M).bind fun r17 => (qwr M 14 448 ((x2 * (nI 64)) + c3) r17).bind fun M18 => f_X4_weigh_L26 x2 n (c3 + nI 1) M18
set_option maxRecDepth 20000 in
set_option maxHeartbeats 4000000 in
theorem l_X4_weigh_L26 {G : qG} {ρ : qR} (x2 : Int32) (J : qJ) : ∀ (n : Nat) (c3 : Int32) (M : qM) (res : Int32 × qM), f_X4_weigh_L26 x2 n c3 M = some res → (∀ x : Int32 × qM, res = x → QW G (qrm 5 0 0) YX4_weigh 0 0 60 [some (.ref 13), some (.ref 1), some (.int x2), none] [] SH x.2 J ρ) → QW G (qrm 5 0 0) YX4_weigh 0 0 26 [some (.ref 13), some (.ref 1), some (.int x2), some (.int c3)] [] SH M J ρ
  | 0, _, _, _, h, _ => by simp [f_X4_weigh_L26] at h
  | n + 1, c3, M, res, h, hk => by
    rw [f_X4_weigh_L26] at h
    refine q_iload_n (pc := 26) dX4_weigh_26 rfl ?_
    refine q_iconst (pc := 27) (v := nI 1) dX4_weigh_27 (by decide) ?_
    refine q_aload_n (pc := 28) dX4_weigh_28 rfl ?_
    obtain ⟨r13, h12, h⟩ := Option.bind_eq_some_iff.mp h
    refine q_callv (pc := 29) (st := [.int (nI 1), .int c3]) (a_X5_objectors h12) okX5_objectors rfl dX4_weigh_29 lk_X4_34 sh_1 cl_5 rfl (by decide) (by decide) (Nat.le_of_ble_eq_true rfl) ⟨Nat.le_of_ble_eq_true rfl, Nat.le_of_ble_eq_true rfl⟩ rfl ?_
    show QW G (qrm 5 0 0) YX4_weigh 0 0 32 [some (.ref 13), some (.ref 1), some (.int x2), some (.int c3)] [.int r13, .int (nI 1), .int c3] SH M J _
    refine q_ishl (pc := 32) dX4_weigh_32 ?_
    by_cases k14 : ((nI 1) <<< (r13 &&& 31)) ≤ c3
    · rw [if_pos k14] at h
      refine q_icmp_ge_t (pc := 33) (tgt := 60) dX4_weigh_33 (by decide) k14 ?_
      refine q_weak (ls' := [some (.ref 13), some (.ref 1), some (.int x2), none]) ⟨rfl, ⟨rfl, ⟨rfl, trivial⟩⟩⟩ ?_
      obtain rfl := Option.some.inj h
      exact hk (c3, M) rfl
    · rw [if_neg k14] at h
      refine q_icmp_ge_f (pc := 33) (tgt := 60) dX4_weigh_33 (by decide) k14 ?_
      refine q_aload_n (pc := 36) dX4_weigh_36 rfl ?_
      refine q_getf (pc := 37) (f := 0) (v := .ref 14) dX4_weigh_37 sh_13 cl_4 inX4 rfl (by decide) lk_X4_11 rfl ?_
      refine q_iload_n (pc := 40) dX4_weigh_40 rfl ?_
      refine q_bipush (pc := 41) (v := nI 64) dX4_weigh_41 (by decide) ?_
      refine q_imul (pc := 43) dX4_weigh_43 ?_
      refine q_iload_n (pc := 44) dX4_weigh_44 rfl ?_
      refine q_iadd (pc := 45) dX4_weigh_45 ?_
      refine q_aload_n (pc := 46) dX4_weigh_46 rfl ?_
      refine q_aload_n (pc := 47) dX4_weigh_47 rfl ?_
      refine q_iload_n (pc := 48) dX4_weigh_48 rfl ?_
      refine q_iload_n (pc := 49) dX4_weigh_49 rfl ?_
      obtain ⟨r17, h16, h⟩ := Option.bind_eq_some_iff.mp h
      refine q_callv (pc := 50) (st := [.int ((x2 * (nI 64)) + c3), .ref 14]) (a_X4_bestFrom h16) okX4_bestFrom rfl dX4_weigh_50 lk_X4_37 sh_13 cl_4 rfl (by decide) (by decide) (Nat.le_of_ble_eq_true rfl) ⟨Nat.le_of_ble_eq_true rfl, Nat.le_of_ble_eq_true rfl⟩ rfl ?_
      show QW G (qrm 5 0 0) YX4_weigh 0 0 53 [some (.ref 13), some (.ref 1), some (.int x2), some (.int c3)] [.int r17, .int ((x2 * (nI 64)) + c3), .ref 14] SH M J _
      obtain ⟨M18, h19, h⟩ := Option.bind_eq_some_iff.mp h
      refine q_iast (pc := 53) dX4_weigh_53 sh_14 h19 ?_
      refine q_iincW (pc := 54) (w := nI 1) (ls' := [some (.ref 13), some (.ref 1), some (.int x2), some (.int (c3 + nI 1))]) dX4_weigh_54 rfl (by decide) (by decide) rfl rfl ?_
      refine q_goto (pc := 57) (tgt := 26) dX4_weigh_57 (by decide) ?_
      exact l_X4_weigh_L26 x2 J n (c3 + nI 1) M18 res h hk
def f_X4_weigh_L20  : Nat → Int32 → qM → Option (Int32 × qM)
  | 0, _, _ => none
  | n + 1, c2, M =>
  if c2 < 0 then some (c2, M)
    else (f_X4_weigh_L26 c2 qF (nI 0) M).bind fun e20 => f_X4_weigh_L20  n (c2 + (-1 : Int32)) e20.2
set_option maxRecDepth 20000 in
set_option maxHeartbeats 4000000 in
theorem l_X4_weigh_L20 {G : qG} {ρ : qR}  (J : qJ) : ∀ (n : Nat) (c2 : Int32) (M : qM) (res : Int32 × qM), f_X4_weigh_L20  n c2 M = some res → (∀ x : Int32 × qM, res = x → QW G (qrm 5 0 0) YX4_weigh 0 0 66 [none, none, none, none] [] SH x.2 J ρ) → QW G (qrm 5 0 0) YX4_weigh 0 0 20 [some (.ref 13), some (.ref 1), some (.int c2), none] [] SH M J ρ
  | 0, _, _, _, h, _ => by simp [f_X4_weigh_L20] at h
  | n + 1, c2, M, res, h, hk => by
    rw [f_X4_weigh_L20] at h
    refine q_iload_n (pc := 20) dX4_weigh_20 rfl ?_
    by_cases k10 : c2 < 0
    · rw [if_pos k10] at h
      refine q_if_lt_t (pc := 21) (tgt := 66) dX4_weigh_21 (by decide) k10 ?_
      refine q_weak (ls' := [none, none, none, none]) trivial ?_
      obtain rfl := Option.some.inj h
      exact hk (c2, M) rfl
    · rw [if_neg k10] at h
      refine q_if_lt_f (pc := 21) (tgt := 66) dX4_weigh_21 (by decide) k10 ?_
      refine q_iconst (pc := 24) (v := nI 0) dX4_weigh_24 (by decide) ?_
      refine q_istore_n (pc := 25) (ls' := [some (.ref 13), some (.ref 1), some (.int c2), some (.int (nI 0))]) dX4_weigh_25 (by decide) rfl rfl ?_
      obtain ⟨⟨e20_3, M21⟩, h22, h⟩ := Option.bind_eq_some_iff.mp h
      try dsimp only at h
      refine l_X4_weigh_L26 c2 J qF (nI 0) M _ h22 (fun x hx => ?_)
      subst hx
      show QW G (qrm 5 0 0) YX4_weigh 0 0 60 [some (.ref 13), some (.ref 1), some (.int c2), none] [] SH M21 J _
      refine q_iincW (pc := 60) (w := (-1 : Int32)) (ls' := [some (.ref 13), some (.ref 1), some (.int (c2 + (-1 : Int32))), none]) dX4_weigh_60 rfl (by decide) (by decide) rfl rfl ?_
      refine q_goto (pc := 63) (tgt := 20) dX4_weigh_63 (by decide) ?_
      exact l_X4_weigh_L20  J n (c2 + (-1 : Int32)) M21 res h hk
def f_X4_weigh  (M : qM) : Option qM :=
  (f_X4_weighPairs M).bind fun M3 => (f_J7_fill_at14 (nI 0) M3).bind fun M6 => (f_X5_couples M6).bind fun r9 => (f_X4_weigh_L20  qF (r9 - (nI 1)) M6).bind fun e23 => some (e23.2)
set_option maxRecDepth 20000 in
set_option maxHeartbeats 4000000 in
theorem a_X4_weigh {G : qG}  {M : qM} {J : qJ} {M' : qM} (h : f_X4_weigh  M = some (M')) : QM G 5 0 0 YX4_weigh [.ref 13, .ref 1] SH M J (none, SH, M', J) := by
  refine ⟨Nat.le_of_ble_eq_true rfl, rfl, ?_⟩
  show QW G (qrm 5 0 0) YX4_weigh 0 0 0 [some (.ref 13), some (.ref 1), none, none] [] SH M J _
  unfold f_X4_weigh at h
  refine q_aload_n (pc := 0) dX4_weigh_0 rfl ?_
  refine q_aload_n (pc := 1) dX4_weigh_1 rfl ?_
  obtain ⟨M3, h2, h⟩ := Option.bind_eq_some_iff.mp h
  refine q_callv (pc := 2) (st := []) (a_X4_weighPairs h2) okX4_weighPairs rfl dX4_weigh_2 lk_X4_18 sh_13 cl_4 rfl (by decide) (by decide) (Nat.le_of_ble_eq_true rfl) ⟨Nat.le_of_ble_eq_true rfl, Nat.le_of_ble_eq_true rfl⟩ rfl ?_
  show QW G (qrm 5 0 0) YX4_weigh 0 0 5 [some (.ref 13), some (.ref 1), none, none] [] SH M3 J _
  refine q_aload_n (pc := 5) dX4_weigh_5 rfl ?_
  refine q_getf (pc := 6) (f := 0) (v := .ref 14) dX4_weigh_6 sh_13 cl_4 inX4 rfl (by decide) lk_X4_11 rfl ?_
  refine q_iconst (pc := 9) (v := nI 0) dX4_weigh_9 (by decide) ?_
  obtain ⟨M6, h5, h⟩ := Option.bind_eq_some_iff.mp h
  refine q_calls (pc := 10) (st := []) (a_J7_fill_at14 h5) okJ7_fill_53178 rfl dX4_weigh_10 lk_X4_22 rfl (by decide) (by decide) (Nat.le_of_ble_eq_true rfl) ⟨Nat.le_of_ble_eq_true rfl, Nat.le_of_ble_eq_true rfl⟩ rfl ?_
  show QW G (qrm 5 0 0) YX4_weigh 0 0 13 [some (.ref 13), some (.ref 1), none, none] [] SH M6 J _
  refine q_aload_n (pc := 13) dX4_weigh_13 rfl ?_
  obtain ⟨r9, h8, h⟩ := Option.bind_eq_some_iff.mp h
  refine q_callv (pc := 14) (st := []) (a_X5_couples h8) okX5_couples rfl dX4_weigh_14 lk_X4_28 sh_1 cl_5 rfl (by decide) (by decide) (Nat.le_of_ble_eq_true rfl) ⟨Nat.le_of_ble_eq_true rfl, Nat.le_of_ble_eq_true rfl⟩ rfl ?_
  show QW G (qrm 5 0 0) YX4_weigh 0 0 17 [some (.ref 13), some (.ref 1), none, none] [.int r9] SH M6 J _
  refine q_iconst (pc := 17) (v := nI 1) dX4_weigh_17 (by decide) ?_
  refine q_isub (pc := 18) dX4_weigh_18 ?_
  refine q_istore_n (pc := 19) (ls' := [some (.ref 13), some (.ref 1), some (.int (r9 - (nI 1))), none]) dX4_weigh_19 (by decide) rfl rfl ?_
  obtain ⟨⟨e23_2, M24⟩, h25, h⟩ := Option.bind_eq_some_iff.mp h
  try dsimp only at h
  refine l_X4_weigh_L20  J qF (r9 - (nI 1)) M6 _ h25 (fun x hx => ?_)
  subst hx
  show QW G (qrm 5 0 0) YX4_weigh 0 0 66 [none, none, none, none] [] SH M24 J _
  obtain rfl := Option.some.inj h
  exact q_vret (pc := 66) dX4_weigh_66 rfl rfl rfl
def f_X4_howMany  (M : qM) : Option Int32 :=
  (qrd M 14 448 (nI 0)).bind fun v1 => (qdiv v1 (nI 10000)).bind fun v3 => some (v3)
set_option maxRecDepth 20000 in
set_option maxHeartbeats 4000000 in
theorem a_X4_howMany {G : qG}  {M : qM} {J : qJ} {r : Int32} (h : f_X4_howMany  M = some (r)) : QM G 0 0 0 YX4_howMany [.ref 13] SH M J (some (.int r), SH, M, J) := by
  refine ⟨Nat.le_of_ble_eq_true rfl, Or.inl rfl, ?_⟩
  show QW G (qrm 0 0 0) YX4_howMany 0 0 0 [some (.ref 13)] [] SH M J _
  unfold f_X4_howMany at h
  refine q_aload_n (pc := 0) dX4_howMany_0 rfl ?_
  refine q_getf (pc := 1) (f := 0) (v := .ref 14) dX4_howMany_1 sh_13 cl_4 inX4 rfl (by decide) lk_X4_11 rfl ?_
  refine q_iconst (pc := 4) (v := nI 0) dX4_howMany_4 (by decide) ?_
  obtain ⟨v1, h2, h⟩ := Option.bind_eq_some_iff.mp h
  refine q_iald (pc := 5) dX4_howMany_5 sh_14 h2 ?_
  refine q_sipush (pc := 6) (v := nI 10000) dX4_howMany_6 (by decide) ?_
  obtain ⟨v3, h4, h⟩ := Option.bind_eq_some_iff.mp h
  refine q_idiv (pc := 9) dX4_howMany_9 h4 ?_
  obtain rfl := Option.some.inj h
  exact q_iret (pc := 10) dX4_howMany_10 rfl rfl rfl
def f_X4_together  (M : qM) : Option Int32 :=
  (qrd M 14 448 (nI 0)).bind fun v1 => (qrem v1 (nI 10000)).bind fun v3 => some (v3)
set_option maxRecDepth 20000 in
set_option maxHeartbeats 4000000 in
theorem a_X4_together {G : qG}  {M : qM} {J : qJ} {r : Int32} (h : f_X4_together  M = some (r)) : QM G 0 0 0 YX4_together [.ref 13] SH M J (some (.int r), SH, M, J) := by
  refine ⟨Nat.le_of_ble_eq_true rfl, Or.inl rfl, ?_⟩
  show QW G (qrm 0 0 0) YX4_together 0 0 0 [some (.ref 13)] [] SH M J _
  unfold f_X4_together at h
  refine q_aload_n (pc := 0) dX4_together_0 rfl ?_
  refine q_getf (pc := 1) (f := 0) (v := .ref 14) dX4_together_1 sh_13 cl_4 inX4 rfl (by decide) lk_X4_11 rfl ?_
  refine q_iconst (pc := 4) (v := nI 0) dX4_together_4 (by decide) ?_
  obtain ⟨v1, h2, h⟩ := Option.bind_eq_some_iff.mp h
  refine q_iald (pc := 5) dX4_together_5 sh_14 h2 ?_
  refine q_sipush (pc := 6) (v := nI 10000) dX4_together_6 (by decide) ?_
  obtain ⟨v3, h4, h⟩ := Option.bind_eq_some_iff.mp h
  refine q_irem (pc := 9) dX4_together_9 h4 ?_
  obtain rfl := Option.some.inj h
  exact q_iret (pc := 10) dX4_together_10 rfl rfl rfl
def f_X4_firstChoice_L3 (x2 : Int32) (x3 : Int32) (M : qM) : Nat → Int32 → Option ((Int32) ⊕ (Int32))
  | 0, _ => none
  | n + 1, c4 =>
  (f_X5_objectors M).bind fun r3 => if r3 ≤ c4 then some (.inr (c4))
    else (f_X4_isFree x2 c4 x3 M).bind fun b7 => if b7 = true then (f_X4_valueOf x2 c4 x3 M).bind fun r11 => (qrd M 14 448 ((x2 * (nI 64)) + x3)).bind fun v12 => if r11 = v12 then some (.inl (c4))
    else f_X4_firstChoice_L3 x2 x3 M n (c4 + nI 1)
    else f_X4_firstChoice_L3 x2 x3 M n (c4 + nI 1)
set_option maxRecDepth 20000 in
set_option maxHeartbeats 4000000 in
theorem l_X4_firstChoice_L3 {G : qG} {ρ : qR} (x2 : Int32) (x3 : Int32) (M : qM) (J : qJ) : ∀ (n : Nat) (c4 : Int32) (res : (Int32) ⊕ (Int32)), f_X4_firstChoice_L3 x2 x3 M n c4 = some res → (∀ x : Int32, res = .inr x → QW G (qrm 1 0 0) YX4_firstChoice 0 0 54 [none, none, none, none, none] [] SH M J ρ) → (∀ r : Int32, res = .inl r → (some (.int r), SH, M, J) = ρ) → QW G (qrm 1 0 0) YX4_firstChoice 0 0 3 [some (.ref 13), some (.ref 1), some (.int x2), some (.int x3), some (.int c4)] [] SH M J ρ
  | 0, _, _, h, _, _ => by simp [f_X4_firstChoice_L3] at h
  | n + 1, c4, res, h, hk, hr => by
    rw [f_X4_firstChoice_L3] at h
    refine q_iload (pc := 3) dX4_firstChoice_3 rfl ?_
    refine q_aload_n (pc := 5) dX4_firstChoice_5 rfl ?_
    obtain ⟨r3, h2, h⟩ := Option.bind_eq_some_iff.mp h
    refine q_callv (pc := 6) (st := [.int c4]) (a_X5_objectors h2) okX5_objectors rfl dX4_firstChoice_6 lk_X4_34 sh_1 cl_5 rfl (by decide) (by decide) (Nat.le_of_ble_eq_true rfl) ⟨Nat.le_of_ble_eq_true rfl, Nat.le_of_ble_eq_true rfl⟩ rfl ?_
    show QW G (qrm 1 0 0) YX4_firstChoice 0 0 9 [some (.ref 13), some (.ref 1), some (.int x2), some (.int x3), some (.int c4)] [.int r3, .int c4] SH M J _
    by_cases k4 : r3 ≤ c4
    · rw [if_pos k4] at h
      refine q_icmp_ge_t (pc := 9) (tgt := 54) dX4_firstChoice_9 (by decide) k4 ?_
      refine q_weak (ls' := [none, none, none, none, none]) trivial ?_
      obtain rfl := Option.some.inj h
      exact hk (c4) rfl
    · rw [if_neg k4] at h
      refine q_icmp_ge_f (pc := 9) (tgt := 54) dX4_firstChoice_9 (by decide) k4 ?_
      refine q_aload_n (pc := 12) dX4_firstChoice_12 rfl ?_
      refine q_iload_n (pc := 13) dX4_firstChoice_13 rfl ?_
      refine q_iload (pc := 14) dX4_firstChoice_14 rfl ?_
      refine q_iload_n (pc := 16) dX4_firstChoice_16 rfl ?_
      obtain ⟨b7, h6, h⟩ := Option.bind_eq_some_iff.mp h
      refine q_callv (pc := 17) (st := []) (a_X4_isFree h6) okX4_isFree rfl dX4_firstChoice_17 lk_X4_49 sh_13 cl_4 rfl (by decide) (by decide) (Nat.le_of_ble_eq_true rfl) ⟨Nat.le_of_ble_eq_true rfl, Nat.le_of_ble_eq_true rfl⟩ rfl ?_
      show QW G (qrm 1 0 0) YX4_firstChoice 0 0 20 [some (.ref 13), some (.ref 1), some (.int x2), some (.int x3), some (.int c4)] [.int (qb b7)] SH M J _
      by_cases k8 : b7 = true
      · rw [if_pos k8] at h
        refine q_if_eq_f (pc := 20) (tgt := 48) dX4_firstChoice_20 (by decide) (qb_t k8) ?_
        refine q_aload_n (pc := 23) dX4_firstChoice_23 rfl ?_
        refine q_iload_n (pc := 24) dX4_firstChoice_24 rfl ?_
        refine q_iload (pc := 25) dX4_firstChoice_25 rfl ?_
        refine q_iload_n (pc := 27) dX4_firstChoice_27 rfl ?_
        obtain ⟨r11, h10, h⟩ := Option.bind_eq_some_iff.mp h
        refine q_callv (pc := 28) (st := []) (a_X4_valueOf h10) okX4_valueOf rfl dX4_firstChoice_28 lk_X4_52 sh_13 cl_4 rfl (by decide) (by decide) (Nat.le_of_ble_eq_true rfl) ⟨Nat.le_of_ble_eq_true rfl, Nat.le_of_ble_eq_true rfl⟩ rfl ?_
        show QW G (qrm 1 0 0) YX4_firstChoice 0 0 31 [some (.ref 13), some (.ref 1), some (.int x2), some (.int x3), some (.int c4)] [.int r11] SH M J _
        refine q_aload_n (pc := 31) dX4_firstChoice_31 rfl ?_
        refine q_getf (pc := 32) (f := 0) (v := .ref 14) dX4_firstChoice_32 sh_13 cl_4 inX4 rfl (by decide) lk_X4_11 rfl ?_
        refine q_iload_n (pc := 35) dX4_firstChoice_35 rfl ?_
        refine q_bipush (pc := 36) (v := nI 64) dX4_firstChoice_36 (by decide) ?_
        refine q_imul (pc := 38) dX4_firstChoice_38 ?_
        refine q_iload_n (pc := 39) dX4_firstChoice_39 rfl ?_
        refine q_iadd (pc := 40) dX4_firstChoice_40 ?_
        obtain ⟨v12, h13, h⟩ := Option.bind_eq_some_iff.mp h
        refine q_iald (pc := 41) dX4_firstChoice_41 sh_14 h13 ?_
        by_cases k14 : r11 = v12
        · rw [if_pos k14] at h
          refine q_icmp_ne_f (pc := 42) (tgt := 48) dX4_firstChoice_42 (by decide) k14 ?_
          refine q_iload (pc := 45) dX4_firstChoice_45 rfl ?_
          obtain rfl := Option.some.inj h
          exact q_iret (pc := 47) dX4_firstChoice_47 rfl rfl (hr (c4) rfl)
        · rw [if_neg k14] at h
          refine q_icmp_ne_t (pc := 42) (tgt := 48) dX4_firstChoice_42 (by decide) k14 ?_
          refine q_iincW (pc := 48) (w := nI 1) (ls' := [some (.ref 13), some (.ref 1), some (.int x2), some (.int x3), some (.int (c4 + nI 1))]) dX4_firstChoice_48 rfl (by decide) (by decide) rfl rfl ?_
          refine q_goto (pc := 51) (tgt := 3) dX4_firstChoice_51 (by decide) ?_
          exact l_X4_firstChoice_L3 x2 x3 M J n (c4 + nI 1) res h hk hr
      · rw [if_neg k8] at h
        refine q_if_eq_t (pc := 20) (tgt := 48) dX4_firstChoice_20 (by decide) (qb_f k8) ?_
        refine q_iincW (pc := 48) (w := nI 1) (ls' := [some (.ref 13), some (.ref 1), some (.int x2), some (.int x3), some (.int (c4 + nI 1))]) dX4_firstChoice_48 rfl (by decide) (by decide) rfl rfl ?_
        refine q_goto (pc := 51) (tgt := 3) dX4_firstChoice_51 (by decide) ?_
        exact l_X4_firstChoice_L3 x2 x3 M J n (c4 + nI 1) res h hk hr
def f_X4_firstChoice (a2 : Int32) (a3 : Int32) (M : qM) : Option Int32 :=
  (f_X4_firstChoice_L3 a2 a3 M qF (nI 0)).bind fun e15 => Sum.elim some (fun e15 => some ((-1 : Int32))) e15
set_option maxRecDepth 20000 in
set_option maxHeartbeats 4000000 in
theorem a_X4_firstChoice {G : qG} {a2 : Int32} {a3 : Int32} {M : qM} {J : qJ} {r : Int32} (h : f_X4_firstChoice a2 a3 M = some (r)) : QM G 1 0 0 YX4_firstChoice [.ref 13, .ref 1, .int a2, .int a3] SH M J (some (.int r), SH, M, J) := by
  refine ⟨Nat.le_of_ble_eq_true rfl, Or.inl rfl, ?_⟩
  show QW G (qrm 1 0 0) YX4_firstChoice 0 0 0 [some (.ref 13), some (.ref 1), some (.int a2), some (.int a3), none] [] SH M J _
  unfold f_X4_firstChoice at h
  refine q_iconst (pc := 0) (v := nI 0) dX4_firstChoice_0 (by decide) ?_
  refine q_istore (pc := 1) (ls' := [some (.ref 13), some (.ref 1), some (.int a2), some (.int a3), some (.int (nI 0))]) dX4_firstChoice_1 (by decide) rfl rfl ?_
  obtain ⟨e15, h16, h⟩ := Option.bind_eq_some_iff.mp h
  rcases e15 with r | e15_4
  · simp only [Sum.elim_inl] at h
    obtain rfl := Option.some.inj h
    exact l_X4_firstChoice_L3 a2 a3 M J qF (nI 0) _ h16 (fun x hx => by cases hx) (fun r2 hx => by have hx := Sum.inl.inj hx; subst hx; rfl)
  · simp only [Sum.elim_inr] at h
    refine l_X4_firstChoice_L3 a2 a3 M J qF (nI 0) _ h16 (fun x hx => ?_) (fun r hx => by cases hx)
    have hx := Sum.inr.inj hx
    subst hx
    show QW G (qrm 1 0 0) YX4_firstChoice 0 0 54 [none, none, none, none, none] [] SH M J _
    refine q_iconst (pc := 54) (v := (-1 : Int32)) dX4_firstChoice_54 (by decide) ?_
    obtain rfl := Option.some.inj h
    exact q_iret (pc := 55) dX4_firstChoice_55 rfl rfl rfl
def f_X4_objectorFor_L5 (x2 : Int32) (M : qM) : Nat → Int32 → Int32 → Option (Int32 × Int32)
  | 0, _, _ => none
  | n + 1, c3, c4 =>
  if x2 ≤ c4 then some (c3, c4)
    else (f_X4_firstChoice c4 c3 M).bind fun r4 => if r4 = (-1 : Int32) then f_X4_objectorFor_L5 x2 M n (c3 ||| (nI 0)) (c4 + nI 1)
    else f_X4_objectorFor_L5 x2 M n (c3 ||| ((nI 1) <<< (r4 &&& 31))) (c4 + nI 1)
set_option maxRecDepth 20000 in
set_option maxHeartbeats 4000000 in
theorem l_X4_objectorFor_L5 {G : qG} {ρ : qR} (x2 : Int32) (M : qM) (J : qJ) : ∀ (n : Nat) (c3 : Int32) (c4 : Int32) (res : Int32 × Int32), f_X4_objectorFor_L5 x2 M n c3 c4 = some res → (∀ x : Int32 × Int32, res = x → QW G (qrm 2 0 0) YX4_objectorFor 0 0 44 [some (.ref 13), some (.ref 1), some (.int x2), some (.int x.1), none, none] [] SH M J ρ) → QW G (qrm 2 0 0) YX4_objectorFor 0 0 5 [some (.ref 13), some (.ref 1), some (.int x2), some (.int c3), some (.int c4), none] [] SH M J ρ
  | 0, _, _, _, h, _ => by simp [f_X4_objectorFor_L5] at h
  | n + 1, c3, c4, res, h, hk => by
    rw [f_X4_objectorFor_L5] at h
    refine q_iload (pc := 5) dX4_objectorFor_5 rfl ?_
    refine q_iload_n (pc := 7) dX4_objectorFor_7 rfl ?_
    by_cases k1 : x2 ≤ c4
    · rw [if_pos k1] at h
      refine q_icmp_ge_t (pc := 8) (tgt := 44) dX4_objectorFor_8 (by decide) k1 ?_
      refine q_weak (ls' := [some (.ref 13), some (.ref 1), some (.int x2), some (.int c3), none, none]) ⟨rfl, ⟨rfl, ⟨rfl, ⟨rfl, trivial⟩⟩⟩⟩ ?_
      obtain rfl := Option.some.inj h
      exact hk (c3, c4) rfl
    · rw [if_neg k1] at h
      refine q_icmp_ge_f (pc := 8) (tgt := 44) dX4_objectorFor_8 (by decide) k1 ?_
      refine q_aload_n (pc := 11) dX4_objectorFor_11 rfl ?_
      refine q_aload_n (pc := 12) dX4_objectorFor_12 rfl ?_
      refine q_iload (pc := 13) dX4_objectorFor_13 rfl ?_
      refine q_iload_n (pc := 15) dX4_objectorFor_15 rfl ?_
      obtain ⟨r4, h3, h⟩ := Option.bind_eq_some_iff.mp h
      refine q_callv (pc := 16) (st := []) (a_X4_firstChoice h3) okX4_firstChoice rfl dX4_objectorFor_16 lk_X4_61 sh_13 cl_4 rfl (by decide) (by decide) (Nat.le_of_ble_eq_true rfl) ⟨Nat.le_of_ble_eq_true rfl, Nat.le_of_ble_eq_true rfl⟩ rfl ?_
      show QW G (qrm 2 0 0) YX4_objectorFor 0 0 19 [some (.ref 13), some (.ref 1), some (.int x2), some (.int c3), some (.int c4), none] [.int r4] SH M J _
      refine q_istore (pc := 19) (ls' := [some (.ref 13), some (.ref 1), some (.int x2), some (.int c3), some (.int c4), some (.int r4)]) dX4_objectorFor_19 (by decide) rfl rfl ?_
      refine q_iload_n (pc := 21) dX4_objectorFor_21 rfl ?_
      refine q_iload (pc := 22) dX4_objectorFor_22 rfl ?_
      refine q_iconst (pc := 24) (v := (-1 : Int32)) dX4_objectorFor_24 (by decide) ?_
      by_cases k5 : r4 = (-1 : Int32)
      · rw [if_pos k5] at h
        refine q_icmp_ne_f (pc := 25) (tgt := 32) dX4_objectorFor_25 (by decide) k5 ?_
        refine q_iconst (pc := 28) (v := nI 0) dX4_objectorFor_28 (by decide) ?_
        refine q_goto (pc := 29) (tgt := 36) dX4_objectorFor_29 (by decide) ?_
        refine q_ior (pc := 36) dX4_objectorFor_36 ?_
        refine q_istore_n (pc := 37) (ls' := [some (.ref 13), some (.ref 1), some (.int x2), some (.int (c3 ||| (nI 0))), some (.int c4), some (.int r4)]) dX4_objectorFor_37 (by decide) rfl rfl ?_
        refine q_iincW (pc := 38) (w := nI 1) (ls' := [some (.ref 13), some (.ref 1), some (.int x2), some (.int (c3 ||| (nI 0))), some (.int (c4 + nI 1)), some (.int r4)]) dX4_objectorFor_38 rfl (by decide) (by decide) rfl rfl ?_
        refine q_goto (pc := 41) (tgt := 5) dX4_objectorFor_41 (by decide) ?_
        refine q_weak (ls' := [some (.ref 13), some (.ref 1), some (.int x2), some (.int (c3 ||| (nI 0))), some (.int (c4 + nI 1)), none]) ⟨rfl, ⟨rfl, ⟨rfl, ⟨rfl, ⟨rfl, trivial⟩⟩⟩⟩⟩ ?_
        exact l_X4_objectorFor_L5 x2 M J n (c3 ||| (nI 0)) (c4 + nI 1) res h hk
      · rw [if_neg k5] at h
        refine q_icmp_ne_t (pc := 25) (tgt := 32) dX4_objectorFor_25 (by decide) k5 ?_
        refine q_iconst (pc := 32) (v := nI 1) dX4_objectorFor_32 (by decide) ?_
        refine q_iload (pc := 33) dX4_objectorFor_33 rfl ?_
        refine q_ishl (pc := 35) dX4_objectorFor_35 ?_
        refine q_ior (pc := 36) dX4_objectorFor_36 ?_
        refine q_istore_n (pc := 37) (ls' := [some (.ref 13), some (.ref 1), some (.int x2), some (.int (c3 ||| ((nI 1) <<< (r4 &&& 31)))), some (.int c4), some (.int r4)]) dX4_objectorFor_37 (by decide) rfl rfl ?_
        refine q_iincW (pc := 38) (w := nI 1) (ls' := [some (.ref 13), some (.ref 1), some (.int x2), some (.int (c3 ||| ((nI 1) <<< (r4 &&& 31)))), some (.int (c4 + nI 1)), some (.int r4)]) dX4_objectorFor_38 rfl (by decide) (by decide) rfl rfl ?_
        refine q_goto (pc := 41) (tgt := 5) dX4_objectorFor_41 (by decide) ?_
        refine q_weak (ls' := [some (.ref 13), some (.ref 1), some (.int x2), some (.int (c3 ||| ((nI 1) <<< (r4 &&& 31)))), some (.int (c4 + nI 1)), none]) ⟨rfl, ⟨rfl, ⟨rfl, ⟨rfl, ⟨rfl, trivial⟩⟩⟩⟩⟩ ?_
        exact l_X4_objectorFor_L5 x2 M J n (c3 ||| ((nI 1) <<< (r4 &&& 31))) (c4 + nI 1) res h hk
def f_X4_objectorFor (a2 : Int32) (M : qM) : Option Int32 :=
  (f_X4_objectorFor_L5 a2 M qF (nI 0) (nI 0)).bind fun e6 => (f_X4_firstChoice a2 e6.1 M).bind fun r9 => some (r9)
set_option maxRecDepth 20000 in
set_option maxHeartbeats 4000000 in
theorem a_X4_objectorFor {G : qG} {a2 : Int32} {M : qM} {J : qJ} {r : Int32} (h : f_X4_objectorFor a2 M = some (r)) : QM G 2 0 0 YX4_objectorFor [.ref 13, .ref 1, .int a2] SH M J (some (.int r), SH, M, J) := by
  refine ⟨Nat.le_of_ble_eq_true rfl, Or.inl rfl, ?_⟩
  show QW G (qrm 2 0 0) YX4_objectorFor 0 0 0 [some (.ref 13), some (.ref 1), some (.int a2), none, none, none] [] SH M J _
  unfold f_X4_objectorFor at h
  refine q_iconst (pc := 0) (v := nI 0) dX4_objectorFor_0 (by decide) ?_
  refine q_istore_n (pc := 1) (ls' := [some (.ref 13), some (.ref 1), some (.int a2), some (.int (nI 0)), none, none]) dX4_objectorFor_1 (by decide) rfl rfl ?_
  refine q_iconst (pc := 2) (v := nI 0) dX4_objectorFor_2 (by decide) ?_
  refine q_istore (pc := 3) (ls' := [some (.ref 13), some (.ref 1), some (.int a2), some (.int (nI 0)), some (.int (nI 0)), none]) dX4_objectorFor_3 (by decide) rfl rfl ?_
  obtain ⟨⟨e6_3, e6_4⟩, h10, h⟩ := Option.bind_eq_some_iff.mp h
  try dsimp only at h
  refine l_X4_objectorFor_L5 a2 M J qF (nI 0) (nI 0) _ h10 (fun x hx => ?_)
  subst hx
  show QW G (qrm 2 0 0) YX4_objectorFor 0 0 44 [some (.ref 13), some (.ref 1), some (.int a2), some (.int e6_3), none, none] [] SH M J _
  refine q_aload_n (pc := 44) dX4_objectorFor_44 rfl ?_
  refine q_aload_n (pc := 45) dX4_objectorFor_45 rfl ?_
  refine q_iload_n (pc := 46) dX4_objectorFor_46 rfl ?_
  refine q_iload_n (pc := 47) dX4_objectorFor_47 rfl ?_
  obtain ⟨r9, h8, h⟩ := Option.bind_eq_some_iff.mp h
  refine q_callv (pc := 48) (st := []) (a_X4_firstChoice h8) okX4_firstChoice rfl dX4_objectorFor_48 lk_X4_61 sh_13 cl_4 rfl (by decide) (by decide) (Nat.le_of_ble_eq_true rfl) ⟨Nat.le_of_ble_eq_true rfl, Nat.le_of_ble_eq_true rfl⟩ rfl ?_
  show QW G (qrm 2 0 0) YX4_objectorFor 0 0 51 [some (.ref 13), some (.ref 1), some (.int a2), some (.int e6_3), none, none] [.int r9] SH M J _
  obtain rfl := Option.some.inj h
  exact q_iret (pc := 51) dX4_objectorFor_51 rfl rfl rfl
def f_X11_match (a1 : Int32) (M : qM) : Option (Int32 × qM) :=
  if a1 = (-1 : Int32) then (f_X4_weigh M).bind fun M4 => if a1 = (-1 : Int32) then (f_X4_howMany M4).bind fun r8 => some (r8, M4)
    else if a1 = (-2 : Int32) then (f_X4_together M4).bind fun r12 => some (r12, M4)
    else (f_X4_objectorFor a1 M4).bind fun r15 => some (r15, M4)
    else if a1 = (-2 : Int32) then (f_X4_weigh M).bind fun M19 => if a1 = (-1 : Int32) then (f_X4_howMany M19).bind fun r23 => some (r23, M19)
    else if a1 = (-2 : Int32) then (f_X4_together M19).bind fun r27 => some (r27, M19)
    else (f_X4_objectorFor a1 M19).bind fun r30 => some (r30, M19)
    else (f_X5_hasCouple a1 M).bind fun b33 => if b33 = true then (f_X4_weigh M).bind fun M37 => if a1 = (-1 : Int32) then (f_X4_howMany M37).bind fun r41 => some (r41, M37)
    else if a1 = (-2 : Int32) then (f_X4_together M37).bind fun r45 => some (r45, M37)
    else (f_X4_objectorFor a1 M37).bind fun r48 => some (r48, M37)
    else some ((-1000000001 : Int32), M)
set_option maxRecDepth 20000 in
set_option maxHeartbeats 4000000 in
theorem a_X11_match {G : qG} {a1 : Int32} {M : qM} {J : qJ} {r : Int32} {M' : qM} (h : f_X11_match a1 M = some (r, M')) : QM G 6 0 0 YX11_match [.ref 0, .int a1] SH M J (some (.int r), SH, M', J) := by
  refine ⟨Nat.le_of_ble_eq_true rfl, Or.inl rfl, ?_⟩
  show QW G (qrm 6 0 0) YX11_match 0 0 0 [some (.ref 0), some (.int a1)] [] SH M J _
  unfold f_X11_match at h
  refine q_iload_n (pc := 0) dX11_match_0 rfl ?_
  refine q_iconst (pc := 1) (v := (-1 : Int32)) dX11_match_1 (by decide) ?_
  by_cases k1 : a1 = (-1 : Int32)
  · rw [if_pos k1] at h
    refine q_icmp_eq_t (pc := 2) (tgt := 25) dX11_match_2 (by decide) k1 ?_
    refine q_aload_n (pc := 25) dX11_match_25 rfl ?_
    refine q_getf (pc := 26) (f := 5) (v := .ref 13) dX11_match_26 sh_0 cl_10 inX11 rfl (by decide) lk_X11_47 rfl ?_
    refine q_aload_n (pc := 29) dX11_match_29 rfl ?_
    refine q_getf (pc := 30) (f := 0) (v := .ref 1) dX11_match_30 sh_0 cl_10 inX11 rfl (by decide) lk_X11_10 rfl ?_
    obtain ⟨M4, h3, h⟩ := Option.bind_eq_some_iff.mp h
    refine q_callv (pc := 33) (st := []) (a_X4_weigh h3) okX4_weigh rfl dX11_match_33 lk_X11_256 sh_13 cl_4 rfl (by decide) (by decide) (Nat.le_of_ble_eq_true rfl) ⟨Nat.le_of_ble_eq_true rfl, Nat.le_of_ble_eq_true rfl⟩ rfl ?_
    show QW G (qrm 6 0 0) YX11_match 0 0 36 [some (.ref 0), some (.int a1)] [] SH M4 J _
    refine q_iload_n (pc := 36) dX11_match_36 rfl ?_
    refine q_iconst (pc := 37) (v := (-1 : Int32)) dX11_match_37 (by decide) ?_
    by_cases k5 : a1 = (-1 : Int32)
    · rw [if_pos k5] at h
      refine q_icmp_ne_f (pc := 38) (tgt := 49) dX11_match_38 (by decide) k5 ?_
      refine q_aload_n (pc := 41) dX11_match_41 rfl ?_
      refine q_getf (pc := 42) (f := 5) (v := .ref 13) dX11_match_42 sh_0 cl_10 inX11 rfl (by decide) lk_X11_47 rfl ?_
      obtain ⟨r8, h7, h⟩ := Option.bind_eq_some_iff.mp h
      refine q_callv (pc := 45) (st := []) (a_X4_howMany h7) okX4_howMany rfl dX11_match_45 lk_X11_259 sh_13 cl_4 rfl (by decide) (by decide) (Nat.le_of_ble_eq_true rfl) ⟨Nat.le_of_ble_eq_true rfl, Nat.le_of_ble_eq_true rfl⟩ rfl ?_
      show QW G (qrm 6 0 0) YX11_match 0 0 48 [some (.ref 0), some (.int a1)] [.int r8] SH M4 J _
      have h := Option.some.inj h
      obtain ⟨rfl, rfl⟩ := Prod.mk.inj h
      exact q_iret (pc := 48) dX11_match_48 rfl rfl rfl
    · rw [if_neg k5] at h
      refine q_icmp_ne_t (pc := 38) (tgt := 49) dX11_match_38 (by decide) k5 ?_
      refine q_iload_n (pc := 49) dX11_match_49 rfl ?_
      refine q_bipush (pc := 50) (v := (-2 : Int32)) dX11_match_50 (by decide) ?_
      by_cases k9 : a1 = (-2 : Int32)
      · rw [if_pos k9] at h
        refine q_icmp_ne_f (pc := 52) (tgt := 65) dX11_match_52 (by decide) k9 ?_
        refine q_aload_n (pc := 55) dX11_match_55 rfl ?_
        refine q_getf (pc := 56) (f := 5) (v := .ref 13) dX11_match_56 sh_0 cl_10 inX11 rfl (by decide) lk_X11_47 rfl ?_
        obtain ⟨r12, h11, h⟩ := Option.bind_eq_some_iff.mp h
        refine q_callv (pc := 59) (st := []) (a_X4_together h11) okX4_together rfl dX11_match_59 lk_X11_262 sh_13 cl_4 rfl (by decide) (by decide) (Nat.le_of_ble_eq_true rfl) ⟨Nat.le_of_ble_eq_true rfl, Nat.le_of_ble_eq_true rfl⟩ rfl ?_
        show QW G (qrm 6 0 0) YX11_match 0 0 62 [some (.ref 0), some (.int a1)] [.int r12] SH M4 J _
        refine q_goto (pc := 62) (tgt := 77) dX11_match_62 (by decide) ?_
        have h := Option.some.inj h
        obtain ⟨rfl, rfl⟩ := Prod.mk.inj h
        exact q_iret (pc := 77) dX11_match_77 rfl rfl rfl
      · rw [if_neg k9] at h
        refine q_icmp_ne_t (pc := 52) (tgt := 65) dX11_match_52 (by decide) k9 ?_
        refine q_aload_n (pc := 65) dX11_match_65 rfl ?_
        refine q_getf (pc := 66) (f := 5) (v := .ref 13) dX11_match_66 sh_0 cl_10 inX11 rfl (by decide) lk_X11_47 rfl ?_
        refine q_aload_n (pc := 69) dX11_match_69 rfl ?_
        refine q_getf (pc := 70) (f := 0) (v := .ref 1) dX11_match_70 sh_0 cl_10 inX11 rfl (by decide) lk_X11_10 rfl ?_
        refine q_iload_n (pc := 73) dX11_match_73 rfl ?_
        obtain ⟨r15, h14, h⟩ := Option.bind_eq_some_iff.mp h
        refine q_callv (pc := 74) (st := []) (a_X4_objectorFor h14) okX4_objectorFor rfl dX11_match_74 lk_X11_265 sh_13 cl_4 rfl (by decide) (by decide) (Nat.le_of_ble_eq_true rfl) ⟨Nat.le_of_ble_eq_true rfl, Nat.le_of_ble_eq_true rfl⟩ rfl ?_
        show QW G (qrm 6 0 0) YX11_match 0 0 77 [some (.ref 0), some (.int a1)] [.int r15] SH M4 J _
        have h := Option.some.inj h
        obtain ⟨rfl, rfl⟩ := Prod.mk.inj h
        exact q_iret (pc := 77) dX11_match_77 rfl rfl rfl
  · rw [if_neg k1] at h
    refine q_icmp_eq_f (pc := 2) (tgt := 25) dX11_match_2 (by decide) k1 ?_
    refine q_iload_n (pc := 5) dX11_match_5 rfl ?_
    refine q_bipush (pc := 6) (v := (-2 : Int32)) dX11_match_6 (by decide) ?_
    by_cases k16 : a1 = (-2 : Int32)
    · rw [if_pos k16] at h
      refine q_icmp_eq_t (pc := 8) (tgt := 25) dX11_match_8 (by decide) k16 ?_
      refine q_aload_n (pc := 25) dX11_match_25 rfl ?_
      refine q_getf (pc := 26) (f := 5) (v := .ref 13) dX11_match_26 sh_0 cl_10 inX11 rfl (by decide) lk_X11_47 rfl ?_
      refine q_aload_n (pc := 29) dX11_match_29 rfl ?_
      refine q_getf (pc := 30) (f := 0) (v := .ref 1) dX11_match_30 sh_0 cl_10 inX11 rfl (by decide) lk_X11_10 rfl ?_
      obtain ⟨M19, h18, h⟩ := Option.bind_eq_some_iff.mp h
      refine q_callv (pc := 33) (st := []) (a_X4_weigh h18) okX4_weigh rfl dX11_match_33 lk_X11_256 sh_13 cl_4 rfl (by decide) (by decide) (Nat.le_of_ble_eq_true rfl) ⟨Nat.le_of_ble_eq_true rfl, Nat.le_of_ble_eq_true rfl⟩ rfl ?_
      show QW G (qrm 6 0 0) YX11_match 0 0 36 [some (.ref 0), some (.int a1)] [] SH M19 J _
      refine q_iload_n (pc := 36) dX11_match_36 rfl ?_
      refine q_iconst (pc := 37) (v := (-1 : Int32)) dX11_match_37 (by decide) ?_
      by_cases k20 : a1 = (-1 : Int32)
      · rw [if_pos k20] at h
        refine q_icmp_ne_f (pc := 38) (tgt := 49) dX11_match_38 (by decide) k20 ?_
        refine q_aload_n (pc := 41) dX11_match_41 rfl ?_
        refine q_getf (pc := 42) (f := 5) (v := .ref 13) dX11_match_42 sh_0 cl_10 inX11 rfl (by decide) lk_X11_47 rfl ?_
        obtain ⟨r23, h22, h⟩ := Option.bind_eq_some_iff.mp h
        refine q_callv (pc := 45) (st := []) (a_X4_howMany h22) okX4_howMany rfl dX11_match_45 lk_X11_259 sh_13 cl_4 rfl (by decide) (by decide) (Nat.le_of_ble_eq_true rfl) ⟨Nat.le_of_ble_eq_true rfl, Nat.le_of_ble_eq_true rfl⟩ rfl ?_
        show QW G (qrm 6 0 0) YX11_match 0 0 48 [some (.ref 0), some (.int a1)] [.int r23] SH M19 J _
        have h := Option.some.inj h
        obtain ⟨rfl, rfl⟩ := Prod.mk.inj h
        exact q_iret (pc := 48) dX11_match_48 rfl rfl rfl
      · rw [if_neg k20] at h
        refine q_icmp_ne_t (pc := 38) (tgt := 49) dX11_match_38 (by decide) k20 ?_
        refine q_iload_n (pc := 49) dX11_match_49 rfl ?_
        refine q_bipush (pc := 50) (v := (-2 : Int32)) dX11_match_50 (by decide) ?_
        by_cases k24 : a1 = (-2 : Int32)
        · rw [if_pos k24] at h
          refine q_icmp_ne_f (pc := 52) (tgt := 65) dX11_match_52 (by decide) k24 ?_
          refine q_aload_n (pc := 55) dX11_match_55 rfl ?_
          refine q_getf (pc := 56) (f := 5) (v := .ref 13) dX11_match_56 sh_0 cl_10 inX11 rfl (by decide) lk_X11_47 rfl ?_
          obtain ⟨r27, h26, h⟩ := Option.bind_eq_some_iff.mp h
          refine q_callv (pc := 59) (st := []) (a_X4_together h26) okX4_together rfl dX11_match_59 lk_X11_262 sh_13 cl_4 rfl (by decide) (by decide) (Nat.le_of_ble_eq_true rfl) ⟨Nat.le_of_ble_eq_true rfl, Nat.le_of_ble_eq_true rfl⟩ rfl ?_
          show QW G (qrm 6 0 0) YX11_match 0 0 62 [some (.ref 0), some (.int a1)] [.int r27] SH M19 J _
          refine q_goto (pc := 62) (tgt := 77) dX11_match_62 (by decide) ?_
          have h := Option.some.inj h
          obtain ⟨rfl, rfl⟩ := Prod.mk.inj h
          exact q_iret (pc := 77) dX11_match_77 rfl rfl rfl
        · rw [if_neg k24] at h
          refine q_icmp_ne_t (pc := 52) (tgt := 65) dX11_match_52 (by decide) k24 ?_
          refine q_aload_n (pc := 65) dX11_match_65 rfl ?_
          refine q_getf (pc := 66) (f := 5) (v := .ref 13) dX11_match_66 sh_0 cl_10 inX11 rfl (by decide) lk_X11_47 rfl ?_
          refine q_aload_n (pc := 69) dX11_match_69 rfl ?_
          refine q_getf (pc := 70) (f := 0) (v := .ref 1) dX11_match_70 sh_0 cl_10 inX11 rfl (by decide) lk_X11_10 rfl ?_
          refine q_iload_n (pc := 73) dX11_match_73 rfl ?_
          obtain ⟨r30, h29, h⟩ := Option.bind_eq_some_iff.mp h
          refine q_callv (pc := 74) (st := []) (a_X4_objectorFor h29) okX4_objectorFor rfl dX11_match_74 lk_X11_265 sh_13 cl_4 rfl (by decide) (by decide) (Nat.le_of_ble_eq_true rfl) ⟨Nat.le_of_ble_eq_true rfl, Nat.le_of_ble_eq_true rfl⟩ rfl ?_
          show QW G (qrm 6 0 0) YX11_match 0 0 77 [some (.ref 0), some (.int a1)] [.int r30] SH M19 J _
          have h := Option.some.inj h
          obtain ⟨rfl, rfl⟩ := Prod.mk.inj h
          exact q_iret (pc := 77) dX11_match_77 rfl rfl rfl
    · rw [if_neg k16] at h
      refine q_icmp_eq_f (pc := 8) (tgt := 25) dX11_match_8 (by decide) k16 ?_
      refine q_aload_n (pc := 11) dX11_match_11 rfl ?_
      refine q_getf (pc := 12) (f := 0) (v := .ref 1) dX11_match_12 sh_0 cl_10 inX11 rfl (by decide) lk_X11_10 rfl ?_
      refine q_iload_n (pc := 15) dX11_match_15 rfl ?_
      obtain ⟨b33, h32, h⟩ := Option.bind_eq_some_iff.mp h
      refine q_callv (pc := 16) (st := []) (a_X5_hasCouple h32) okX5_hasCouple rfl dX11_match_16 lk_X11_161 sh_1 cl_5 rfl (by decide) (by decide) (Nat.le_of_ble_eq_true rfl) ⟨Nat.le_of_ble_eq_true rfl, Nat.le_of_ble_eq_true rfl⟩ rfl ?_
      show QW G (qrm 6 0 0) YX11_match 0 0 19 [some (.ref 0), some (.int a1)] [.int (qb b33)] SH M J _
      by_cases k34 : b33 = true
      · rw [if_pos k34] at h
        refine q_if_ne_t (pc := 19) (tgt := 25) dX11_match_19 (by decide) (qb_t k34) ?_
        refine q_aload_n (pc := 25) dX11_match_25 rfl ?_
        refine q_getf (pc := 26) (f := 5) (v := .ref 13) dX11_match_26 sh_0 cl_10 inX11 rfl (by decide) lk_X11_47 rfl ?_
        refine q_aload_n (pc := 29) dX11_match_29 rfl ?_
        refine q_getf (pc := 30) (f := 0) (v := .ref 1) dX11_match_30 sh_0 cl_10 inX11 rfl (by decide) lk_X11_10 rfl ?_
        obtain ⟨M37, h36, h⟩ := Option.bind_eq_some_iff.mp h
        refine q_callv (pc := 33) (st := []) (a_X4_weigh h36) okX4_weigh rfl dX11_match_33 lk_X11_256 sh_13 cl_4 rfl (by decide) (by decide) (Nat.le_of_ble_eq_true rfl) ⟨Nat.le_of_ble_eq_true rfl, Nat.le_of_ble_eq_true rfl⟩ rfl ?_
        show QW G (qrm 6 0 0) YX11_match 0 0 36 [some (.ref 0), some (.int a1)] [] SH M37 J _
        refine q_iload_n (pc := 36) dX11_match_36 rfl ?_
        refine q_iconst (pc := 37) (v := (-1 : Int32)) dX11_match_37 (by decide) ?_
        by_cases k38 : a1 = (-1 : Int32)
        · rw [if_pos k38] at h
          refine q_icmp_ne_f (pc := 38) (tgt := 49) dX11_match_38 (by decide) k38 ?_
          refine q_aload_n (pc := 41) dX11_match_41 rfl ?_
          refine q_getf (pc := 42) (f := 5) (v := .ref 13) dX11_match_42 sh_0 cl_10 inX11 rfl (by decide) lk_X11_47 rfl ?_
          obtain ⟨r41, h40, h⟩ := Option.bind_eq_some_iff.mp h
          refine q_callv (pc := 45) (st := []) (a_X4_howMany h40) okX4_howMany rfl dX11_match_45 lk_X11_259 sh_13 cl_4 rfl (by decide) (by decide) (Nat.le_of_ble_eq_true rfl) ⟨Nat.le_of_ble_eq_true rfl, Nat.le_of_ble_eq_true rfl⟩ rfl ?_
          show QW G (qrm 6 0 0) YX11_match 0 0 48 [some (.ref 0), some (.int a1)] [.int r41] SH M37 J _
          have h := Option.some.inj h
          obtain ⟨rfl, rfl⟩ := Prod.mk.inj h
          exact q_iret (pc := 48) dX11_match_48 rfl rfl rfl
        · rw [if_neg k38] at h
          refine q_icmp_ne_t (pc := 38) (tgt := 49) dX11_match_38 (by decide) k38 ?_
          refine q_iload_n (pc := 49) dX11_match_49 rfl ?_
          refine q_bipush (pc := 50) (v := (-2 : Int32)) dX11_match_50 (by decide) ?_
          by_cases k42 : a1 = (-2 : Int32)
          · rw [if_pos k42] at h
            refine q_icmp_ne_f (pc := 52) (tgt := 65) dX11_match_52 (by decide) k42 ?_
            refine q_aload_n (pc := 55) dX11_match_55 rfl ?_
            refine q_getf (pc := 56) (f := 5) (v := .ref 13) dX11_match_56 sh_0 cl_10 inX11 rfl (by decide) lk_X11_47 rfl ?_
            obtain ⟨r45, h44, h⟩ := Option.bind_eq_some_iff.mp h
            refine q_callv (pc := 59) (st := []) (a_X4_together h44) okX4_together rfl dX11_match_59 lk_X11_262 sh_13 cl_4 rfl (by decide) (by decide) (Nat.le_of_ble_eq_true rfl) ⟨Nat.le_of_ble_eq_true rfl, Nat.le_of_ble_eq_true rfl⟩ rfl ?_
            show QW G (qrm 6 0 0) YX11_match 0 0 62 [some (.ref 0), some (.int a1)] [.int r45] SH M37 J _
            refine q_goto (pc := 62) (tgt := 77) dX11_match_62 (by decide) ?_
            have h := Option.some.inj h
            obtain ⟨rfl, rfl⟩ := Prod.mk.inj h
            exact q_iret (pc := 77) dX11_match_77 rfl rfl rfl
          · rw [if_neg k42] at h
            refine q_icmp_ne_t (pc := 52) (tgt := 65) dX11_match_52 (by decide) k42 ?_
            refine q_aload_n (pc := 65) dX11_match_65 rfl ?_
            refine q_getf (pc := 66) (f := 5) (v := .ref 13) dX11_match_66 sh_0 cl_10 inX11 rfl (by decide) lk_X11_47 rfl ?_
            refine q_aload_n (pc := 69) dX11_match_69 rfl ?_
            refine q_getf (pc := 70) (f := 0) (v := .ref 1) dX11_match_70 sh_0 cl_10 inX11 rfl (by decide) lk_X11_10 rfl ?_
            refine q_iload_n (pc := 73) dX11_match_73 rfl ?_
            obtain ⟨r48, h47, h⟩ := Option.bind_eq_some_iff.mp h
            refine q_callv (pc := 74) (st := []) (a_X4_objectorFor h47) okX4_objectorFor rfl dX11_match_74 lk_X11_265 sh_13 cl_4 rfl (by decide) (by decide) (Nat.le_of_ble_eq_true rfl) ⟨Nat.le_of_ble_eq_true rfl, Nat.le_of_ble_eq_true rfl⟩ rfl ?_
            show QW G (qrm 6 0 0) YX11_match 0 0 77 [some (.ref 0), some (.int a1)] [.int r48] SH M37 J _
            have h := Option.some.inj h
            obtain ⟨rfl, rfl⟩ := Prod.mk.inj h
            exact q_iret (pc := 77) dX11_match_77 rfl rfl rfl
      · rw [if_neg k34] at h
        refine q_if_ne_f (pc := 19) (tgt := 25) dX11_match_19 (by decide) (qb_f k34) ?_
        refine q_ldc (pc := 22) (v := (-1000000001 : Int32)) dX11_match_22 lk_X11_165 ?_
        have h := Option.some.inj h
        obtain ⟨rfl, rfl⟩ := Prod.mk.inj h
        exact q_iret (pc := 24) dX11_match_24 rfl rfl rfl
def f_X11_isSetOf (a0 : Int32) (a1 : Int32) (M : qM) : Option Bool :=
  if a0 < 0 then some (false)
    else if ((nI 1) <<< (a1 &&& 31)) ≤ a0 then some (false)
    else some (true)
set_option maxRecDepth 20000 in
set_option maxHeartbeats 4000000 in
theorem a_X11_isSetOf {G : qG} {a0 : Int32} {a1 : Int32} {M : qM} {J : qJ} {r : Bool} (h : f_X11_isSetOf a0 a1 M = some (r)) : QM G 0 0 0 YX11_isSetOf [.int a0, .int a1] SH M J (some (.int (qb r)), SH, M, J) := by
  refine ⟨Nat.le_of_ble_eq_true rfl, Or.inr ⟨rfl, _, rfl⟩, ?_⟩
  show QW G (qrm 0 0 0) YX11_isSetOf 0 0 0 [some (.int a0), some (.int a1)] [] SH M J _
  unfold f_X11_isSetOf at h
  refine q_iload_n (pc := 0) dX11_isSetOf_0 rfl ?_
  by_cases k1 : a0 < 0
  · rw [if_pos k1] at h
    refine q_if_lt_t (pc := 1) (tgt := 15) dX11_isSetOf_1 (by decide) k1 ?_
    refine q_iconst (pc := 15) (v := nI 0) dX11_isSetOf_15 (by decide) ?_
    obtain rfl := Option.some.inj h
    exact q_iret (pc := 16) dX11_isSetOf_16 rfl rfl rfl
  · rw [if_neg k1] at h
    refine q_if_lt_f (pc := 1) (tgt := 15) dX11_isSetOf_1 (by decide) k1 ?_
    refine q_iload_n (pc := 4) dX11_isSetOf_4 rfl ?_
    refine q_iconst (pc := 5) (v := nI 1) dX11_isSetOf_5 (by decide) ?_
    refine q_iload_n (pc := 6) dX11_isSetOf_6 rfl ?_
    refine q_ishl (pc := 7) dX11_isSetOf_7 ?_
    by_cases k2 : ((nI 1) <<< (a1 &&& 31)) ≤ a0
    · rw [if_pos k2] at h
      refine q_icmp_ge_t (pc := 8) (tgt := 15) dX11_isSetOf_8 (by decide) k2 ?_
      refine q_iconst (pc := 15) (v := nI 0) dX11_isSetOf_15 (by decide) ?_
      obtain rfl := Option.some.inj h
      exact q_iret (pc := 16) dX11_isSetOf_16 rfl rfl rfl
    · rw [if_neg k2] at h
      refine q_icmp_ge_f (pc := 8) (tgt := 15) dX11_isSetOf_8 (by decide) k2 ?_
      refine q_iconst (pc := 11) (v := nI 1) dX11_isSetOf_11 (by decide) ?_
      refine q_goto (pc := 12) (tgt := 16) dX11_isSetOf_12 (by decide) ?_
      obtain rfl := Option.some.inj h
      exact q_iret (pc := 16) dX11_isSetOf_16 rfl rfl rfl
def f_X8_valueOf (a2 : Int32) (a3 : Int32) (a4 : Int32) (a5 : Int32) (M : qM) : Option Int32 :=
  (f_J6_bitCount a4 M).bind fun r3 => (f_J6_bitCount a5 M).bind fun r6 => (qrd M 17 64 (a5 &&& (((nI 1) <<< (a3 &&& 31)) ^^^ (-1 : Int32)))).bind fun v7 => (f_X5_wedIn a2 a3 (r3 - r6) M).bind fun b11 => if b11 = true then some (v7 + (nI 1))
    else some (v7 + (nI 0))
set_option maxRecDepth 20000 in
set_option maxHeartbeats 4000000 in
theorem a_X8_valueOf {G : qG} {a2 : Int32} {a3 : Int32} {a4 : Int32} {a5 : Int32} {M : qM} {J : qJ} {r : Int32} (h : f_X8_valueOf a2 a3 a4 a5 M = some (r)) : QM G 4 0 0 YX8_valueOf [.ref 16, .ref 1, .int a2, .int a3, .int a4, .int a5] SH M J (some (.int r), SH, M, J) := by
  refine ⟨Nat.le_of_ble_eq_true rfl, Or.inl rfl, ?_⟩
  show QW G (qrm 4 0 0) YX8_valueOf 0 0 0 [some (.ref 16), some (.ref 1), some (.int a2), some (.int a3), some (.int a4), some (.int a5), none] [] SH M J _
  unfold f_X8_valueOf at h
  refine q_iload (pc := 0) dX8_valueOf_0 rfl ?_
  obtain ⟨r3, h2, h⟩ := Option.bind_eq_some_iff.mp h
  refine q_calls (pc := 2) (st := []) (a_J6_bitCount h2) okJ6_bitCount_0f7a4 rfl dX8_valueOf_2 lk_X8_35 rfl (by decide) (by decide) (Nat.le_of_ble_eq_true rfl) ⟨Nat.le_of_ble_eq_true rfl, Nat.le_of_ble_eq_true rfl⟩ rfl ?_
  show QW G (qrm 4 0 0) YX8_valueOf 0 0 5 [some (.ref 16), some (.ref 1), some (.int a2), some (.int a3), some (.int a4), some (.int a5), none] [.int r3] SH M J _
  refine q_iload (pc := 5) dX8_valueOf_5 rfl ?_
  obtain ⟨r6, h5, h⟩ := Option.bind_eq_some_iff.mp h
  refine q_calls (pc := 7) (st := [.int r3]) (a_J6_bitCount h5) okJ6_bitCount_0f7a4 rfl dX8_valueOf_7 lk_X8_35 rfl (by decide) (by decide) (Nat.le_of_ble_eq_true rfl) ⟨Nat.le_of_ble_eq_true rfl, Nat.le_of_ble_eq_true rfl⟩ rfl ?_
  show QW G (qrm 4 0 0) YX8_valueOf 0 0 10 [some (.ref 16), some (.ref 1), some (.int a2), some (.int a3), some (.int a4), some (.int a5), none] [.int r6, .int r3] SH M J _
  refine q_isub (pc := 10) dX8_valueOf_10 ?_
  refine q_istore (pc := 11) (ls' := [some (.ref 16), some (.ref 1), some (.int a2), some (.int a3), some (.int a4), some (.int a5), some (.int (r3 - r6))]) dX8_valueOf_11 (by decide) rfl rfl ?_
  refine q_aload_n (pc := 13) dX8_valueOf_13 rfl ?_
  refine q_getf (pc := 14) (f := 0) (v := .ref 17) dX8_valueOf_14 sh_16 cl_8 inX8 rfl (by decide) lk_X8_9 rfl ?_
  refine q_iload (pc := 17) dX8_valueOf_17 rfl ?_
  refine q_iconst (pc := 19) (v := nI 1) dX8_valueOf_19 (by decide) ?_
  refine q_iload_n (pc := 20) dX8_valueOf_20 rfl ?_
  refine q_ishl (pc := 21) dX8_valueOf_21 ?_
  refine q_iconst (pc := 22) (v := (-1 : Int32)) dX8_valueOf_22 (by decide) ?_
  refine q_ixor (pc := 23) dX8_valueOf_23 ?_
  refine q_iand (pc := 24) dX8_valueOf_24 ?_
  obtain ⟨v7, h8, h⟩ := Option.bind_eq_some_iff.mp h
  refine q_iald (pc := 25) dX8_valueOf_25 sh_17 h8 ?_
  refine q_aload_n (pc := 26) dX8_valueOf_26 rfl ?_
  refine q_iload_n (pc := 27) dX8_valueOf_27 rfl ?_
  refine q_iload_n (pc := 28) dX8_valueOf_28 rfl ?_
  refine q_iload (pc := 29) dX8_valueOf_29 rfl ?_
  obtain ⟨b11, h10, h⟩ := Option.bind_eq_some_iff.mp h
  refine q_callv (pc := 31) (st := [.int v7]) (a_X5_wedIn h10) okX5_wedIn rfl dX8_valueOf_31 lk_X8_41 sh_1 cl_5 rfl (by decide) (by decide) (Nat.le_of_ble_eq_true rfl) ⟨Nat.le_of_ble_eq_true rfl, Nat.le_of_ble_eq_true rfl⟩ rfl ?_
  show QW G (qrm 4 0 0) YX8_valueOf 0 0 34 [some (.ref 16), some (.ref 1), some (.int a2), some (.int a3), some (.int a4), some (.int a5), some (.int (r3 - r6))] [.int (qb b11), .int v7] SH M J _
  by_cases k12 : b11 = true
  · rw [if_pos k12] at h
    refine q_if_eq_f (pc := 34) (tgt := 41) dX8_valueOf_34 (by decide) (qb_t k12) ?_
    refine q_iconst (pc := 37) (v := nI 1) dX8_valueOf_37 (by decide) ?_
    refine q_goto (pc := 38) (tgt := 42) dX8_valueOf_38 (by decide) ?_
    refine q_iadd (pc := 42) dX8_valueOf_42 ?_
    obtain rfl := Option.some.inj h
    exact q_iret (pc := 43) dX8_valueOf_43 rfl rfl rfl
  · rw [if_neg k12] at h
    refine q_if_eq_t (pc := 34) (tgt := 41) dX8_valueOf_34 (by decide) (qb_f k12) ?_
    refine q_iconst (pc := 41) (v := nI 0) dX8_valueOf_41 (by decide) ?_
    refine q_iadd (pc := 42) dX8_valueOf_42 ?_
    obtain rfl := Option.some.inj h
    exact q_iret (pc := 43) dX8_valueOf_43 rfl rfl rfl
def f_X8_bestOf_L6 (x2 : Int32) (x3 : Int32) (x4 : Int32) (M : qM) : Nat → Int32 → Int32 → Option (Int32 × Int32)
  | 0, _, _ => none
  | n + 1, c5, c6 =>
  (f_X5_couples M).bind fun r3 => if r3 ≤ c6 then some (c5, c6)
    else if ((x4 >>> (c6 &&& 31)) &&& (nI 1)) = (nI 1) then (f_X8_valueOf x2 c6 x3 x4 M).bind fun r8 => f_X8_bestOf_L6 x2 x3 x4 M n (qmax c5 r8) (c6 + nI 1)
    else f_X8_bestOf_L6 x2 x3 x4 M n c5 (c6 + nI 1)
set_option maxRecDepth 20000 in
set_option maxHeartbeats 4000000 in
theorem l_X8_bestOf_L6 {G : qG} {ρ : qR} (x2 : Int32) (x3 : Int32) (x4 : Int32) (M : qM) (J : qJ) : ∀ (n : Nat) (c5 : Int32) (c6 : Int32) (res : Int32 × Int32), f_X8_bestOf_L6 x2 x3 x4 M n c5 c6 = some res → (∀ x : Int32 × Int32, res = x → QW G (qrm 5 0 0) YX8_bestOf 0 0 50 [none, none, none, none, none, some (.int x.1), none] [] SH M J ρ) → QW G (qrm 5 0 0) YX8_bestOf 0 0 6 [some (.ref 16), some (.ref 1), some (.int x2), some (.int x3), some (.int x4), some (.int c5), some (.int c6)] [] SH M J ρ
  | 0, _, _, _, h, _ => by simp [f_X8_bestOf_L6] at h
  | n + 1, c5, c6, res, h, hk => by
    rw [f_X8_bestOf_L6] at h
    refine q_iload (pc := 6) dX8_bestOf_6 rfl ?_
    refine q_aload_n (pc := 8) dX8_bestOf_8 rfl ?_
    obtain ⟨r3, h2, h⟩ := Option.bind_eq_some_iff.mp h
    refine q_callv (pc := 9) (st := [.int c6]) (a_X5_couples h2) okX5_couples rfl dX8_bestOf_9 lk_X8_19 sh_1 cl_5 rfl (by decide) (by decide) (Nat.le_of_ble_eq_true rfl) ⟨Nat.le_of_ble_eq_true rfl, Nat.le_of_ble_eq_true rfl⟩ rfl ?_
    show QW G (qrm 5 0 0) YX8_bestOf 0 0 12 [some (.ref 16), some (.ref 1), some (.int x2), some (.int x3), some (.int x4), some (.int c5), some (.int c6)] [.int r3, .int c6] SH M J _
    by_cases k4 : r3 ≤ c6
    · rw [if_pos k4] at h
      refine q_icmp_ge_t (pc := 12) (tgt := 50) dX8_bestOf_12 (by decide) k4 ?_
      refine q_weak (ls' := [none, none, none, none, none, some (.int c5), none]) ⟨rfl, trivial⟩ ?_
      obtain rfl := Option.some.inj h
      exact hk (c5, c6) rfl
    · rw [if_neg k4] at h
      refine q_icmp_ge_f (pc := 12) (tgt := 50) dX8_bestOf_12 (by decide) k4 ?_
      refine q_iload (pc := 15) dX8_bestOf_15 rfl ?_
      refine q_iload (pc := 17) dX8_bestOf_17 rfl ?_
      refine q_ishr (pc := 19) dX8_bestOf_19 ?_
      refine q_iconst (pc := 20) (v := nI 1) dX8_bestOf_20 (by decide) ?_
      refine q_iand (pc := 21) dX8_bestOf_21 ?_
      refine q_iconst (pc := 22) (v := nI 1) dX8_bestOf_22 (by decide) ?_
      by_cases k5 : ((x4 >>> (c6 &&& 31)) &&& (nI 1)) = (nI 1)
      · rw [if_pos k5] at h
        refine q_icmp_ne_f (pc := 23) (tgt := 44) dX8_bestOf_23 (by decide) k5 ?_
        refine q_iload (pc := 26) dX8_bestOf_26 rfl ?_
        refine q_aload_n (pc := 28) dX8_bestOf_28 rfl ?_
        refine q_aload_n (pc := 29) dX8_bestOf_29 rfl ?_
        refine q_iload_n (pc := 30) dX8_bestOf_30 rfl ?_
        refine q_iload (pc := 31) dX8_bestOf_31 rfl ?_
        refine q_iload_n (pc := 33) dX8_bestOf_33 rfl ?_
        refine q_iload (pc := 34) dX8_bestOf_34 rfl ?_
        obtain ⟨r8, h7, h⟩ := Option.bind_eq_some_iff.mp h
        refine q_callv (pc := 36) (st := [.int c5]) (a_X8_valueOf h7) okX8_valueOf rfl dX8_bestOf_36 lk_X8_25 sh_16 cl_8 rfl (by decide) (by decide) (Nat.le_of_ble_eq_true rfl) ⟨Nat.le_of_ble_eq_true rfl, Nat.le_of_ble_eq_true rfl⟩ rfl ?_
        show QW G (qrm 5 0 0) YX8_bestOf 0 0 39 [some (.ref 16), some (.ref 1), some (.int x2), some (.int x3), some (.int x4), some (.int c5), some (.int c6)] [.int r8, .int c5] SH M J _
        refine q_max (pc := 39) dX8_bestOf_39 lk_X8_29 (by decide) (Nat.le_of_ble_eq_true rfl) (Nat.le_of_ble_eq_true rfl) (Nat.le_of_ble_eq_true rfl) ?_
        refine q_istore (pc := 42) (ls' := [some (.ref 16), some (.ref 1), some (.int x2), some (.int x3), some (.int x4), some (.int (qmax c5 r8)), some (.int c6)]) dX8_bestOf_42 (by decide) rfl rfl ?_
        refine q_iincW (pc := 44) (w := nI 1) (ls' := [some (.ref 16), some (.ref 1), some (.int x2), some (.int x3), some (.int x4), some (.int (qmax c5 r8)), some (.int (c6 + nI 1))]) dX8_bestOf_44 rfl (by decide) (by decide) rfl rfl ?_
        refine q_goto (pc := 47) (tgt := 6) dX8_bestOf_47 (by decide) ?_
        exact l_X8_bestOf_L6 x2 x3 x4 M J n (qmax c5 r8) (c6 + nI 1) res h hk
      · rw [if_neg k5] at h
        refine q_icmp_ne_t (pc := 23) (tgt := 44) dX8_bestOf_23 (by decide) k5 ?_
        refine q_iincW (pc := 44) (w := nI 1) (ls' := [some (.ref 16), some (.ref 1), some (.int x2), some (.int x3), some (.int x4), some (.int c5), some (.int (c6 + nI 1))]) dX8_bestOf_44 rfl (by decide) (by decide) rfl rfl ?_
        refine q_goto (pc := 47) (tgt := 6) dX8_bestOf_47 (by decide) ?_
        exact l_X8_bestOf_L6 x2 x3 x4 M J n c5 (c6 + nI 1) res h hk
def f_X8_bestOf (a2 : Int32) (a3 : Int32) (a4 : Int32) (M : qM) : Option Int32 :=
  (f_X8_bestOf_L6 a2 a3 a4 M qF (nI 0) (nI 0)).bind fun e9 => some (e9.1)
set_option maxRecDepth 20000 in
set_option maxHeartbeats 4000000 in
theorem a_X8_bestOf {G : qG} {a2 : Int32} {a3 : Int32} {a4 : Int32} {M : qM} {J : qJ} {r : Int32} (h : f_X8_bestOf a2 a3 a4 M = some (r)) : QM G 5 0 0 YX8_bestOf [.ref 16, .ref 1, .int a2, .int a3, .int a4] SH M J (some (.int r), SH, M, J) := by
  refine ⟨Nat.le_of_ble_eq_true rfl, Or.inl rfl, ?_⟩
  show QW G (qrm 5 0 0) YX8_bestOf 0 0 0 [some (.ref 16), some (.ref 1), some (.int a2), some (.int a3), some (.int a4), none, none] [] SH M J _
  unfold f_X8_bestOf at h
  refine q_iconst (pc := 0) (v := nI 0) dX8_bestOf_0 (by decide) ?_
  refine q_istore (pc := 1) (ls' := [some (.ref 16), some (.ref 1), some (.int a2), some (.int a3), some (.int a4), some (.int (nI 0)), none]) dX8_bestOf_1 (by decide) rfl rfl ?_
  refine q_iconst (pc := 3) (v := nI 0) dX8_bestOf_3 (by decide) ?_
  refine q_istore (pc := 4) (ls' := [some (.ref 16), some (.ref 1), some (.int a2), some (.int a3), some (.int a4), some (.int (nI 0)), some (.int (nI 0))]) dX8_bestOf_4 (by decide) rfl rfl ?_
  obtain ⟨⟨e9_5, e9_6⟩, h10, h⟩ := Option.bind_eq_some_iff.mp h
  try dsimp only at h
  refine l_X8_bestOf_L6 a2 a3 a4 M J qF (nI 0) (nI 0) _ h10 (fun x hx => ?_)
  subst hx
  show QW G (qrm 5 0 0) YX8_bestOf 0 0 50 [none, none, none, none, none, some (.int e9_5), none] [] SH M J _
  refine q_iload (pc := 50) dX8_bestOf_50 rfl ?_
  obtain rfl := Option.some.inj h
  exact q_iret (pc := 52) dX8_bestOf_52 rfl rfl rfl
def f_X8_weigh_L3 (x2 : Int32) (x3 : Int32) : Nat → Int32 → qM → Option (Int32 × qM)
  | 0, _, _ => none
  | n + 1, c4, M =>
  if x3 < c4 then some (c4, M)
    else if (c4 &&& (x3 ^^^ (-1 : Int32))) = 0 then (f_X8_bestOf x2 x3 c4 M).bind fun r5 => (qwr M 17 64 c4 r5).bind fun M6 => f_X8_weigh_L3 x2 x3 n (c4 + nI 1) M6
    else f_X8_weigh_L3 x2 x3 n (c4 + nI 1) M
set_option maxRecDepth 20000 in
set_option maxHeartbeats 4000000 in
theorem l_X8_weigh_L3 {G : qG} {ρ : qR} (x2 : Int32) (x3 : Int32) (J : qJ) : ∀ (n : Nat) (c4 : Int32) (M : qM) (res : Int32 × qM), f_X8_weigh_L3 x2 x3 n c4 M = some res → (∀ x : Int32 × qM, res = x → QW G (qrm 6 0 0) YX8_weigh 0 0 40 [none, none, none, none, none] [] SH x.2 J ρ) → QW G (qrm 6 0 0) YX8_weigh 0 0 3 [some (.ref 16), some (.ref 1), some (.int x2), some (.int x3), some (.int c4)] [] SH M J ρ
  | 0, _, _, _, h, _ => by simp [f_X8_weigh_L3] at h
  | n + 1, c4, M, res, h, hk => by
    rw [f_X8_weigh_L3] at h
    refine q_iload (pc := 3) dX8_weigh_3 rfl ?_
    refine q_iload_n (pc := 5) dX8_weigh_5 rfl ?_
    by_cases k1 : x3 < c4
    · rw [if_pos k1] at h
      refine q_icmp_gt_t (pc := 6) (tgt := 40) dX8_weigh_6 (by decide) k1 ?_
      refine q_weak (ls' := [none, none, none, none, none]) trivial ?_
      obtain rfl := Option.some.inj h
      exact hk (c4, M) rfl
    · rw [if_neg k1] at h
      refine q_icmp_gt_f (pc := 6) (tgt := 40) dX8_weigh_6 (by decide) k1 ?_
      refine q_iload (pc := 9) dX8_weigh_9 rfl ?_
      refine q_iload_n (pc := 11) dX8_weigh_11 rfl ?_
      refine q_iconst (pc := 12) (v := (-1 : Int32)) dX8_weigh_12 (by decide) ?_
      refine q_ixor (pc := 13) dX8_weigh_13 ?_
      refine q_iand (pc := 14) dX8_weigh_14 ?_
      by_cases k2 : (c4 &&& (x3 ^^^ (-1 : Int32))) = 0
      · rw [if_pos k2] at h
        refine q_if_ne_f (pc := 15) (tgt := 34) dX8_weigh_15 (by decide) k2 ?_
        refine q_aload_n (pc := 18) dX8_weigh_18 rfl ?_
        refine q_getf (pc := 19) (f := 0) (v := .ref 17) dX8_weigh_19 sh_16 cl_8 inX8 rfl (by decide) lk_X8_9 rfl ?_
        refine q_iload (pc := 22) dX8_weigh_22 rfl ?_
        refine q_aload_n (pc := 24) dX8_weigh_24 rfl ?_
        refine q_aload_n (pc := 25) dX8_weigh_25 rfl ?_
        refine q_iload_n (pc := 26) dX8_weigh_26 rfl ?_
        refine q_iload_n (pc := 27) dX8_weigh_27 rfl ?_
        refine q_iload (pc := 28) dX8_weigh_28 rfl ?_
        obtain ⟨r5, h4, h⟩ := Option.bind_eq_some_iff.mp h
        refine q_callv (pc := 30) (st := [.int c4, .ref 17]) (a_X8_bestOf h4) okX8_bestOf rfl dX8_weigh_30 lk_X8_15 sh_16 cl_8 rfl (by decide) (by decide) (Nat.le_of_ble_eq_true rfl) ⟨Nat.le_of_ble_eq_true rfl, Nat.le_of_ble_eq_true rfl⟩ rfl ?_
        show QW G (qrm 6 0 0) YX8_weigh 0 0 33 [some (.ref 16), some (.ref 1), some (.int x2), some (.int x3), some (.int c4)] [.int r5, .int c4, .ref 17] SH M J _
        obtain ⟨M6, h7, h⟩ := Option.bind_eq_some_iff.mp h
        refine q_iast (pc := 33) dX8_weigh_33 sh_17 h7 ?_
        refine q_iincW (pc := 34) (w := nI 1) (ls' := [some (.ref 16), some (.ref 1), some (.int x2), some (.int x3), some (.int (c4 + nI 1))]) dX8_weigh_34 rfl (by decide) (by decide) rfl rfl ?_
        refine q_goto (pc := 37) (tgt := 3) dX8_weigh_37 (by decide) ?_
        exact l_X8_weigh_L3 x2 x3 J n (c4 + nI 1) M6 res h hk
      · rw [if_neg k2] at h
        refine q_if_ne_t (pc := 15) (tgt := 34) dX8_weigh_15 (by decide) k2 ?_
        refine q_iincW (pc := 34) (w := nI 1) (ls' := [some (.ref 16), some (.ref 1), some (.int x2), some (.int x3), some (.int (c4 + nI 1))]) dX8_weigh_34 rfl (by decide) (by decide) rfl rfl ?_
        refine q_goto (pc := 37) (tgt := 3) dX8_weigh_37 (by decide) ?_
        exact l_X8_weigh_L3 x2 x3 J n (c4 + nI 1) M res h hk
def f_X8_weigh (a2 : Int32) (a3 : Int32) (M : qM) : Option qM :=
  (f_X8_weigh_L3 a2 a3 qF (nI 1) M).bind fun e8 => some (e8.2)
set_option maxRecDepth 20000 in
set_option maxHeartbeats 4000000 in
theorem a_X8_weigh {G : qG} {a2 : Int32} {a3 : Int32} {M : qM} {J : qJ} {M' : qM} (h : f_X8_weigh a2 a3 M = some (M')) : QM G 6 0 0 YX8_weigh [.ref 16, .ref 1, .int a2, .int a3] SH M J (none, SH, M', J) := by
  refine ⟨Nat.le_of_ble_eq_true rfl, rfl, ?_⟩
  show QW G (qrm 6 0 0) YX8_weigh 0 0 0 [some (.ref 16), some (.ref 1), some (.int a2), some (.int a3), none] [] SH M J _
  unfold f_X8_weigh at h
  refine q_iconst (pc := 0) (v := nI 1) dX8_weigh_0 (by decide) ?_
  refine q_istore (pc := 1) (ls' := [some (.ref 16), some (.ref 1), some (.int a2), some (.int a3), some (.int (nI 1))]) dX8_weigh_1 (by decide) rfl rfl ?_
  obtain ⟨⟨e8_4, M9⟩, h10, h⟩ := Option.bind_eq_some_iff.mp h
  try dsimp only at h
  refine l_X8_weigh_L3 a2 a3 J qF (nI 1) M _ h10 (fun x hx => ?_)
  subst hx
  show QW G (qrm 6 0 0) YX8_weigh 0 0 40 [none, none, none, none, none] [] SH M9 J _
  obtain rfl := Option.some.inj h
  exact q_vret (pc := 40) dX8_weigh_40 rfl rfl rfl
def f_X8_howMany (a1 : Int32) (M : qM) : Option Int32 :=
  (qrd M 17 64 a1).bind fun v1 => some (v1)
set_option maxRecDepth 20000 in
set_option maxHeartbeats 4000000 in
theorem a_X8_howMany {G : qG} {a1 : Int32} {M : qM} {J : qJ} {r : Int32} (h : f_X8_howMany a1 M = some (r)) : QM G 0 0 0 YX8_howMany [.ref 16, .int a1] SH M J (some (.int r), SH, M, J) := by
  refine ⟨Nat.le_of_ble_eq_true rfl, Or.inl rfl, ?_⟩
  show QW G (qrm 0 0 0) YX8_howMany 0 0 0 [some (.ref 16), some (.int a1)] [] SH M J _
  unfold f_X8_howMany at h
  refine q_aload_n (pc := 0) dX8_howMany_0 rfl ?_
  refine q_getf (pc := 1) (f := 0) (v := .ref 17) dX8_howMany_1 sh_16 cl_8 inX8 rfl (by decide) lk_X8_9 rfl ?_
  refine q_iload_n (pc := 4) dX8_howMany_4 rfl ?_
  obtain ⟨v1, h2, h⟩ := Option.bind_eq_some_iff.mp h
  refine q_iald (pc := 5) dX8_howMany_5 sh_17 h2 ?_
  obtain rfl := Option.some.inj h
  exact q_iret (pc := 6) dX8_howMany_6 rfl rfl rfl
