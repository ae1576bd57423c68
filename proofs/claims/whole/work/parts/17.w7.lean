def f_X12_boxes_at25_28_L12 (x2 : Int32) (x3 : Int32) : Nat → Int32 → qM → Option (Int32 × qM)
  | 0, _, _ => none
  | n + 1, c4, M =>
  if (nI 95) ≤ c4 then some (c4, M)
    else (qrd M 28 163 (((nI 63) + c4) + (nI 5))).bind fun v5 => (qwr M 28 163 ((nI 63) + c4) v5).bind fun M7 => f_X12_boxes_at25_28_L12 x2 x3 n (c4 + nI 1) M7
set_option maxRecDepth 20000 in
set_option maxHeartbeats 4000000 in
theorem l_X12_boxes_at25_28_L12 {G : qG} {ρ : qR} (x2 : Int32) (x3 : Int32) (J : qJ) : ∀ (n : Nat) (c4 : Int32) (M : qM) (res : Int32 × qM), f_X12_boxes_at25_28_L12 x2 x3 n c4 M = some res → (∀ x : Int32 × qM, res = x → QW G (qrm 3 0 0) YX12_boxes 0 0 41 [some (.ref 25), some (.ref 28), some (.int x2), some (.int x3), none] [] SH x.2 J ρ) → QW G (qrm 3 0 0) YX12_boxes 0 0 12 [some (.ref 25), some (.ref 28), some (.int x2), some (.int x3), some (.int c4)] [] SH M J ρ
  | 0, _, _, _, h, _ => by simp [f_X12_boxes_at25_28_L12] at h
  | n + 1, c4, M, res, h, hk => by
    rw [f_X12_boxes_at25_28_L12] at h
    refine q_iload (pc := 12) dX12_boxes_12 rfl ?_
    refine q_bipush (pc := 14) (v := nI 95) dX12_boxes_14 (by decide) ?_
    by_cases k4 : (nI 95) ≤ c4
    · rw [if_pos k4] at h
      refine q_icmp_ge_t (pc := 16) (tgt := 41) dX12_boxes_16 (by decide) k4 ?_
      refine q_weak (ls' := [some (.ref 25), some (.ref 28), some (.int x2), some (.int x3), none]) ⟨rfl, ⟨rfl, ⟨rfl, ⟨rfl, trivial⟩⟩⟩⟩ ?_
      obtain rfl := Option.some.inj h
      exact hk (c4, M) rfl
    · rw [if_neg k4] at h
      refine q_icmp_ge_f (pc := 16) (tgt := 41) dX12_boxes_16 (by decide) k4 ?_
      refine q_aload_n (pc := 19) dX12_boxes_19 rfl ?_
      refine q_bipush (pc := 20) (v := nI 63) dX12_boxes_20 (by decide) ?_
      refine q_iload (pc := 22) dX12_boxes_22 rfl ?_
      refine q_iadd (pc := 24) dX12_boxes_24 ?_
      refine q_aload_n (pc := 25) dX12_boxes_25 rfl ?_
      refine q_bipush (pc := 26) (v := nI 63) dX12_boxes_26 (by decide) ?_
      refine q_iload (pc := 28) dX12_boxes_28 rfl ?_
      refine q_iadd (pc := 30) dX12_boxes_30 ?_
      refine q_iconst (pc := 31) (v := nI 5) dX12_boxes_31 (by decide) ?_
      refine q_iadd (pc := 32) dX12_boxes_32 ?_
      obtain ⟨v5, h6, h⟩ := Option.bind_eq_some_iff.mp h
      refine q_iald (pc := 33) dX12_boxes_33 sh_28 h6 ?_
      obtain ⟨M7, h8, h⟩ := Option.bind_eq_some_iff.mp h
      refine q_iast (pc := 34) dX12_boxes_34 sh_28 h8 ?_
      refine q_iincW (pc := 35) (w := nI 1) (ls' := [some (.ref 25), some (.ref 28), some (.int x2), some (.int x3), some (.int (c4 + nI 1))]) dX12_boxes_35 rfl (by decide) (by decide) rfl rfl ?_
      refine q_goto (pc := 38) (tgt := 12) dX12_boxes_38 (by decide) ?_
      exact l_X12_boxes_at25_28_L12 x2 x3 J n (c4 + nI 1) M7 res h hk
def f_X12_boxes_at25_28 (a2 : Int32) (a3 : Int32) (M : qM) : Option qM :=
  (qrd M 28 163 (nI 62)).bind fun v1 => if v1 = (nI 20) then (f_X12_boxes_at25_28_L12 a2 a3 qF (nI 0) M).bind fun e9 => (qrd e9.2 28 163 (nI 62)).bind fun v11 => (qwr e9.2 28 163 (nI 62) (v11 - (nI 1))).bind fun M13 => (qrd M13 28 163 (nI 62)).bind fun v15 => (qrd M13 28 163 (nI 0)).bind fun v17 => (qwr M13 28 163 ((nI 63) + ((nI 5) * v15)) v17).bind fun M19 => (qwr M19 28 163 (((nI 63) + ((nI 5) * v15)) + (nI 1)) a3).bind fun M21 => (qwr M21 28 163 (((nI 63) + ((nI 5) * v15)) + (nI 2)) a2).bind fun M23 => (f_X12_reasonOn_at25_28 a2 a3 M23).bind fun r27 => (qwr M23 28 163 (((nI 63) + ((nI 5) * v15)) + (nI 3)) r27).bind fun M28 => (f_X12_strengthOn_at25_28 a2 a3 M28).bind fun r32 => (qwr M28 28 163 (((nI 63) + ((nI 5) * v15)) + (nI 4)) r32).bind fun M33 => (qrd M33 28 163 (nI 62)).bind fun v35 => (qwr M33 28 163 (nI 62) (v35 + (nI 1))).bind fun M37 => some (M37)
    else (qrd M 28 163 (nI 62)).bind fun v40 => (qrd M 28 163 (nI 0)).bind fun v42 => (qwr M 28 163 ((nI 63) + ((nI 5) * v40)) v42).bind fun M44 => (qwr M44 28 163 (((nI 63) + ((nI 5) * v40)) + (nI 1)) a3).bind fun M46 => (qwr M46 28 163 (((nI 63) + ((nI 5) * v40)) + (nI 2)) a2).bind fun M48 => (f_X12_reasonOn_at25_28 a2 a3 M48).bind fun r52 => (qwr M48 28 163 (((nI 63) + ((nI 5) * v40)) + (nI 3)) r52).bind fun M53 => (f_X12_strengthOn_at25_28 a2 a3 M53).bind fun r57 => (qwr M53 28 163 (((nI 63) + ((nI 5) * v40)) + (nI 4)) r57).bind fun M58 => (qrd M58 28 163 (nI 62)).bind fun v60 => (qwr M58 28 163 (nI 62) (v60 + (nI 1))).bind fun M62 => some (M62)
set_option maxRecDepth 20000 in
set_option maxHeartbeats 4000000 in
theorem a_X12_boxes_at25_28 {G : qG} {a2 : Int32} {a3 : Int32} {M : qM} {J : qJ} {M' : qM} (h : f_X12_boxes_at25_28 a2 a3 M = some (M')) : QM G 3 0 0 YX12_boxes [.ref 25, .ref 28, .int a2, .int a3] SH M J (none, SH, M', J) := by
  refine ⟨Nat.le_of_ble_eq_true rfl, rfl, ?_⟩
  show QW G (qrm 3 0 0) YX12_boxes 0 0 0 [some (.ref 25), some (.ref 28), some (.int a2), some (.int a3), none] [] SH M J _
  unfold f_X12_boxes_at25_28 at h
  refine q_aload_n (pc := 0) dX12_boxes_0 rfl ?_
  refine q_bipush (pc := 1) (v := nI 62) dX12_boxes_1 (by decide) ?_
  obtain ⟨v1, h2, h⟩ := Option.bind_eq_some_iff.mp h
  refine q_iald (pc := 3) dX12_boxes_3 sh_28 h2 ?_
  refine q_bipush (pc := 4) (v := nI 20) dX12_boxes_4 (by decide) ?_
  by_cases k3 : v1 = (nI 20)
  · rw [if_pos k3] at h
    refine q_icmp_ne_f (pc := 6) (tgt := 49) dX12_boxes_6 (by decide) k3 ?_
    refine q_iconst (pc := 9) (v := nI 0) dX12_boxes_9 (by decide) ?_
    refine q_istore (pc := 10) (ls' := [some (.ref 25), some (.ref 28), some (.int a2), some (.int a3), some (.int (nI 0))]) dX12_boxes_10 (by decide) rfl rfl ?_
    obtain ⟨⟨e9_4, M10⟩, h39, h⟩ := Option.bind_eq_some_iff.mp h
    try dsimp only at h
    refine l_X12_boxes_at25_28_L12 a2 a3 J qF (nI 0) M _ h39 (fun x hx => ?_)
    subst hx
    show QW G (qrm 3 0 0) YX12_boxes 0 0 41 [some (.ref 25), some (.ref 28), some (.int a2), some (.int a3), none] [] SH M10 J _
    refine q_aload_n (pc := 41) dX12_boxes_41 rfl ?_
    refine q_bipush (pc := 42) (v := nI 62) dX12_boxes_42 (by decide) ?_
    refine q_dup2 (pc := 44) dX12_boxes_44 rfl rfl ?_
    obtain ⟨v11, h12, h⟩ := Option.bind_eq_some_iff.mp h
    refine q_iald (pc := 45) dX12_boxes_45 sh_28 h12 ?_
    refine q_iconst (pc := 46) (v := nI 1) dX12_boxes_46 (by decide) ?_
    refine q_isub (pc := 47) dX12_boxes_47 ?_
    obtain ⟨M13, h14, h⟩ := Option.bind_eq_some_iff.mp h
    refine q_iast (pc := 48) dX12_boxes_48 sh_28 h14 ?_
    refine q_bipush (pc := 49) (v := nI 63) dX12_boxes_49 (by decide) ?_
    refine q_iconst (pc := 51) (v := nI 5) dX12_boxes_51 (by decide) ?_
    refine q_aload_n (pc := 52) dX12_boxes_52 rfl ?_
    refine q_bipush (pc := 53) (v := nI 62) dX12_boxes_53 (by decide) ?_
    obtain ⟨v15, h16, h⟩ := Option.bind_eq_some_iff.mp h
    refine q_iald (pc := 55) dX12_boxes_55 sh_28 h16 ?_
    refine q_imul (pc := 56) dX12_boxes_56 ?_
    refine q_iadd (pc := 57) dX12_boxes_57 ?_
    refine q_istore (pc := 58) (ls' := [some (.ref 25), some (.ref 28), some (.int a2), some (.int a3), some (.int ((nI 63) + ((nI 5) * v15)))]) dX12_boxes_58 (by decide) rfl rfl ?_
    refine q_aload_n (pc := 60) dX12_boxes_60 rfl ?_
    refine q_iload (pc := 61) dX12_boxes_61 rfl ?_
    refine q_aload_n (pc := 63) dX12_boxes_63 rfl ?_
    refine q_iconst (pc := 64) (v := nI 0) dX12_boxes_64 (by decide) ?_
    obtain ⟨v17, h18, h⟩ := Option.bind_eq_some_iff.mp h
    refine q_iald (pc := 65) dX12_boxes_65 sh_28 h18 ?_
    obtain ⟨M19, h20, h⟩ := Option.bind_eq_some_iff.mp h
    refine q_iast (pc := 66) dX12_boxes_66 sh_28 h20 ?_
    refine q_aload_n (pc := 67) dX12_boxes_67 rfl ?_
    refine q_iload (pc := 68) dX12_boxes_68 rfl ?_
    refine q_iconst (pc := 70) (v := nI 1) dX12_boxes_70 (by decide) ?_
    refine q_iadd (pc := 71) dX12_boxes_71 ?_
    refine q_iload_n (pc := 72) dX12_boxes_72 rfl ?_
    obtain ⟨M21, h22, h⟩ := Option.bind_eq_some_iff.mp h
    refine q_iast (pc := 73) dX12_boxes_73 sh_28 h22 ?_
    refine q_aload_n (pc := 74) dX12_boxes_74 rfl ?_
    refine q_iload (pc := 75) dX12_boxes_75 rfl ?_
    refine q_iconst (pc := 77) (v := nI 2) dX12_boxes_77 (by decide) ?_
    refine q_iadd (pc := 78) dX12_boxes_78 ?_
    refine q_iload_n (pc := 79) dX12_boxes_79 rfl ?_
    obtain ⟨M23, h24, h⟩ := Option.bind_eq_some_iff.mp h
    refine q_iast (pc := 80) dX12_boxes_80 sh_28 h24 ?_
    refine q_aload_n (pc := 81) dX12_boxes_81 rfl ?_
    refine q_iload (pc := 82) dX12_boxes_82 rfl ?_
    refine q_iconst (pc := 84) (v := nI 3) dX12_boxes_84 (by decide) ?_
    refine q_iadd (pc := 85) dX12_boxes_85 ?_
    refine q_aload_n (pc := 86) dX12_boxes_86 rfl ?_
    refine q_aload_n (pc := 87) dX12_boxes_87 rfl ?_
    refine q_iload_n (pc := 88) dX12_boxes_88 rfl ?_
    refine q_iload_n (pc := 89) dX12_boxes_89 rfl ?_
    obtain ⟨r27, h26, h⟩ := Option.bind_eq_some_iff.mp h
    refine q_callv (pc := 90) (st := [.int (((nI 63) + ((nI 5) * v15)) + (nI 3)), .ref 28]) (a_X12_reasonOn_at25_28 h26) okX12_reasonOn rfl dX12_boxes_90 lk_X12_136 sh_25 cl_11 rfl (by decide) (by decide) (Nat.le_of_ble_eq_true rfl) ⟨Nat.le_of_ble_eq_true rfl, Nat.le_of_ble_eq_true rfl⟩ rfl ?_
    show QW G (qrm 3 0 0) YX12_boxes 0 0 93 [some (.ref 25), some (.ref 28), some (.int a2), some (.int a3), some (.int ((nI 63) + ((nI 5) * v15)))] [.int r27, .int (((nI 63) + ((nI 5) * v15)) + (nI 3)), .ref 28] SH M23 J _
    obtain ⟨M28, h29, h⟩ := Option.bind_eq_some_iff.mp h
    refine q_iast (pc := 93) dX12_boxes_93 sh_28 h29 ?_
    refine q_aload_n (pc := 94) dX12_boxes_94 rfl ?_
    refine q_iload (pc := 95) dX12_boxes_95 rfl ?_
    refine q_iconst (pc := 97) (v := nI 4) dX12_boxes_97 (by decide) ?_
    refine q_iadd (pc := 98) dX12_boxes_98 ?_
    refine q_aload_n (pc := 99) dX12_boxes_99 rfl ?_
    refine q_aload_n (pc := 100) dX12_boxes_100 rfl ?_
    refine q_iload_n (pc := 101) dX12_boxes_101 rfl ?_
    refine q_iload_n (pc := 102) dX12_boxes_102 rfl ?_
    obtain ⟨r32, h31, h⟩ := Option.bind_eq_some_iff.mp h
    refine q_callv (pc := 103) (st := [.int (((nI 63) + ((nI 5) * v15)) + (nI 4)), .ref 28]) (a_X12_strengthOn_at25_28 h31) okX12_strengthOn rfl dX12_boxes_103 lk_X12_144 sh_25 cl_11 rfl (by decide) (by decide) (Nat.le_of_ble_eq_true rfl) ⟨Nat.le_of_ble_eq_true rfl, Nat.le_of_ble_eq_true rfl⟩ rfl ?_
    show QW G (qrm 3 0 0) YX12_boxes 0 0 106 [some (.ref 25), some (.ref 28), some (.int a2), some (.int a3), some (.int ((nI 63) + ((nI 5) * v15)))] [.int r32, .int (((nI 63) + ((nI 5) * v15)) + (nI 4)), .ref 28] SH M28 J _
    obtain ⟨M33, h34, h⟩ := Option.bind_eq_some_iff.mp h
    refine q_iast (pc := 106) dX12_boxes_106 sh_28 h34 ?_
    refine q_aload_n (pc := 107) dX12_boxes_107 rfl ?_
    refine q_bipush (pc := 108) (v := nI 62) dX12_boxes_108 (by decide) ?_
    refine q_dup2 (pc := 110) dX12_boxes_110 rfl rfl ?_
    obtain ⟨v35, h36, h⟩ := Option.bind_eq_some_iff.mp h
    refine q_iald (pc := 111) dX12_boxes_111 sh_28 h36 ?_
    refine q_iconst (pc := 112) (v := nI 1) dX12_boxes_112 (by decide) ?_
    refine q_iadd (pc := 113) dX12_boxes_113 ?_
    obtain ⟨M37, h38, h⟩ := Option.bind_eq_some_iff.mp h
    refine q_iast (pc := 114) dX12_boxes_114 sh_28 h38 ?_
    obtain rfl := Option.some.inj h
    exact q_vret (pc := 115) dX12_boxes_115 rfl rfl rfl
  · rw [if_neg k3] at h
    refine q_icmp_ne_t (pc := 6) (tgt := 49) dX12_boxes_6 (by decide) k3 ?_
    refine q_bipush (pc := 49) (v := nI 63) dX12_boxes_49 (by decide) ?_
    refine q_iconst (pc := 51) (v := nI 5) dX12_boxes_51 (by decide) ?_
    refine q_aload_n (pc := 52) dX12_boxes_52 rfl ?_
    refine q_bipush (pc := 53) (v := nI 62) dX12_boxes_53 (by decide) ?_
    obtain ⟨v40, h41, h⟩ := Option.bind_eq_some_iff.mp h
    refine q_iald (pc := 55) dX12_boxes_55 sh_28 h41 ?_
    refine q_imul (pc := 56) dX12_boxes_56 ?_
    refine q_iadd (pc := 57) dX12_boxes_57 ?_
    refine q_istore (pc := 58) (ls' := [some (.ref 25), some (.ref 28), some (.int a2), some (.int a3), some (.int ((nI 63) + ((nI 5) * v40)))]) dX12_boxes_58 (by decide) rfl rfl ?_
    refine q_aload_n (pc := 60) dX12_boxes_60 rfl ?_
    refine q_iload (pc := 61) dX12_boxes_61 rfl ?_
    refine q_aload_n (pc := 63) dX12_boxes_63 rfl ?_
    refine q_iconst (pc := 64) (v := nI 0) dX12_boxes_64 (by decide) ?_
    obtain ⟨v42, h43, h⟩ := Option.bind_eq_some_iff.mp h
    refine q_iald (pc := 65) dX12_boxes_65 sh_28 h43 ?_
    obtain ⟨M44, h45, h⟩ := Option.bind_eq_some_iff.mp h
    refine q_iast (pc := 66) dX12_boxes_66 sh_28 h45 ?_
    refine q_aload_n (pc := 67) dX12_boxes_67 rfl ?_
    refine q_iload (pc := 68) dX12_boxes_68 rfl ?_
    refine q_iconst (pc := 70) (v := nI 1) dX12_boxes_70 (by decide) ?_
    refine q_iadd (pc := 71) dX12_boxes_71 ?_
    refine q_iload_n (pc := 72) dX12_boxes_72 rfl ?_
    obtain ⟨M46, h47, h⟩ := Option.bind_eq_some_iff.mp h
    refine q_iast (pc := 73) dX12_boxes_73 sh_28 h47 ?_
    refine q_aload_n (pc := 74) dX12_boxes_74 rfl ?_
    refine q_iload (pc := 75) dX12_boxes_75 rfl ?_
    refine q_iconst (pc := 77) (v := nI 2) dX12_boxes_77 (by decide) ?_
    refine q_iadd (pc := 78) dX12_boxes_78 ?_
    refine q_iload_n (pc := 79) dX12_boxes_79 rfl ?_
    obtain ⟨M48, h49, h⟩ := Option.bind_eq_some_iff.mp h
    refine q_iast (pc := 80) dX12_boxes_80 sh_28 h49 ?_
    refine q_aload_n (pc := 81) dX12_boxes_81 rfl ?_
    refine q_iload (pc := 82) dX12_boxes_82 rfl ?_
    refine q_iconst (pc := 84) (v := nI 3) dX12_boxes_84 (by decide) ?_
    refine q_iadd (pc := 85) dX12_boxes_85 ?_
    refine q_aload_n (pc := 86) dX12_boxes_86 rfl ?_
    refine q_aload_n (pc := 87) dX12_boxes_87 rfl ?_
    refine q_iload_n (pc := 88) dX12_boxes_88 rfl ?_
    refine q_iload_n (pc := 89) dX12_boxes_89 rfl ?_
    obtain ⟨r52, h51, h⟩ := Option.bind_eq_some_iff.mp h
    refine q_callv (pc := 90) (st := [.int (((nI 63) + ((nI 5) * v40)) + (nI 3)), .ref 28]) (a_X12_reasonOn_at25_28 h51) okX12_reasonOn rfl dX12_boxes_90 lk_X12_136 sh_25 cl_11 rfl (by decide) (by decide) (Nat.le_of_ble_eq_true rfl) ⟨Nat.le_of_ble_eq_true rfl, Nat.le_of_ble_eq_true rfl⟩ rfl ?_
    show QW G (qrm 3 0 0) YX12_boxes 0 0 93 [some (.ref 25), some (.ref 28), some (.int a2), some (.int a3), some (.int ((nI 63) + ((nI 5) * v40)))] [.int r52, .int (((nI 63) + ((nI 5) * v40)) + (nI 3)), .ref 28] SH M48 J _
    obtain ⟨M53, h54, h⟩ := Option.bind_eq_some_iff.mp h
    refine q_iast (pc := 93) dX12_boxes_93 sh_28 h54 ?_
    refine q_aload_n (pc := 94) dX12_boxes_94 rfl ?_
    refine q_iload (pc := 95) dX12_boxes_95 rfl ?_
    refine q_iconst (pc := 97) (v := nI 4) dX12_boxes_97 (by decide) ?_
    refine q_iadd (pc := 98) dX12_boxes_98 ?_
    refine q_aload_n (pc := 99) dX12_boxes_99 rfl ?_
    refine q_aload_n (pc := 100) dX12_boxes_100 rfl ?_
    refine q_iload_n (pc := 101) dX12_boxes_101 rfl ?_
    refine q_iload_n (pc := 102) dX12_boxes_102 rfl ?_
    obtain ⟨r57, h56, h⟩ := Option.bind_eq_some_iff.mp h
    refine q_callv (pc := 103) (st := [.int (((nI 63) + ((nI 5) * v40)) + (nI 4)), .ref 28]) (a_X12_strengthOn_at25_28 h56) okX12_strengthOn rfl dX12_boxes_103 lk_X12_144 sh_25 cl_11 rfl (by decide) (by decide) (Nat.le_of_ble_eq_true rfl) ⟨Nat.le_of_ble_eq_true rfl, Nat.le_of_ble_eq_true rfl⟩ rfl ?_
    show QW G (qrm 3 0 0) YX12_boxes 0 0 106 [some (.ref 25), some (.ref 28), some (.int a2), some (.int a3), some (.int ((nI 63) + ((nI 5) * v40)))] [.int r57, .int (((nI 63) + ((nI 5) * v40)) + (nI 4)), .ref 28] SH M53 J _
    obtain ⟨M58, h59, h⟩ := Option.bind_eq_some_iff.mp h
    refine q_iast (pc := 106) dX12_boxes_106 sh_28 h59 ?_
    refine q_aload_n (pc := 107) dX12_boxes_107 rfl ?_
    refine q_bipush (pc := 108) (v := nI 62) dX12_boxes_108 (by decide) ?_
    refine q_dup2 (pc := 110) dX12_boxes_110 rfl rfl ?_
    obtain ⟨v60, h61, h⟩ := Option.bind_eq_some_iff.mp h
    refine q_iald (pc := 111) dX12_boxes_111 sh_28 h61 ?_
    refine q_iconst (pc := 112) (v := nI 1) dX12_boxes_112 (by decide) ?_
    refine q_iadd (pc := 113) dX12_boxes_113 ?_
    obtain ⟨M62, h63, h⟩ := Option.bind_eq_some_iff.mp h
    refine q_iast (pc := 114) dX12_boxes_114 sh_28 h63 ?_
    obtain rfl := Option.some.inj h
    exact q_vret (pc := 115) dX12_boxes_115 rfl rfl rfl
def f_X12_stands_at25_28 (a2 : Int32) (a3 : Int32) (M : qM) : Option (Bool × qM) :=
  (f_X12_weds_at25_28 a2 a3 M).bind fun b3 => (f_X12_boxes_at25_28 a2 a3 M).bind fun M6 => if b3 = true then (qwr M6 28 163 ((nI 7) + a3) (nI 1)).bind fun M8 => if b3 = true then (f_X12_strengthOn_at25_28 a2 a3 M8).bind fun r13 => (qwr M8 28 163 ((nI 13) + a3) r13).bind fun M14 => (qrd M14 28 163 (nI 61)).bind fun v16 => (qwr M14 28 163 (nI 61) (v16 ||| ((nI 1) <<< (a2 &&& 31)))).bind fun M18 => some (b3, M18)
    else (qwr M8 28 163 ((nI 13) + a3) (-1 : Int32)).bind fun M20 => (qrd M20 28 163 (nI 61)).bind fun v22 => (qwr M20 28 163 (nI 61) (v22 ||| ((nI 1) <<< (a2 &&& 31)))).bind fun M24 => some (b3, M24)
    else (qwr M6 28 163 ((nI 7) + a3) (nI 2)).bind fun M26 => if b3 = true then (f_X12_strengthOn_at25_28 a2 a3 M26).bind fun r31 => (qwr M26 28 163 ((nI 13) + a3) r31).bind fun M32 => (qrd M32 28 163 (nI 61)).bind fun v34 => (qwr M32 28 163 (nI 61) (v34 ||| ((nI 1) <<< (a2 &&& 31)))).bind fun M36 => some (b3, M36)
    else (qwr M26 28 163 ((nI 13) + a3) (-1 : Int32)).bind fun M38 => (qrd M38 28 163 (nI 61)).bind fun v40 => (qwr M38 28 163 (nI 61) (v40 ||| ((nI 1) <<< (a2 &&& 31)))).bind fun M42 => some (b3, M42)
set_option maxRecDepth 20000 in
set_option maxHeartbeats 4000000 in
theorem a_X12_stands_at25_28 {G : qG} {a2 : Int32} {a3 : Int32} {M : qM} {J : qJ} {r : Bool} {M' : qM} (h : f_X12_stands_at25_28 a2 a3 M = some (r, M')) : QM G 5 0 0 YX12_stands [.ref 25, .ref 28, .int a2, .int a3] SH M J (some (.int (qb r)), SH, M', J) := by
  refine ⟨Nat.le_of_ble_eq_true rfl, Or.inr ⟨rfl, _, rfl⟩, ?_⟩
  show QW G (qrm 5 0 0) YX12_stands 0 0 0 [some (.ref 25), some (.ref 28), some (.int a2), some (.int a3), none] [] SH M J _
  unfold f_X12_stands_at25_28 at h
  refine q_aload_n (pc := 0) dX12_stands_0 rfl ?_
  refine q_aload_n (pc := 1) dX12_stands_1 rfl ?_
  refine q_iload_n (pc := 2) dX12_stands_2 rfl ?_
  refine q_iload_n (pc := 3) dX12_stands_3 rfl ?_
  obtain ⟨b3, h2, h⟩ := Option.bind_eq_some_iff.mp h
  refine q_callv (pc := 4) (st := []) (a_X12_weds_at25_28 h2) okX12_weds rfl dX12_stands_4 lk_X12_151 sh_25 cl_11 rfl (by decide) (by decide) (Nat.le_of_ble_eq_true rfl) ⟨Nat.le_of_ble_eq_true rfl, Nat.le_of_ble_eq_true rfl⟩ rfl ?_
  show QW G (qrm 5 0 0) YX12_stands 0 0 7 [some (.ref 25), some (.ref 28), some (.int a2), some (.int a3), none] [.int (qb b3)] SH M J _
  refine q_istore (pc := 7) (ls' := [some (.ref 25), some (.ref 28), some (.int a2), some (.int a3), some (.int (qb b3))]) dX12_stands_7 (by decide) rfl rfl ?_
  refine q_aload_n (pc := 9) dX12_stands_9 rfl ?_
  refine q_aload_n (pc := 10) dX12_stands_10 rfl ?_
  refine q_iload_n (pc := 11) dX12_stands_11 rfl ?_
  refine q_iload_n (pc := 12) dX12_stands_12 rfl ?_
  obtain ⟨M6, h5, h⟩ := Option.bind_eq_some_iff.mp h
  refine q_callv (pc := 13) (st := []) (a_X12_boxes_at25_28 h5) okX12_boxes rfl dX12_stands_13 lk_X12_185 sh_25 cl_11 rfl (by decide) (by decide) (Nat.le_of_ble_eq_true rfl) ⟨Nat.le_of_ble_eq_true rfl, Nat.le_of_ble_eq_true rfl⟩ rfl ?_
  show QW G (qrm 5 0 0) YX12_stands 0 0 16 [some (.ref 25), some (.ref 28), some (.int a2), some (.int a3), some (.int (qb b3))] [] SH M6 J _
  refine q_aload_n (pc := 16) dX12_stands_16 rfl ?_
  refine q_bipush (pc := 17) (v := nI 7) dX12_stands_17 (by decide) ?_
  refine q_iload_n (pc := 19) dX12_stands_19 rfl ?_
  refine q_iadd (pc := 20) dX12_stands_20 ?_
  refine q_iload (pc := 21) dX12_stands_21 rfl ?_
  by_cases k7 : b3 = true
  · rw [if_pos k7] at h
    refine q_if_eq_f (pc := 23) (tgt := 30) dX12_stands_23 (by decide) (qb_t k7) ?_
    refine q_iconst (pc := 26) (v := nI 1) dX12_stands_26 (by decide) ?_
    refine q_goto (pc := 27) (tgt := 31) dX12_stands_27 (by decide) ?_
    obtain ⟨M8, h9, h⟩ := Option.bind_eq_some_iff.mp h
    refine q_iast (pc := 31) dX12_stands_31 sh_28 h9 ?_
    refine q_aload_n (pc := 32) dX12_stands_32 rfl ?_
    refine q_bipush (pc := 33) (v := nI 13) dX12_stands_33 (by decide) ?_
    refine q_iload_n (pc := 35) dX12_stands_35 rfl ?_
    refine q_iadd (pc := 36) dX12_stands_36 ?_
    refine q_iload (pc := 37) dX12_stands_37 rfl ?_
    by_cases k10 : b3 = true
    · rw [if_pos k10] at h
      refine q_if_eq_f (pc := 39) (tgt := 52) dX12_stands_39 (by decide) (qb_t k10) ?_
      refine q_aload_n (pc := 42) dX12_stands_42 rfl ?_
      refine q_aload_n (pc := 43) dX12_stands_43 rfl ?_
      refine q_iload_n (pc := 44) dX12_stands_44 rfl ?_
      refine q_iload_n (pc := 45) dX12_stands_45 rfl ?_
      obtain ⟨r13, h12, h⟩ := Option.bind_eq_some_iff.mp h
      refine q_callv (pc := 46) (st := [.int ((nI 13) + a3), .ref 28]) (a_X12_strengthOn_at25_28 h12) okX12_strengthOn rfl dX12_stands_46 lk_X12_144 sh_25 cl_11 rfl (by decide) (by decide) (Nat.le_of_ble_eq_true rfl) ⟨Nat.le_of_ble_eq_true rfl, Nat.le_of_ble_eq_true rfl⟩ rfl ?_
      show QW G (qrm 5 0 0) YX12_stands 0 0 49 [some (.ref 25), some (.ref 28), some (.int a2), some (.int a3), some (.int (qb b3))] [.int r13, .int ((nI 13) + a3), .ref 28] SH M8 J _
      refine q_goto (pc := 49) (tgt := 53) dX12_stands_49 (by decide) ?_
      obtain ⟨M14, h15, h⟩ := Option.bind_eq_some_iff.mp h
      refine q_iast (pc := 53) dX12_stands_53 sh_28 h15 ?_
      refine q_aload_n (pc := 54) dX12_stands_54 rfl ?_
      refine q_bipush (pc := 55) (v := nI 61) dX12_stands_55 (by decide) ?_
      refine q_dup2 (pc := 57) dX12_stands_57 rfl rfl ?_
      obtain ⟨v16, h17, h⟩ := Option.bind_eq_some_iff.mp h
      refine q_iald (pc := 58) dX12_stands_58 sh_28 h17 ?_
      refine q_iconst (pc := 59) (v := nI 1) dX12_stands_59 (by decide) ?_
      refine q_iload_n (pc := 60) dX12_stands_60 rfl ?_
      refine q_ishl (pc := 61) dX12_stands_61 ?_
      refine q_ior (pc := 62) dX12_stands_62 ?_
      obtain ⟨M18, h19, h⟩ := Option.bind_eq_some_iff.mp h
      refine q_iast (pc := 63) dX12_stands_63 sh_28 h19 ?_
      refine q_iload (pc := 64) dX12_stands_64 rfl ?_
      have h := Option.some.inj h
      obtain ⟨rfl, rfl⟩ := Prod.mk.inj h
      exact q_iret (pc := 66) dX12_stands_66 rfl rfl rfl
    · rw [if_neg k10] at h
      refine q_if_eq_t (pc := 39) (tgt := 52) dX12_stands_39 (by decide) (qb_f k10) ?_
      refine q_iconst (pc := 52) (v := (-1 : Int32)) dX12_stands_52 (by decide) ?_
      obtain ⟨M20, h21, h⟩ := Option.bind_eq_some_iff.mp h
      refine q_iast (pc := 53) dX12_stands_53 sh_28 h21 ?_
      refine q_aload_n (pc := 54) dX12_stands_54 rfl ?_
      refine q_bipush (pc := 55) (v := nI 61) dX12_stands_55 (by decide) ?_
      refine q_dup2 (pc := 57) dX12_stands_57 rfl rfl ?_
      obtain ⟨v22, h23, h⟩ := Option.bind_eq_some_iff.mp h
      refine q_iald (pc := 58) dX12_stands_58 sh_28 h23 ?_
      refine q_iconst (pc := 59) (v := nI 1) dX12_stands_59 (by decide) ?_
      refine q_iload_n (pc := 60) dX12_stands_60 rfl ?_
      refine q_ishl (pc := 61) dX12_stands_61 ?_
      refine q_ior (pc := 62) dX12_stands_62 ?_
      obtain ⟨M24, h25, h⟩ := Option.bind_eq_some_iff.mp h
      refine q_iast (pc := 63) dX12_stands_63 sh_28 h25 ?_
      refine q_iload (pc := 64) dX12_stands_64 rfl ?_
      have h := Option.some.inj h
      obtain ⟨rfl, rfl⟩ := Prod.mk.inj h
      exact q_iret (pc := 66) dX12_stands_66 rfl rfl rfl
  · rw [if_neg k7] at h
    refine q_if_eq_t (pc := 23) (tgt := 30) dX12_stands_23 (by decide) (qb_f k7) ?_
    refine q_iconst (pc := 30) (v := nI 2) dX12_stands_30 (by decide) ?_
    obtain ⟨M26, h27, h⟩ := Option.bind_eq_some_iff.mp h
    refine q_iast (pc := 31) dX12_stands_31 sh_28 h27 ?_
    refine q_aload_n (pc := 32) dX12_stands_32 rfl ?_
    refine q_bipush (pc := 33) (v := nI 13) dX12_stands_33 (by decide) ?_
    refine q_iload_n (pc := 35) dX12_stands_35 rfl ?_
    refine q_iadd (pc := 36) dX12_stands_36 ?_
    refine q_iload (pc := 37) dX12_stands_37 rfl ?_
    by_cases k28 : b3 = true
    · rw [if_pos k28] at h
      refine q_if_eq_f (pc := 39) (tgt := 52) dX12_stands_39 (by decide) (qb_t k28) ?_
      refine q_aload_n (pc := 42) dX12_stands_42 rfl ?_
      refine q_aload_n (pc := 43) dX12_stands_43 rfl ?_
      refine q_iload_n (pc := 44) dX12_stands_44 rfl ?_
      refine q_iload_n (pc := 45) dX12_stands_45 rfl ?_
      obtain ⟨r31, h30, h⟩ := Option.bind_eq_some_iff.mp h
      refine q_callv (pc := 46) (st := [.int ((nI 13) + a3), .ref 28]) (a_X12_strengthOn_at25_28 h30) okX12_strengthOn rfl dX12_stands_46 lk_X12_144 sh_25 cl_11 rfl (by decide) (by decide) (Nat.le_of_ble_eq_true rfl) ⟨Nat.le_of_ble_eq_true rfl, Nat.le_of_ble_eq_true rfl⟩ rfl ?_
      show QW G (qrm 5 0 0) YX12_stands 0 0 49 [some (.ref 25), some (.ref 28), some (.int a2), some (.int a3), some (.int (qb b3))] [.int r31, .int ((nI 13) + a3), .ref 28] SH M26 J _
      refine q_goto (pc := 49) (tgt := 53) dX12_stands_49 (by decide) ?_
      obtain ⟨M32, h33, h⟩ := Option.bind_eq_some_iff.mp h
      refine q_iast (pc := 53) dX12_stands_53 sh_28 h33 ?_
      refine q_aload_n (pc := 54) dX12_stands_54 rfl ?_
      refine q_bipush (pc := 55) (v := nI 61) dX12_stands_55 (by decide) ?_
      refine q_dup2 (pc := 57) dX12_stands_57 rfl rfl ?_
      obtain ⟨v34, h35, h⟩ := Option.bind_eq_some_iff.mp h
      refine q_iald (pc := 58) dX12_stands_58 sh_28 h35 ?_
      refine q_iconst (pc := 59) (v := nI 1) dX12_stands_59 (by decide) ?_
      refine q_iload_n (pc := 60) dX12_stands_60 rfl ?_
      refine q_ishl (pc := 61) dX12_stands_61 ?_
      refine q_ior (pc := 62) dX12_stands_62 ?_
      obtain ⟨M36, h37, h⟩ := Option.bind_eq_some_iff.mp h
      refine q_iast (pc := 63) dX12_stands_63 sh_28 h37 ?_
      refine q_iload (pc := 64) dX12_stands_64 rfl ?_
      have h := Option.some.inj h
      obtain ⟨rfl, rfl⟩ := Prod.mk.inj h
      exact q_iret (pc := 66) dX12_stands_66 rfl rfl rfl
    · rw [if_neg k28] at h
      refine q_if_eq_t (pc := 39) (tgt := 52) dX12_stands_39 (by decide) (qb_f k28) ?_
      refine q_iconst (pc := 52) (v := (-1 : Int32)) dX12_stands_52 (by decide) ?_
      obtain ⟨M38, h39, h⟩ := Option.bind_eq_some_iff.mp h
      refine q_iast (pc := 53) dX12_stands_53 sh_28 h39 ?_
      refine q_aload_n (pc := 54) dX12_stands_54 rfl ?_
      refine q_bipush (pc := 55) (v := nI 61) dX12_stands_55 (by decide) ?_
      refine q_dup2 (pc := 57) dX12_stands_57 rfl rfl ?_
      obtain ⟨v40, h41, h⟩ := Option.bind_eq_some_iff.mp h
      refine q_iald (pc := 58) dX12_stands_58 sh_28 h41 ?_
      refine q_iconst (pc := 59) (v := nI 1) dX12_stands_59 (by decide) ?_
      refine q_iload_n (pc := 60) dX12_stands_60 rfl ?_
      refine q_ishl (pc := 61) dX12_stands_61 ?_
      refine q_ior (pc := 62) dX12_stands_62 ?_
      obtain ⟨M42, h43, h⟩ := Option.bind_eq_some_iff.mp h
      refine q_iast (pc := 63) dX12_stands_63 sh_28 h43 ?_
      refine q_iload (pc := 64) dX12_stands_64 rfl ?_
      have h := Option.some.inj h
      obtain ⟨rfl, rfl⟩ := Prod.mk.inj h
      exact q_iret (pc := 66) dX12_stands_66 rfl rfl rfl
def f_X12_stand (a1 : Int32) (a2 : Int32) (M : qM) : Option (Int32 × qM) :=
  (f_X12_isObjector a1 M).bind fun b3 => if b3 = true then (f_X12_isCouple a2 M).bind fun b7 => if b7 = true then (f_X12_mayStand a1 a2 M).bind fun b11 => if b11 = true then (f_X12_remember M).bind fun M15 => (f_X12_stands_at25_28 a1 a2 M15).bind fun p16 => if p16.1 = true then some (nI 1, p16.2)
    else some (nI 0, p16.2)
    else some ((-1000000003 : Int32), M)
    else some ((-1000000001 : Int32), M)
    else some ((-1000000001 : Int32), M)
set_option maxRecDepth 20000 in
set_option maxHeartbeats 4000000 in
theorem a_X12_stand {G : qG} {a1 : Int32} {a2 : Int32} {M : qM} {J : qJ} {r : Int32} {M' : qM} (h : f_X12_stand a1 a2 M = some (r, M')) : QM G 6 0 0 YX12_stand [.ref 25, .int a1, .int a2] SH M J (some (.int r), SH, M', J) := by
  refine ⟨Nat.le_of_ble_eq_true rfl, Or.inl rfl, ?_⟩
  show QW G (qrm 6 0 0) YX12_stand 0 0 0 [some (.ref 25), some (.int a1), some (.int a2)] [] SH M J _
  unfold f_X12_stand at h
  refine q_aload_n (pc := 0) dX12_stand_0 rfl ?_
  refine q_iload_n (pc := 1) dX12_stand_1 rfl ?_
  obtain ⟨b3, h2, h⟩ := Option.bind_eq_some_iff.mp h
  refine q_callv (pc := 2) (st := []) (a_X12_isObjector h2) okX12_isObjector rfl dX12_stand_2 lk_X12_180 sh_25 cl_11 rfl (by decide) (by decide) (Nat.le_of_ble_eq_true rfl) ⟨Nat.le_of_ble_eq_true rfl, Nat.le_of_ble_eq_true rfl⟩ rfl ?_
  show QW G (qrm 6 0 0) YX12_stand 0 0 5 [some (.ref 25), some (.int a1), some (.int a2)] [.int (qb b3)] SH M J _
  by_cases k4 : b3 = true
  · rw [if_pos k4] at h
    refine q_if_eq_f (pc := 5) (tgt := 16) dX12_stand_5 (by decide) (qb_t k4) ?_
    refine q_aload_n (pc := 8) dX12_stand_8 rfl ?_
    refine q_iload_n (pc := 9) dX12_stand_9 rfl ?_
    obtain ⟨b7, h6, h⟩ := Option.bind_eq_some_iff.mp h
    refine q_callv (pc := 10) (st := []) (a_X12_isCouple h6) okX12_isCouple rfl dX12_stand_10 lk_X12_173 sh_25 cl_11 rfl (by decide) (by decide) (Nat.le_of_ble_eq_true rfl) ⟨Nat.le_of_ble_eq_true rfl, Nat.le_of_ble_eq_true rfl⟩ rfl ?_
    show QW G (qrm 6 0 0) YX12_stand 0 0 13 [some (.ref 25), some (.int a1), some (.int a2)] [.int (qb b7)] SH M J _
    by_cases k8 : b7 = true
    · rw [if_pos k8] at h
      refine q_if_ne_t (pc := 13) (tgt := 19) dX12_stand_13 (by decide) (qb_t k8) ?_
      refine q_aload_n (pc := 19) dX12_stand_19 rfl ?_
      refine q_iload_n (pc := 20) dX12_stand_20 rfl ?_
      refine q_iload_n (pc := 21) dX12_stand_21 rfl ?_
      obtain ⟨b11, h10, h⟩ := Option.bind_eq_some_iff.mp h
      refine q_callv (pc := 22) (st := []) (a_X12_mayStand h10) okX12_mayStand rfl dX12_stand_22 lk_X12_189 sh_25 cl_11 rfl (by decide) (by decide) (Nat.le_of_ble_eq_true rfl) ⟨Nat.le_of_ble_eq_true rfl, Nat.le_of_ble_eq_true rfl⟩ rfl ?_
      show QW G (qrm 6 0 0) YX12_stand 0 0 25 [some (.ref 25), some (.int a1), some (.int a2)] [.int (qb b11)] SH M J _
      by_cases k12 : b11 = true
      · rw [if_pos k12] at h
        refine q_if_ne_t (pc := 25) (tgt := 31) dX12_stand_25 (by decide) (qb_t k12) ?_
        refine q_aload_n (pc := 31) dX12_stand_31 rfl ?_
        obtain ⟨M15, h14, h⟩ := Option.bind_eq_some_iff.mp h
        refine q_callv (pc := 32) (st := []) (a_X12_remember h14) okX12_remember rfl dX12_stand_32 lk_X12_193 sh_25 cl_11 rfl (by decide) (by decide) (Nat.le_of_ble_eq_true rfl) ⟨Nat.le_of_ble_eq_true rfl, Nat.le_of_ble_eq_true rfl⟩ rfl ?_
        show QW G (qrm 6 0 0) YX12_stand 0 0 35 [some (.ref 25), some (.int a1), some (.int a2)] [] SH M15 J _
        refine q_aload_n (pc := 35) dX12_stand_35 rfl ?_
        refine q_aload_n (pc := 36) dX12_stand_36 rfl ?_
        refine q_getf (pc := 37) (f := 2) (v := .ref 28) dX12_stand_37 sh_25 cl_11 inX12 rfl (by decide) lk_X12_16 rfl ?_
        refine q_iload_n (pc := 40) dX12_stand_40 rfl ?_
        refine q_iload_n (pc := 41) dX12_stand_41 rfl ?_
        obtain ⟨⟨b18, M19⟩, h17, h⟩ := Option.bind_eq_some_iff.mp h
        try dsimp only at h
        refine q_callv (pc := 42) (st := []) (a_X12_stands_at25_28 h17) okX12_stands rfl dX12_stand_42 lk_X12_196 sh_25 cl_11 rfl (by decide) (by decide) (Nat.le_of_ble_eq_true rfl) ⟨Nat.le_of_ble_eq_true rfl, Nat.le_of_ble_eq_true rfl⟩ rfl ?_
        show QW G (qrm 6 0 0) YX12_stand 0 0 45 [some (.ref 25), some (.int a1), some (.int a2)] [.int (qb b18)] SH M19 J _
        by_cases k20 : b18 = true
        · rw [if_pos k20] at h
          refine q_if_eq_f (pc := 45) (tgt := 52) dX12_stand_45 (by decide) (qb_t k20) ?_
          refine q_iconst (pc := 48) (v := nI 1) dX12_stand_48 (by decide) ?_
          refine q_goto (pc := 49) (tgt := 53) dX12_stand_49 (by decide) ?_
          have h := Option.some.inj h
          obtain ⟨rfl, rfl⟩ := Prod.mk.inj h
          exact q_iret (pc := 53) dX12_stand_53 rfl rfl rfl
        · rw [if_neg k20] at h
          refine q_if_eq_t (pc := 45) (tgt := 52) dX12_stand_45 (by decide) (qb_f k20) ?_
          refine q_iconst (pc := 52) (v := nI 0) dX12_stand_52 (by decide) ?_
          have h := Option.some.inj h
          obtain ⟨rfl, rfl⟩ := Prod.mk.inj h
          exact q_iret (pc := 53) dX12_stand_53 rfl rfl rfl
      · rw [if_neg k12] at h
        refine q_if_ne_f (pc := 25) (tgt := 31) dX12_stand_25 (by decide) (qb_f k12) ?_
        refine q_ldc (pc := 28) (v := (-1000000003 : Int32)) dX12_stand_28 lk_X12_192 ?_
        have h := Option.some.inj h
        obtain ⟨rfl, rfl⟩ := Prod.mk.inj h
        exact q_iret (pc := 30) dX12_stand_30 rfl rfl rfl
    · rw [if_neg k8] at h
      refine q_if_ne_f (pc := 13) (tgt := 19) dX12_stand_13 (by decide) (qb_f k8) ?_
      refine q_ldc (pc := 16) (v := (-1000000001 : Int32)) dX12_stand_16 lk_X12_176 ?_
      have h := Option.some.inj h
      obtain ⟨rfl, rfl⟩ := Prod.mk.inj h
      exact q_iret (pc := 18) dX12_stand_18 rfl rfl rfl
  · rw [if_neg k4] at h
    refine q_if_eq_t (pc := 5) (tgt := 16) dX12_stand_5 (by decide) (qb_f k4) ?_
    refine q_ldc (pc := 16) (v := (-1000000001 : Int32)) dX12_stand_16 lk_X12_176 ?_
    have h := Option.some.inj h
    obtain ⟨rfl, rfl⟩ := Prod.mk.inj h
    exact q_iret (pc := 18) dX12_stand_18 rfl rfl rfl
def f_X12_refuses (a1 : Int32) (M : qM) : Option Int32 :=
  (f_X12_in a1.toInt64 (lN 1) (lN 60) M).bind fun b3 => if b3 = true then (qrd M 26 57 (nI 0)).bind fun v5 => if v5 = 0 then some ((-1000000003 : Int32))
    else (qrd M 28 163 (nI 0)).bind fun v8 => if v8 ≤ (nI 9000) then some (nI 0)
    else some ((-1000000004 : Int32))
    else some ((-1000000002 : Int32))
set_option maxRecDepth 20000 in
set_option maxHeartbeats 4000000 in
theorem a_X12_refuses {G : qG} {a1 : Int32} {M : qM} {J : qJ} {r : Int32} (h : f_X12_refuses a1 M = some (r)) : QM G 1 0 0 YX12_refuses [.ref 25, .int a1] SH M J (some (.int r), SH, M, J) := by
  refine ⟨Nat.le_of_ble_eq_true rfl, Or.inl rfl, ?_⟩
  show QW G (qrm 1 0 0) YX12_refuses 0 0 0 [some (.ref 25), some (.int a1)] [] SH M J _
  unfold f_X12_refuses at h
  refine q_iload_n (pc := 0) dX12_refuses_0 rfl ?_
  refine q_i2l (pc := 1) dX12_refuses_1 ?_
  refine q_lconst (pc := 2) (v := lN 1) dX12_refuses_2 rfl ?_
  refine q_ldc2 (pc := 3) (v := lN 60) dX12_refuses_3 lk_X12_203 ?_
  obtain ⟨b3, h2, h⟩ := Option.bind_eq_some_iff.mp h
  refine q_calls (pc := 6) (st := []) (a_X12_in h2) okX12_in rfl dX12_refuses_6 lk_X12_58 rfl (by decide) (by decide) (Nat.le_of_ble_eq_true rfl) ⟨Nat.le_of_ble_eq_true rfl, Nat.le_of_ble_eq_true rfl⟩ rfl ?_
  show QW G (qrm 1 0 0) YX12_refuses 0 0 9 [some (.ref 25), some (.int a1)] [.int (qb b3)] SH M J _
  by_cases k4 : b3 = true
  · rw [if_pos k4] at h
    refine q_if_ne_t (pc := 9) (tgt := 15) dX12_refuses_9 (by decide) (qb_t k4) ?_
    refine q_aload_n (pc := 15) dX12_refuses_15 rfl ?_
    refine q_getf (pc := 16) (f := 0) (v := .ref 26) dX12_refuses_16 sh_25 cl_11 inX12 rfl (by decide) lk_X12_7 rfl ?_
    refine q_iconst (pc := 19) (v := nI 0) dX12_refuses_19 (by decide) ?_
    obtain ⟨v5, h6, h⟩ := Option.bind_eq_some_iff.mp h
    refine q_iald (pc := 20) dX12_refuses_20 sh_26 h6 ?_
    by_cases k7 : v5 = 0
    · rw [if_pos k7] at h
      refine q_if_ne_f (pc := 21) (tgt := 29) dX12_refuses_21 (by decide) k7 ?_
      refine q_ldc (pc := 24) (v := (-1000000003 : Int32)) dX12_refuses_24 lk_X12_192 ?_
      refine q_goto (pc := 26) (tgt := 47) dX12_refuses_26 (by decide) ?_
      obtain rfl := Option.some.inj h
      exact q_iret (pc := 47) dX12_refuses_47 rfl rfl rfl
    · rw [if_neg k7] at h
      refine q_if_ne_t (pc := 21) (tgt := 29) dX12_refuses_21 (by decide) k7 ?_
      refine q_aload_n (pc := 29) dX12_refuses_29 rfl ?_
      refine q_getf (pc := 30) (f := 2) (v := .ref 28) dX12_refuses_30 sh_25 cl_11 inX12 rfl (by decide) lk_X12_16 rfl ?_
      refine q_iconst (pc := 33) (v := nI 0) dX12_refuses_33 (by decide) ?_
      obtain ⟨v8, h9, h⟩ := Option.bind_eq_some_iff.mp h
      refine q_iald (pc := 34) dX12_refuses_34 sh_28 h9 ?_
      refine q_sipush (pc := 35) (v := nI 9000) dX12_refuses_35 (by decide) ?_
      by_cases k10 : v8 ≤ (nI 9000)
      · rw [if_pos k10] at h
        refine q_icmp_le_t (pc := 38) (tgt := 46) dX12_refuses_38 (by decide) k10 ?_
        refine q_iconst (pc := 46) (v := nI 0) dX12_refuses_46 (by decide) ?_
        obtain rfl := Option.some.inj h
        exact q_iret (pc := 47) dX12_refuses_47 rfl rfl rfl
      · rw [if_neg k10] at h
        refine q_icmp_le_f (pc := 38) (tgt := 46) dX12_refuses_38 (by decide) k10 ?_
        refine q_ldc (pc := 41) (v := (-1000000004 : Int32)) dX12_refuses_41 lk_X12_81 ?_
        refine q_goto (pc := 43) (tgt := 47) dX12_refuses_43 (by decide) ?_
        obtain rfl := Option.some.inj h
        exact q_iret (pc := 47) dX12_refuses_47 rfl rfl rfl
  · rw [if_neg k4] at h
    refine q_if_ne_f (pc := 9) (tgt := 15) dX12_refuses_9 (by decide) (qb_f k4) ?_
    refine q_ldc (pc := 12) (v := (-1000000002 : Int32)) dX12_refuses_12 lk_X12_77 ?_
    obtain rfl := Option.some.inj h
    exact q_iret (pc := 14) dX12_refuses_14 rfl rfl rfl
def f_X12_lesser (a0 : Int32) (a1 : Int32) (M : qM) : Option Int32 :=
  if a1 ≤ a0 then some (a1)
    else some (a0)
set_option maxRecDepth 20000 in
set_option maxHeartbeats 4000000 in
theorem a_X12_lesser {G : qG} {a0 : Int32} {a1 : Int32} {M : qM} {J : qJ} {r : Int32} (h : f_X12_lesser a0 a1 M = some (r)) : QM G 0 0 0 YX12_lesser [.int a0, .int a1] SH M J (some (.int r), SH, M, J) := by
  refine ⟨Nat.le_of_ble_eq_true rfl, Or.inl rfl, ?_⟩
  show QW G (qrm 0 0 0) YX12_lesser 0 0 0 [some (.int a0), some (.int a1)] [] SH M J _
  unfold f_X12_lesser at h
  refine q_iload_n (pc := 0) dX12_lesser_0 rfl ?_
  refine q_iload_n (pc := 1) dX12_lesser_1 rfl ?_
  by_cases k1 : a1 ≤ a0
  · rw [if_pos k1] at h
    refine q_icmp_ge_t (pc := 2) (tgt := 9) dX12_lesser_2 (by decide) k1 ?_
    refine q_iload_n (pc := 9) dX12_lesser_9 rfl ?_
    obtain rfl := Option.some.inj h
    exact q_iret (pc := 10) dX12_lesser_10 rfl rfl rfl
  · rw [if_neg k1] at h
    refine q_icmp_ge_f (pc := 2) (tgt := 9) dX12_lesser_2 (by decide) k1 ?_
    refine q_iload_n (pc := 5) dX12_lesser_5 rfl ?_
    refine q_goto (pc := 6) (tgt := 10) dX12_lesser_6 (by decide) ?_
    obtain rfl := Option.some.inj h
    exact q_iret (pc := 10) dX12_lesser_10 rfl rfl rfl
def f_X12_yearGoes_at25_28_L2  : Nat → Int32 → qM → Option (Int32 × qM)
  | 0, _, _ => none
  | n + 1, c2, M =>
  (qrd M 26 57 (nI 1)).bind fun v1 => if v1 ≤ c2 then some (c2, M)
    else (qrd M 28 163 ((nI 7) + c2)).bind fun v4 => if v4 = 0 then (qrd M 28 163 ((nI 1) + c2)).bind fun v7 => (f_X12_lesser (nI 99) (v7 + (nI 1)) M).bind fun r11 => (qwr M 28 163 ((nI 1) + c2) r11).bind fun M12 => f_X12_yearGoes_at25_28_L2  n (c2 + nI 1) M12
    else (qrd M 28 163 ((nI 1) + c2)).bind fun v14 => (qwr M 28 163 ((nI 1) + c2) v14).bind fun M16 => f_X12_yearGoes_at25_28_L2  n (c2 + nI 1) M16
set_option maxRecDepth 20000 in
set_option maxHeartbeats 4000000 in
theorem l_X12_yearGoes_at25_28_L2 {G : qG} {ρ : qR}  (J : qJ) : ∀ (n : Nat) (c2 : Int32) (M : qM) (res : Int32 × qM), f_X12_yearGoes_at25_28_L2  n c2 M = some res → (∀ x : Int32 × qM, res = x → QW G (qrm 1 0 0) YX12_yearGoes 0 0 52 [some (.ref 25), some (.ref 28), none] [] SH x.2 J ρ) → QW G (qrm 1 0 0) YX12_yearGoes 0 0 2 [some (.ref 25), some (.ref 28), some (.int c2)] [] SH M J ρ
  | 0, _, _, _, h, _ => by simp [f_X12_yearGoes_at25_28_L2] at h
  | n + 1, c2, M, res, h, hk => by
    rw [f_X12_yearGoes_at25_28_L2] at h
    refine q_iload_n (pc := 2) dX12_yearGoes_2 rfl ?_
    refine q_aload_n (pc := 3) dX12_yearGoes_3 rfl ?_
    refine q_getf (pc := 4) (f := 0) (v := .ref 26) dX12_yearGoes_4 sh_25 cl_11 inX12 rfl (by decide) lk_X12_7 rfl ?_
    refine q_iconst (pc := 7) (v := nI 1) dX12_yearGoes_7 (by decide) ?_
    obtain ⟨v1, h2, h⟩ := Option.bind_eq_some_iff.mp h
    refine q_iald (pc := 8) dX12_yearGoes_8 sh_26 h2 ?_
    by_cases k3 : v1 ≤ c2
    · rw [if_pos k3] at h
      refine q_icmp_ge_t (pc := 9) (tgt := 52) dX12_yearGoes_9 (by decide) k3 ?_
      refine q_weak (ls' := [some (.ref 25), some (.ref 28), none]) ⟨rfl, ⟨rfl, trivial⟩⟩ ?_
      obtain rfl := Option.some.inj h
      exact hk (c2, M) rfl
    · rw [if_neg k3] at h
      refine q_icmp_ge_f (pc := 9) (tgt := 52) dX12_yearGoes_9 (by decide) k3 ?_
      refine q_aload_n (pc := 12) dX12_yearGoes_12 rfl ?_
      refine q_iconst (pc := 13) (v := nI 1) dX12_yearGoes_13 (by decide) ?_
      refine q_iload_n (pc := 14) dX12_yearGoes_14 rfl ?_
      refine q_iadd (pc := 15) dX12_yearGoes_15 ?_
      refine q_aload_n (pc := 16) dX12_yearGoes_16 rfl ?_
      refine q_bipush (pc := 17) (v := nI 7) dX12_yearGoes_17 (by decide) ?_
      refine q_iload_n (pc := 19) dX12_yearGoes_19 rfl ?_
      refine q_iadd (pc := 20) dX12_yearGoes_20 ?_
      obtain ⟨v4, h5, h⟩ := Option.bind_eq_some_iff.mp h
      refine q_iald (pc := 21) dX12_yearGoes_21 sh_28 h5 ?_
      by_cases k6 : v4 = 0
      · rw [if_pos k6] at h
        refine q_if_ne_f (pc := 22) (tgt := 40) dX12_yearGoes_22 (by decide) k6 ?_
        refine q_bipush (pc := 25) (v := nI 99) dX12_yearGoes_25 (by decide) ?_
        refine q_aload_n (pc := 27) dX12_yearGoes_27 rfl ?_
        refine q_iconst (pc := 28) (v := nI 1) dX12_yearGoes_28 (by decide) ?_
        refine q_iload_n (pc := 29) dX12_yearGoes_29 rfl ?_
        refine q_iadd (pc := 30) dX12_yearGoes_30 ?_
        obtain ⟨v7, h8, h⟩ := Option.bind_eq_some_iff.mp h
        refine q_iald (pc := 31) dX12_yearGoes_31 sh_28 h8 ?_
        refine q_iconst (pc := 32) (v := nI 1) dX12_yearGoes_32 (by decide) ?_
        refine q_iadd (pc := 33) dX12_yearGoes_33 ?_
        obtain ⟨r11, h10, h⟩ := Option.bind_eq_some_iff.mp h
        refine q_calls (pc := 34) (st := [.int ((nI 1) + c2), .ref 28]) (a_X12_lesser h10) okX12_lesser rfl dX12_yearGoes_34 lk_X12_199 rfl (by decide) (by decide) (Nat.le_of_ble_eq_true rfl) ⟨Nat.le_of_ble_eq_true rfl, Nat.le_of_ble_eq_true rfl⟩ rfl ?_
        show QW G (qrm 1 0 0) YX12_yearGoes 0 0 37 [some (.ref 25), some (.ref 28), some (.int c2)] [.int r11, .int ((nI 1) + c2), .ref 28] SH M J _
        refine q_goto (pc := 37) (tgt := 45) dX12_yearGoes_37 (by decide) ?_
        obtain ⟨M12, h13, h⟩ := Option.bind_eq_some_iff.mp h
        refine q_iast (pc := 45) dX12_yearGoes_45 sh_28 h13 ?_
        refine q_iincW (pc := 46) (w := nI 1) (ls' := [some (.ref 25), some (.ref 28), some (.int (c2 + nI 1))]) dX12_yearGoes_46 rfl (by decide) (by decide) rfl rfl ?_
        refine q_goto (pc := 49) (tgt := 2) dX12_yearGoes_49 (by decide) ?_
        exact l_X12_yearGoes_at25_28_L2  J n (c2 + nI 1) M12 res h hk
      · rw [if_neg k6] at h
        refine q_if_ne_t (pc := 22) (tgt := 40) dX12_yearGoes_22 (by decide) k6 ?_
        refine q_aload_n (pc := 40) dX12_yearGoes_40 rfl ?_
        refine q_iconst (pc := 41) (v := nI 1) dX12_yearGoes_41 (by decide) ?_
        refine q_iload_n (pc := 42) dX12_yearGoes_42 rfl ?_
        refine q_iadd (pc := 43) dX12_yearGoes_43 ?_
        obtain ⟨v14, h15, h⟩ := Option.bind_eq_some_iff.mp h
        refine q_iald (pc := 44) dX12_yearGoes_44 sh_28 h15 ?_
        obtain ⟨M16, h17, h⟩ := Option.bind_eq_some_iff.mp h
        refine q_iast (pc := 45) dX12_yearGoes_45 sh_28 h17 ?_
        refine q_iincW (pc := 46) (w := nI 1) (ls' := [some (.ref 25), some (.ref 28), some (.int (c2 + nI 1))]) dX12_yearGoes_46 rfl (by decide) (by decide) rfl rfl ?_
        refine q_goto (pc := 49) (tgt := 2) dX12_yearGoes_49 (by decide) ?_
        exact l_X12_yearGoes_at25_28_L2  J n (c2 + nI 1) M16 res h hk
def f_X12_yearGoes_at25_28_L54  : Nat → Int32 → qM → Option (Int32 × qM)
  | 0, _, _ => none
  | n + 1, c2, M =>
  (qrd M 26 57 (nI 2)).bind fun v20 => if v20 ≤ c2 then some (c2, M)
    else (qrd M 26 57 ((nI 39) + c2)).bind fun v23 => if v23 = 0 then (qrd M 28 163 ((nI 49) + c2)).bind fun v26 => (f_X12_lesser (nI 40) (v26 + (nI 1)) M).bind fun r30 => (qwr M 28 163 ((nI 49) + c2) r30).bind fun M31 => f_X12_yearGoes_at25_28_L54  n (c2 + nI 1) M31
    else (qrd M 28 163 ((nI 49) + c2)).bind fun v33 => (qwr M 28 163 ((nI 49) + c2) v33).bind fun M35 => f_X12_yearGoes_at25_28_L54  n (c2 + nI 1) M35
set_option maxRecDepth 20000 in
set_option maxHeartbeats 4000000 in
theorem l_X12_yearGoes_at25_28_L54 {G : qG} {ρ : qR}  (J : qJ) : ∀ (n : Nat) (c2 : Int32) (M : qM) (res : Int32 × qM), f_X12_yearGoes_at25_28_L54  n c2 M = some res → (∀ x : Int32 × qM, res = x → QW G (qrm 1 0 0) YX12_yearGoes 0 0 110 [none, some (.ref 28), none] [] SH x.2 J ρ) → QW G (qrm 1 0 0) YX12_yearGoes 0 0 54 [some (.ref 25), some (.ref 28), some (.int c2)] [] SH M J ρ
  | 0, _, _, _, h, _ => by simp [f_X12_yearGoes_at25_28_L54] at h
  | n + 1, c2, M, res, h, hk => by
    rw [f_X12_yearGoes_at25_28_L54] at h
    refine q_iload_n (pc := 54) dX12_yearGoes_54 rfl ?_
    refine q_aload_n (pc := 55) dX12_yearGoes_55 rfl ?_
    refine q_getf (pc := 56) (f := 0) (v := .ref 26) dX12_yearGoes_56 sh_25 cl_11 inX12 rfl (by decide) lk_X12_7 rfl ?_
    refine q_iconst (pc := 59) (v := nI 2) dX12_yearGoes_59 (by decide) ?_
    obtain ⟨v20, h21, h⟩ := Option.bind_eq_some_iff.mp h
    refine q_iald (pc := 60) dX12_yearGoes_60 sh_26 h21 ?_
    by_cases k22 : v20 ≤ c2
    · rw [if_pos k22] at h
      refine q_icmp_ge_t (pc := 61) (tgt := 110) dX12_yearGoes_61 (by decide) k22 ?_
      refine q_weak (ls' := [none, some (.ref 28), none]) ⟨rfl, trivial⟩ ?_
      obtain rfl := Option.some.inj h
      exact hk (c2, M) rfl
    · rw [if_neg k22] at h
      refine q_icmp_ge_f (pc := 61) (tgt := 110) dX12_yearGoes_61 (by decide) k22 ?_
      refine q_aload_n (pc := 64) dX12_yearGoes_64 rfl ?_
      refine q_bipush (pc := 65) (v := nI 49) dX12_yearGoes_65 (by decide) ?_
      refine q_iload_n (pc := 67) dX12_yearGoes_67 rfl ?_
      refine q_iadd (pc := 68) dX12_yearGoes_68 ?_
      refine q_aload_n (pc := 69) dX12_yearGoes_69 rfl ?_
      refine q_getf (pc := 70) (f := 0) (v := .ref 26) dX12_yearGoes_70 sh_25 cl_11 inX12 rfl (by decide) lk_X12_7 rfl ?_
      refine q_bipush (pc := 73) (v := nI 39) dX12_yearGoes_73 (by decide) ?_
      refine q_iload_n (pc := 75) dX12_yearGoes_75 rfl ?_
      refine q_iadd (pc := 76) dX12_yearGoes_76 ?_
      obtain ⟨v23, h24, h⟩ := Option.bind_eq_some_iff.mp h
      refine q_iald (pc := 77) dX12_yearGoes_77 sh_26 h24 ?_
      by_cases k25 : v23 = 0
      · rw [if_pos k25] at h
        refine q_if_ne_f (pc := 78) (tgt := 97) dX12_yearGoes_78 (by decide) k25 ?_
        refine q_bipush (pc := 81) (v := nI 40) dX12_yearGoes_81 (by decide) ?_
        refine q_aload_n (pc := 83) dX12_yearGoes_83 rfl ?_
        refine q_bipush (pc := 84) (v := nI 49) dX12_yearGoes_84 (by decide) ?_
        refine q_iload_n (pc := 86) dX12_yearGoes_86 rfl ?_
        refine q_iadd (pc := 87) dX12_yearGoes_87 ?_
        obtain ⟨v26, h27, h⟩ := Option.bind_eq_some_iff.mp h
        refine q_iald (pc := 88) dX12_yearGoes_88 sh_28 h27 ?_
        refine q_iconst (pc := 89) (v := nI 1) dX12_yearGoes_89 (by decide) ?_
        refine q_iadd (pc := 90) dX12_yearGoes_90 ?_
        obtain ⟨r30, h29, h⟩ := Option.bind_eq_some_iff.mp h
        refine q_calls (pc := 91) (st := [.int ((nI 49) + c2), .ref 28]) (a_X12_lesser h29) okX12_lesser rfl dX12_yearGoes_91 lk_X12_199 rfl (by decide) (by decide) (Nat.le_of_ble_eq_true rfl) ⟨Nat.le_of_ble_eq_true rfl, Nat.le_of_ble_eq_true rfl⟩ rfl ?_
        show QW G (qrm 1 0 0) YX12_yearGoes 0 0 94 [some (.ref 25), some (.ref 28), some (.int c2)] [.int r30, .int ((nI 49) + c2), .ref 28] SH M J _
        refine q_goto (pc := 94) (tgt := 103) dX12_yearGoes_94 (by decide) ?_
        obtain ⟨M31, h32, h⟩ := Option.bind_eq_some_iff.mp h
        refine q_iast (pc := 103) dX12_yearGoes_103 sh_28 h32 ?_
        refine q_iincW (pc := 104) (w := nI 1) (ls' := [some (.ref 25), some (.ref 28), some (.int (c2 + nI 1))]) dX12_yearGoes_104 rfl (by decide) (by decide) rfl rfl ?_
        refine q_goto (pc := 107) (tgt := 54) dX12_yearGoes_107 (by decide) ?_
        exact l_X12_yearGoes_at25_28_L54  J n (c2 + nI 1) M31 res h hk
      · rw [if_neg k25] at h
        refine q_if_ne_t (pc := 78) (tgt := 97) dX12_yearGoes_78 (by decide) k25 ?_
        refine q_aload_n (pc := 97) dX12_yearGoes_97 rfl ?_
        refine q_bipush (pc := 98) (v := nI 49) dX12_yearGoes_98 (by decide) ?_
        refine q_iload_n (pc := 100) dX12_yearGoes_100 rfl ?_
        refine q_iadd (pc := 101) dX12_yearGoes_101 ?_
        obtain ⟨v33, h34, h⟩ := Option.bind_eq_some_iff.mp h
        refine q_iald (pc := 102) dX12_yearGoes_102 sh_28 h34 ?_
        obtain ⟨M35, h36, h⟩ := Option.bind_eq_some_iff.mp h
        refine q_iast (pc := 103) dX12_yearGoes_103 sh_28 h36 ?_
        refine q_iincW (pc := 104) (w := nI 1) (ls' := [some (.ref 25), some (.ref 28), some (.int (c2 + nI 1))]) dX12_yearGoes_104 rfl (by decide) (by decide) rfl rfl ?_
        refine q_goto (pc := 107) (tgt := 54) dX12_yearGoes_107 (by decide) ?_
        exact l_X12_yearGoes_at25_28_L54  J n (c2 + nI 1) M35 res h hk
def f_X12_yearGoes_at25_28  (M : qM) : Option qM :=
  (f_X12_yearGoes_at25_28_L2  qF (nI 0) M).bind fun e18 => (f_X12_yearGoes_at25_28_L54  qF (nI 0) e18.2).bind fun e37 => (qwr e37.2 28 163 (nI 61) (nI 0)).bind fun M39 => (qrd M39 28 163 (nI 0)).bind fun v41 => (qwr M39 28 163 (nI 0) (v41 + (nI 1))).bind fun M43 => some (M43)
set_option maxRecDepth 20000 in
set_option maxHeartbeats 4000000 in
theorem a_X12_yearGoes_at25_28 {G : qG}  {M : qM} {J : qJ} {M' : qM} (h : f_X12_yearGoes_at25_28  M = some (M')) : QM G 1 0 0 YX12_yearGoes [.ref 25, .ref 28] SH M J (none, SH, M', J) := by
  refine ⟨Nat.le_of_ble_eq_true rfl, rfl, ?_⟩
  show QW G (qrm 1 0 0) YX12_yearGoes 0 0 0 [some (.ref 25), some (.ref 28), none] [] SH M J _
  unfold f_X12_yearGoes_at25_28 at h
  refine q_iconst (pc := 0) (v := nI 0) dX12_yearGoes_0 (by decide) ?_
  refine q_istore_n (pc := 1) (ls' := [some (.ref 25), some (.ref 28), some (.int (nI 0))]) dX12_yearGoes_1 (by decide) rfl rfl ?_
  obtain ⟨⟨e18_2, M19⟩, h46, h⟩ := Option.bind_eq_some_iff.mp h
  try dsimp only at h
  refine l_X12_yearGoes_at25_28_L2  J qF (nI 0) M _ h46 (fun x hx => ?_)
  subst hx
  show QW G (qrm 1 0 0) YX12_yearGoes 0 0 52 [some (.ref 25), some (.ref 28), none] [] SH M19 J _
  refine q_iconst (pc := 52) (v := nI 0) dX12_yearGoes_52 (by decide) ?_
  refine q_istore_n (pc := 53) (ls' := [some (.ref 25), some (.ref 28), some (.int (nI 0))]) dX12_yearGoes_53 (by decide) rfl rfl ?_
  obtain ⟨⟨e37_2, M38⟩, h45, h⟩ := Option.bind_eq_some_iff.mp h
  try dsimp only at h
  refine l_X12_yearGoes_at25_28_L54  J qF (nI 0) M19 _ h45 (fun x hx => ?_)
  subst hx
  show QW G (qrm 1 0 0) YX12_yearGoes 0 0 110 [none, some (.ref 28), none] [] SH M38 J _
  refine q_aload_n (pc := 110) dX12_yearGoes_110 rfl ?_
  refine q_bipush (pc := 111) (v := nI 61) dX12_yearGoes_111 (by decide) ?_
  refine q_iconst (pc := 113) (v := nI 0) dX12_yearGoes_113 (by decide) ?_
  obtain ⟨M39, h40, h⟩ := Option.bind_eq_some_iff.mp h
  refine q_iast (pc := 114) dX12_yearGoes_114 sh_28 h40 ?_
  refine q_aload_n (pc := 115) dX12_yearGoes_115 rfl ?_
  refine q_iconst (pc := 116) (v := nI 0) dX12_yearGoes_116 (by decide) ?_
  refine q_dup2 (pc := 117) dX12_yearGoes_117 rfl rfl ?_
  obtain ⟨v41, h42, h⟩ := Option.bind_eq_some_iff.mp h
  refine q_iald (pc := 118) dX12_yearGoes_118 sh_28 h42 ?_
  refine q_iconst (pc := 119) (v := nI 1) dX12_yearGoes_119 (by decide) ?_
  refine q_iadd (pc := 120) dX12_yearGoes_120 ?_
  obtain ⟨M43, h44, h⟩ := Option.bind_eq_some_iff.mp h
  refine q_iast (pc := 121) dX12_yearGoes_121 sh_28 h44 ?_
  obtain rfl := Option.some.inj h
  exact q_vret (pc := 122) dX12_yearGoes_122 rfl rfl rfl
def f_X12_year_L18 (x1 : Int32) : Nat → Int32 → qM → Option (Int32 × qM)
  | 0, _, _ => none
  | n + 1, c3, M =>
  if x1 ≤ c3 then some (c3, M)
    else (f_X12_yearGoes_at25_28 M).bind fun M11 => f_X12_year_L18 x1 n (c3 + nI 1) M11
set_option maxRecDepth 20000 in
set_option maxHeartbeats 4000000 in
theorem l_X12_year_L18 {G : qG} {ρ : qR} (x1 : Int32) (J : qJ) : ∀ (n : Nat) (c3 : Int32) (M : qM) (res : Int32 × qM), f_X12_year_L18 x1 n c3 M = some res → (∀ x : Int32 × qM, res = x → QW G (qrm 2 0 0) YX12_year 0 0 37 [some (.ref 25), none, none, none] [] SH x.2 J ρ) → QW G (qrm 2 0 0) YX12_year 0 0 18 [some (.ref 25), some (.int x1), none, some (.int c3)] [] SH M J ρ
  | 0, _, _, _, h, _ => by simp [f_X12_year_L18] at h
  | n + 1, c3, M, res, h, hk => by
    rw [f_X12_year_L18] at h
    refine q_iload_n (pc := 18) dX12_year_18 rfl ?_
    refine q_iload_n (pc := 19) dX12_year_19 rfl ?_
    by_cases k8 : x1 ≤ c3
    · rw [if_pos k8] at h
      refine q_icmp_ge_t (pc := 20) (tgt := 37) dX12_year_20 (by decide) k8 ?_
      refine q_weak (ls' := [some (.ref 25), none, none, none]) ⟨rfl, trivial⟩ ?_
      obtain rfl := Option.some.inj h
      exact hk (c3, M) rfl
    · rw [if_neg k8] at h
      refine q_icmp_ge_f (pc := 20) (tgt := 37) dX12_year_20 (by decide) k8 ?_
      refine q_aload_n (pc := 23) dX12_year_23 rfl ?_
      refine q_aload_n (pc := 24) dX12_year_24 rfl ?_
      refine q_getf (pc := 25) (f := 2) (v := .ref 28) dX12_year_25 sh_25 cl_11 inX12 rfl (by decide) lk_X12_16 rfl ?_
      obtain ⟨M11, h10, h⟩ := Option.bind_eq_some_iff.mp h
      refine q_callv (pc := 28) (st := []) (a_X12_yearGoes_at25_28 h10) okX12_yearGoes rfl dX12_year_28 lk_X12_208 sh_25 cl_11 rfl (by decide) (by decide) (Nat.le_of_ble_eq_true rfl) ⟨Nat.le_of_ble_eq_true rfl, Nat.le_of_ble_eq_true rfl⟩ rfl ?_
      show QW G (qrm 2 0 0) YX12_year 0 0 31 [some (.ref 25), some (.int x1), none, some (.int c3)] [] SH M11 J _
      refine q_iincW (pc := 31) (w := nI 1) (ls' := [some (.ref 25), some (.int x1), none, some (.int (c3 + nI 1))]) dX12_year_31 rfl (by decide) (by decide) rfl rfl ?_
      refine q_goto (pc := 34) (tgt := 18) dX12_year_34 (by decide) ?_
      exact l_X12_year_L18 x1 J n (c3 + nI 1) M11 res h hk
def f_X12_year (a1 : Int32) (M : qM) : Option (Int32 × qM) :=
  (f_X12_refuses a1 M).bind fun r3 => if r3 = 0 then (f_X12_remember M).bind fun M7 => (f_X12_year_L18 a1 qF (nI 0) M7).bind fun e12 => (qrd e12.2 28 163 (nI 0)).bind fun v14 => some (v14, e12.2)
    else some (r3, M)
set_option maxRecDepth 20000 in
set_option maxHeartbeats 4000000 in
theorem a_X12_year {G : qG} {a1 : Int32} {M : qM} {J : qJ} {r : Int32} {M' : qM} (h : f_X12_year a1 M = some (r, M')) : QM G 2 0 0 YX12_year [.ref 25, .int a1] SH M J (some (.int r), SH, M', J) := by
  refine ⟨Nat.le_of_ble_eq_true rfl, Or.inl rfl, ?_⟩
  show QW G (qrm 2 0 0) YX12_year 0 0 0 [some (.ref 25), some (.int a1), none, none] [] SH M J _
  unfold f_X12_year at h
  refine q_aload_n (pc := 0) dX12_year_0 rfl ?_
  refine q_iload_n (pc := 1) dX12_year_1 rfl ?_
  obtain ⟨r3, h2, h⟩ := Option.bind_eq_some_iff.mp h
  refine q_callv (pc := 2) (st := []) (a_X12_refuses h2) okX12_refuses rfl dX12_year_2 lk_X12_205 sh_25 cl_11 rfl (by decide) (by decide) (Nat.le_of_ble_eq_true rfl) ⟨Nat.le_of_ble_eq_true rfl, Nat.le_of_ble_eq_true rfl⟩ rfl ?_
  show QW G (qrm 2 0 0) YX12_year 0 0 5 [some (.ref 25), some (.int a1), none, none] [.int r3] SH M J _
  refine q_istore_n (pc := 5) (ls' := [some (.ref 25), some (.int a1), some (.int r3), none]) dX12_year_5 (by decide) rfl rfl ?_
  refine q_iload_n (pc := 6) dX12_year_6 rfl ?_
  by_cases k4 : r3 = 0
  · rw [if_pos k4] at h
    refine q_if_eq_t (pc := 7) (tgt := 12) dX12_year_7 (by decide) k4 ?_
    refine q_aload_n (pc := 12) dX12_year_12 rfl ?_
    obtain ⟨M7, h6, h⟩ := Option.bind_eq_some_iff.mp h
    refine q_callv (pc := 13) (st := []) (a_X12_remember h6) okX12_remember rfl dX12_year_13 lk_X12_193 sh_25 cl_11 rfl (by decide) (by decide) (Nat.le_of_ble_eq_true rfl) ⟨Nat.le_of_ble_eq_true rfl, Nat.le_of_ble_eq_true rfl⟩ rfl ?_
    show QW G (qrm 2 0 0) YX12_year 0 0 16 [some (.ref 25), some (.int a1), some (.int r3), none] [] SH M7 J _
    refine q_iconst (pc := 16) (v := nI 0) dX12_year_16 (by decide) ?_
    refine q_istore_n (pc := 17) (ls' := [some (.ref 25), some (.int a1), some (.int r3), some (.int (nI 0))]) dX12_year_17 (by decide) rfl rfl ?_
    refine q_weak (ls' := [some (.ref 25), some (.int a1), none, some (.int (nI 0))]) ⟨rfl, ⟨rfl, ⟨rfl, trivial⟩⟩⟩ ?_
    obtain ⟨⟨e12_3, M13⟩, h16, h⟩ := Option.bind_eq_some_iff.mp h
    try dsimp only at h
    refine l_X12_year_L18 a1 J qF (nI 0) M7 _ h16 (fun x hx => ?_)
    subst hx
    show QW G (qrm 2 0 0) YX12_year 0 0 37 [some (.ref 25), none, none, none] [] SH M13 J _
    refine q_aload_n (pc := 37) dX12_year_37 rfl ?_
    refine q_getf (pc := 38) (f := 2) (v := .ref 28) dX12_year_38 sh_25 cl_11 inX12 rfl (by decide) lk_X12_16 rfl ?_
    refine q_iconst (pc := 41) (v := nI 0) dX12_year_41 (by decide) ?_
    obtain ⟨v14, h15, h⟩ := Option.bind_eq_some_iff.mp h
    refine q_iald (pc := 42) dX12_year_42 sh_28 h15 ?_
    have h := Option.some.inj h
    obtain ⟨rfl, rfl⟩ := Prod.mk.inj h
    exact q_iret (pc := 43) dX12_year_43 rfl rfl rfl
  · rw [if_neg k4] at h
    refine q_if_eq_f (pc := 7) (tgt := 12) dX12_year_7 (by decide) k4 ?_
    refine q_iload_n (pc := 10) dX12_year_10 rfl ?_
    have h := Option.some.inj h
    obtain ⟨rfl, rfl⟩ := Prod.mk.inj h
    exact q_iret (pc := 11) dX12_year_11 rfl rfl rfl
def f_X12_teach (a1 : Int32) (a2 : Int32) (a3 : Int32) (M : qM) : Option (Int32 × qM) :=
  (f_X12_isObjector a1 M).bind fun b3 => if b3 = true then (f_X12_in a2.toInt64 (lN 0) (lN 4) M).bind fun b7 => if b7 = true then (f_X12_remember M).bind fun M11 => if a3 = 0 then (qrd M11 28 163 ((nI 55) + a1)).bind fun v13 => (qwr M11 28 163 ((nI 55) + a1) (v13 &&& (((nI 1) <<< (a2 &&& 31)) ^^^ (-1 : Int32)))).bind fun M15 => (qrd M15 28 163 ((nI 55) + a1)).bind fun v17 => some (v17, M15)
    else (qrd M11 28 163 ((nI 55) + a1)).bind fun v19 => (qwr M11 28 163 ((nI 55) + a1) (v19 ||| ((nI 1) <<< (a2 &&& 31)))).bind fun M21 => (qrd M21 28 163 ((nI 55) + a1)).bind fun v23 => some (v23, M21)
    else some ((-1000000002 : Int32), M)
    else some ((-1000000001 : Int32), M)
set_option maxRecDepth 20000 in
set_option maxHeartbeats 4000000 in
theorem a_X12_teach {G : qG} {a1 : Int32} {a2 : Int32} {a3 : Int32} {M : qM} {J : qJ} {r : Int32} {M' : qM} (h : f_X12_teach a1 a2 a3 M = some (r, M')) : QM G 2 0 0 YX12_teach [.ref 25, .int a1, .int a2, .int a3] SH M J (some (.int r), SH, M', J) := by
  refine ⟨Nat.le_of_ble_eq_true rfl, Or.inl rfl, ?_⟩
  show QW G (qrm 2 0 0) YX12_teach 0 0 0 [some (.ref 25), some (.int a1), some (.int a2), some (.int a3)] [] SH M J _
  unfold f_X12_teach at h
  refine q_aload_n (pc := 0) dX12_teach_0 rfl ?_
  refine q_iload_n (pc := 1) dX12_teach_1 rfl ?_
  obtain ⟨b3, h2, h⟩ := Option.bind_eq_some_iff.mp h
  refine q_callv (pc := 2) (st := []) (a_X12_isObjector h2) okX12_isObjector rfl dX12_teach_2 lk_X12_180 sh_25 cl_11 rfl (by decide) (by decide) (Nat.le_of_ble_eq_true rfl) ⟨Nat.le_of_ble_eq_true rfl, Nat.le_of_ble_eq_true rfl⟩ rfl ?_
  show QW G (qrm 2 0 0) YX12_teach 0 0 5 [some (.ref 25), some (.int a1), some (.int a2), some (.int a3)] [.int (qb b3)] SH M J _
  by_cases k4 : b3 = true
  · rw [if_pos k4] at h
    refine q_if_ne_t (pc := 5) (tgt := 11) dX12_teach_5 (by decide) (qb_t k4) ?_
    refine q_iload_n (pc := 11) dX12_teach_11 rfl ?_
    refine q_i2l (pc := 12) dX12_teach_12 ?_
    refine q_lconst (pc := 13) (v := lN 0) dX12_teach_13 rfl ?_
    refine q_ldc2 (pc := 14) (v := lN 4) dX12_teach_14 lk_X12_183 ?_
    obtain ⟨b7, h6, h⟩ := Option.bind_eq_some_iff.mp h
    refine q_calls (pc := 17) (st := []) (a_X12_in h6) okX12_in rfl dX12_teach_17 lk_X12_58 rfl (by decide) (by decide) (Nat.le_of_ble_eq_true rfl) ⟨Nat.le_of_ble_eq_true rfl, Nat.le_of_ble_eq_true rfl⟩ rfl ?_
    show QW G (qrm 2 0 0) YX12_teach 0 0 20 [some (.ref 25), some (.int a1), some (.int a2), some (.int a3)] [.int (qb b7)] SH M J _
    by_cases k8 : b7 = true
    · rw [if_pos k8] at h
      refine q_if_ne_t (pc := 20) (tgt := 26) dX12_teach_20 (by decide) (qb_t k8) ?_
      refine q_aload_n (pc := 26) dX12_teach_26 rfl ?_
      obtain ⟨M11, h10, h⟩ := Option.bind_eq_some_iff.mp h
      refine q_callv (pc := 27) (st := []) (a_X12_remember h10) okX12_remember rfl dX12_teach_27 lk_X12_193 sh_25 cl_11 rfl (by decide) (by decide) (Nat.le_of_ble_eq_true rfl) ⟨Nat.le_of_ble_eq_true rfl, Nat.le_of_ble_eq_true rfl⟩ rfl ?_
      show QW G (qrm 2 0 0) YX12_teach 0 0 30 [some (.ref 25), some (.int a1), some (.int a2), some (.int a3)] [] SH M11 J _
      refine q_aload_n (pc := 30) dX12_teach_30 rfl ?_
      refine q_getf (pc := 31) (f := 2) (v := .ref 28) dX12_teach_31 sh_25 cl_11 inX12 rfl (by decide) lk_X12_16 rfl ?_
      refine q_bipush (pc := 34) (v := nI 55) dX12_teach_34 (by decide) ?_
      refine q_iload_n (pc := 36) dX12_teach_36 rfl ?_
      refine q_iadd (pc := 37) dX12_teach_37 ?_
      refine q_iload_n (pc := 38) dX12_teach_38 rfl ?_
      by_cases k12 : a3 = 0
      · rw [if_pos k12] at h
        refine q_if_eq_t (pc := 39) (tgt := 58) dX12_teach_39 (by decide) k12 ?_
        refine q_aload_n (pc := 58) dX12_teach_58 rfl ?_
        refine q_getf (pc := 59) (f := 2) (v := .ref 28) dX12_teach_59 sh_25 cl_11 inX12 rfl (by decide) lk_X12_16 rfl ?_
        refine q_bipush (pc := 62) (v := nI 55) dX12_teach_62 (by decide) ?_
        refine q_iload_n (pc := 64) dX12_teach_64 rfl ?_
        refine q_iadd (pc := 65) dX12_teach_65 ?_
        obtain ⟨v13, h14, h⟩ := Option.bind_eq_some_iff.mp h
        refine q_iald (pc := 66) dX12_teach_66 sh_28 h14 ?_
        refine q_iconst (pc := 67) (v := nI 1) dX12_teach_67 (by decide) ?_
        refine q_iload_n (pc := 68) dX12_teach_68 rfl ?_
        refine q_ishl (pc := 69) dX12_teach_69 ?_
        refine q_iconst (pc := 70) (v := (-1 : Int32)) dX12_teach_70 (by decide) ?_
        refine q_ixor (pc := 71) dX12_teach_71 ?_
        refine q_iand (pc := 72) dX12_teach_72 ?_
        obtain ⟨M15, h16, h⟩ := Option.bind_eq_some_iff.mp h
        refine q_iast (pc := 73) dX12_teach_73 sh_28 h16 ?_
        refine q_aload_n (pc := 74) dX12_teach_74 rfl ?_
        refine q_getf (pc := 75) (f := 2) (v := .ref 28) dX12_teach_75 sh_25 cl_11 inX12 rfl (by decide) lk_X12_16 rfl ?_
        refine q_bipush (pc := 78) (v := nI 55) dX12_teach_78 (by decide) ?_
        refine q_iload_n (pc := 80) dX12_teach_80 rfl ?_
        refine q_iadd (pc := 81) dX12_teach_81 ?_
        obtain ⟨v17, h18, h⟩ := Option.bind_eq_some_iff.mp h
        refine q_iald (pc := 82) dX12_teach_82 sh_28 h18 ?_
        have h := Option.some.inj h
        obtain ⟨rfl, rfl⟩ := Prod.mk.inj h
        exact q_iret (pc := 83) dX12_teach_83 rfl rfl rfl
      · rw [if_neg k12] at h
        refine q_if_eq_f (pc := 39) (tgt := 58) dX12_teach_39 (by decide) k12 ?_
        refine q_aload_n (pc := 42) dX12_teach_42 rfl ?_
        refine q_getf (pc := 43) (f := 2) (v := .ref 28) dX12_teach_43 sh_25 cl_11 inX12 rfl (by decide) lk_X12_16 rfl ?_
        refine q_bipush (pc := 46) (v := nI 55) dX12_teach_46 (by decide) ?_
        refine q_iload_n (pc := 48) dX12_teach_48 rfl ?_
        refine q_iadd (pc := 49) dX12_teach_49 ?_
        obtain ⟨v19, h20, h⟩ := Option.bind_eq_some_iff.mp h
        refine q_iald (pc := 50) dX12_teach_50 sh_28 h20 ?_
        refine q_iconst (pc := 51) (v := nI 1) dX12_teach_51 (by decide) ?_
        refine q_iload_n (pc := 52) dX12_teach_52 rfl ?_
        refine q_ishl (pc := 53) dX12_teach_53 ?_
        refine q_ior (pc := 54) dX12_teach_54 ?_
        refine q_goto (pc := 55) (tgt := 73) dX12_teach_55 (by decide) ?_
        obtain ⟨M21, h22, h⟩ := Option.bind_eq_some_iff.mp h
        refine q_iast (pc := 73) dX12_teach_73 sh_28 h22 ?_
        refine q_aload_n (pc := 74) dX12_teach_74 rfl ?_
        refine q_getf (pc := 75) (f := 2) (v := .ref 28) dX12_teach_75 sh_25 cl_11 inX12 rfl (by decide) lk_X12_16 rfl ?_
        refine q_bipush (pc := 78) (v := nI 55) dX12_teach_78 (by decide) ?_
        refine q_iload_n (pc := 80) dX12_teach_80 rfl ?_
        refine q_iadd (pc := 81) dX12_teach_81 ?_
        obtain ⟨v23, h24, h⟩ := Option.bind_eq_some_iff.mp h
        refine q_iald (pc := 82) dX12_teach_82 sh_28 h24 ?_
        have h := Option.some.inj h
        obtain ⟨rfl, rfl⟩ := Prod.mk.inj h
        exact q_iret (pc := 83) dX12_teach_83 rfl rfl rfl
    · rw [if_neg k8] at h
      refine q_if_ne_f (pc := 20) (tgt := 26) dX12_teach_20 (by decide) (qb_f k8) ?_
      refine q_ldc (pc := 23) (v := (-1000000002 : Int32)) dX12_teach_23 lk_X12_77 ?_
      have h := Option.some.inj h
      obtain ⟨rfl, rfl⟩ := Prod.mk.inj h
      exact q_iret (pc := 25) dX12_teach_25 rfl rfl rfl
  · rw [if_neg k4] at h
    refine q_if_ne_f (pc := 5) (tgt := 11) dX12_teach_5 (by decide) (qb_f k4) ?_
    refine q_ldc (pc := 8) (v := (-1000000001 : Int32)) dX12_teach_8 lk_X12_176 ?_
    have h := Option.some.inj h
    obtain ⟨rfl, rfl⟩ := Prod.mk.inj h
    exact q_iret (pc := 10) dX12_teach_10 rfl rfl rfl
def f_X12_hear (a1 : Int32) (a2 : Int32) (a3 : Int32) (M : qM) : Option (Int32 × qM) :=
  (f_X12_isCouple a1 M).bind fun b3 => if b3 = true then (f_X12_in a2.toInt64 (lN 0) (lN 4) M).bind fun b7 => if b7 = true then (f_X12_in a3.toInt64 (lN 0) (lN 20) M).bind fun b11 => if b11 = true then (f_X12_remember M).bind fun M15 => (qrd M15 28 163 (((nI 19) + ((nI 5) * a1)) + a2)).bind fun v16 => (qwr M15 28 163 (((nI 19) + ((nI 5) * a1)) + a2) a3).bind fun M18 => some (v16, M18)
    else some ((-1000000002 : Int32), M)
    else some ((-1000000002 : Int32), M)
    else some ((-1000000001 : Int32), M)
set_option maxRecDepth 20000 in
set_option maxHeartbeats 4000000 in
theorem a_X12_hear {G : qG} {a1 : Int32} {a2 : Int32} {a3 : Int32} {M : qM} {J : qJ} {r : Int32} {M' : qM} (h : f_X12_hear a1 a2 a3 M = some (r, M')) : QM G 2 0 0 YX12_hear [.ref 25, .int a1, .int a2, .int a3] SH M J (some (.int r), SH, M', J) := by
  refine ⟨Nat.le_of_ble_eq_true rfl, Or.inl rfl, ?_⟩
  show QW G (qrm 2 0 0) YX12_hear 0 0 0 [some (.ref 25), some (.int a1), some (.int a2), some (.int a3), none] [] SH M J _
  unfold f_X12_hear at h
  refine q_aload_n (pc := 0) dX12_hear_0 rfl ?_
  refine q_iload_n (pc := 1) dX12_hear_1 rfl ?_
  obtain ⟨b3, h2, h⟩ := Option.bind_eq_some_iff.mp h
  refine q_callv (pc := 2) (st := []) (a_X12_isCouple h2) okX12_isCouple rfl dX12_hear_2 lk_X12_173 sh_25 cl_11 rfl (by decide) (by decide) (Nat.le_of_ble_eq_true rfl) ⟨Nat.le_of_ble_eq_true rfl, Nat.le_of_ble_eq_true rfl⟩ rfl ?_
  show QW G (qrm 2 0 0) YX12_hear 0 0 5 [some (.ref 25), some (.int a1), some (.int a2), some (.int a3), none] [.int (qb b3)] SH M J _
  by_cases k4 : b3 = true
  · rw [if_pos k4] at h
    refine q_if_ne_t (pc := 5) (tgt := 11) dX12_hear_5 (by decide) (qb_t k4) ?_
    refine q_iload_n (pc := 11) dX12_hear_11 rfl ?_
    refine q_i2l (pc := 12) dX12_hear_12 ?_
    refine q_lconst (pc := 13) (v := lN 0) dX12_hear_13 rfl ?_
    refine q_ldc2 (pc := 14) (v := lN 4) dX12_hear_14 lk_X12_183 ?_
    obtain ⟨b7, h6, h⟩ := Option.bind_eq_some_iff.mp h
    refine q_calls (pc := 17) (st := []) (a_X12_in h6) okX12_in rfl dX12_hear_17 lk_X12_58 rfl (by decide) (by decide) (Nat.le_of_ble_eq_true rfl) ⟨Nat.le_of_ble_eq_true rfl, Nat.le_of_ble_eq_true rfl⟩ rfl ?_
    show QW G (qrm 2 0 0) YX12_hear 0 0 20 [some (.ref 25), some (.int a1), some (.int a2), some (.int a3), none] [.int (qb b7)] SH M J _
    by_cases k8 : b7 = true
    · rw [if_pos k8] at h
      refine q_if_eq_f (pc := 20) (tgt := 35) dX12_hear_20 (by decide) (qb_t k8) ?_
      refine q_iload_n (pc := 23) dX12_hear_23 rfl ?_
      refine q_i2l (pc := 24) dX12_hear_24 ?_
      refine q_lconst (pc := 25) (v := lN 0) dX12_hear_25 rfl ?_
      refine q_ldc2 (pc := 26) (v := lN 20) dX12_hear_26 lk_X12_212 ?_
      obtain ⟨b11, h10, h⟩ := Option.bind_eq_some_iff.mp h
      refine q_calls (pc := 29) (st := []) (a_X12_in h10) okX12_in rfl dX12_hear_29 lk_X12_58 rfl (by decide) (by decide) (Nat.le_of_ble_eq_true rfl) ⟨Nat.le_of_ble_eq_true rfl, Nat.le_of_ble_eq_true rfl⟩ rfl ?_
      show QW G (qrm 2 0 0) YX12_hear 0 0 32 [some (.ref 25), some (.int a1), some (.int a2), some (.int a3), none] [.int (qb b11)] SH M J _
      by_cases k12 : b11 = true
      · rw [if_pos k12] at h
        refine q_if_ne_t (pc := 32) (tgt := 38) dX12_hear_32 (by decide) (qb_t k12) ?_
        refine q_aload_n (pc := 38) dX12_hear_38 rfl ?_
        obtain ⟨M15, h14, h⟩ := Option.bind_eq_some_iff.mp h
        refine q_callv (pc := 39) (st := []) (a_X12_remember h14) okX12_remember rfl dX12_hear_39 lk_X12_193 sh_25 cl_11 rfl (by decide) (by decide) (Nat.le_of_ble_eq_true rfl) ⟨Nat.le_of_ble_eq_true rfl, Nat.le_of_ble_eq_true rfl⟩ rfl ?_
        show QW G (qrm 2 0 0) YX12_hear 0 0 42 [some (.ref 25), some (.int a1), some (.int a2), some (.int a3), none] [] SH M15 J _
        refine q_aload_n (pc := 42) dX12_hear_42 rfl ?_
        refine q_getf (pc := 43) (f := 2) (v := .ref 28) dX12_hear_43 sh_25 cl_11 inX12 rfl (by decide) lk_X12_16 rfl ?_
        refine q_bipush (pc := 46) (v := nI 19) dX12_hear_46 (by decide) ?_
        refine q_iconst (pc := 48) (v := nI 5) dX12_hear_48 (by decide) ?_
        refine q_iload_n (pc := 49) dX12_hear_49 rfl ?_
        refine q_imul (pc := 50) dX12_hear_50 ?_
        refine q_iadd (pc := 51) dX12_hear_51 ?_
        refine q_iload_n (pc := 52) dX12_hear_52 rfl ?_
        refine q_iadd (pc := 53) dX12_hear_53 ?_
        obtain ⟨v16, h17, h⟩ := Option.bind_eq_some_iff.mp h
        refine q_iald (pc := 54) dX12_hear_54 sh_28 h17 ?_
        refine q_istore (pc := 55) (ls' := [some (.ref 25), some (.int a1), some (.int a2), some (.int a3), some (.int v16)]) dX12_hear_55 (by decide) rfl rfl ?_
        refine q_aload_n (pc := 57) dX12_hear_57 rfl ?_
        refine q_getf (pc := 58) (f := 2) (v := .ref 28) dX12_hear_58 sh_25 cl_11 inX12 rfl (by decide) lk_X12_16 rfl ?_
        refine q_bipush (pc := 61) (v := nI 19) dX12_hear_61 (by decide) ?_
        refine q_iconst (pc := 63) (v := nI 5) dX12_hear_63 (by decide) ?_
        refine q_iload_n (pc := 64) dX12_hear_64 rfl ?_
        refine q_imul (pc := 65) dX12_hear_65 ?_
        refine q_iadd (pc := 66) dX12_hear_66 ?_
        refine q_iload_n (pc := 67) dX12_hear_67 rfl ?_
        refine q_iadd (pc := 68) dX12_hear_68 ?_
        refine q_iload_n (pc := 69) dX12_hear_69 rfl ?_
        obtain ⟨M18, h19, h⟩ := Option.bind_eq_some_iff.mp h
        refine q_iast (pc := 70) dX12_hear_70 sh_28 h19 ?_
        refine q_iload (pc := 71) dX12_hear_71 rfl ?_
        have h := Option.some.inj h
        obtain ⟨rfl, rfl⟩ := Prod.mk.inj h
        exact q_iret (pc := 73) dX12_hear_73 rfl rfl rfl
      · rw [if_neg k12] at h
        refine q_if_ne_f (pc := 32) (tgt := 38) dX12_hear_32 (by decide) (qb_f k12) ?_
        refine q_ldc (pc := 35) (v := (-1000000002 : Int32)) dX12_hear_35 lk_X12_77 ?_
        have h := Option.some.inj h
        obtain ⟨rfl, rfl⟩ := Prod.mk.inj h
        exact q_iret (pc := 37) dX12_hear_37 rfl rfl rfl
    · rw [if_neg k8] at h
      refine q_if_eq_t (pc := 20) (tgt := 35) dX12_hear_20 (by decide) (qb_f k8) ?_
      refine q_ldc (pc := 35) (v := (-1000000002 : Int32)) dX12_hear_35 lk_X12_77 ?_
      have h := Option.some.inj h
      obtain ⟨rfl, rfl⟩ := Prod.mk.inj h
      exact q_iret (pc := 37) dX12_hear_37 rfl rfl rfl
  · rw [if_neg k4] at h
    refine q_if_ne_f (pc := 5) (tgt := 11) dX12_hear_5 (by decide) (qb_f k4) ?_
    refine q_ldc (pc := 8) (v := (-1000000001 : Int32)) dX12_hear_8 lk_X12_176 ?_
    have h := Option.some.inj h
    obtain ⟨rfl, rfl⟩ := Prod.mk.inj h
    exact q_iret (pc := 10) dX12_hear_10 rfl rfl rfl
def f_X12_practise (a1 : Int32) (a2 : Int32) (M : qM) : Option (Int32 × qM) :=
  (f_X12_isCouple a1 M).bind fun b3 => if b3 = true then (f_X12_in a2.toInt64 (lN 0) (lN 99) M).bind fun b7 => if b7 = true then (qrd M 28 163 ((nI 7) + a1)).bind fun v9 => if v9 = 0 then (f_X12_remember M).bind fun M14 => (qrd M14 28 163 ((nI 1) + a1)).bind fun v15 => (qwr M14 28 163 ((nI 1) + a1) a2).bind fun M17 => some (v15, M17)
    else some ((-1000000003 : Int32), M)
    else some ((-1000000002 : Int32), M)
    else some ((-1000000001 : Int32), M)
set_option maxRecDepth 20000 in
set_option maxHeartbeats 4000000 in
theorem a_X12_practise {G : qG} {a1 : Int32} {a2 : Int32} {M : qM} {J : qJ} {r : Int32} {M' : qM} (h : f_X12_practise a1 a2 M = some (r, M')) : QM G 2 0 0 YX12_practise [.ref 25, .int a1, .int a2] SH M J (some (.int r), SH, M', J) := by
  refine ⟨Nat.le_of_ble_eq_true rfl, Or.inl rfl, ?_⟩
  show QW G (qrm 2 0 0) YX12_practise 0 0 0 [some (.ref 25), some (.int a1), some (.int a2), none] [] SH M J _
  unfold f_X12_practise at h
  refine q_aload_n (pc := 0) dX12_practise_0 rfl ?_
  refine q_iload_n (pc := 1) dX12_practise_1 rfl ?_
  obtain ⟨b3, h2, h⟩ := Option.bind_eq_some_iff.mp h
  refine q_callv (pc := 2) (st := []) (a_X12_isCouple h2) okX12_isCouple rfl dX12_practise_2 lk_X12_173 sh_25 cl_11 rfl (by decide) (by decide) (Nat.le_of_ble_eq_true rfl) ⟨Nat.le_of_ble_eq_true rfl, Nat.le_of_ble_eq_true rfl⟩ rfl ?_
  show QW G (qrm 2 0 0) YX12_practise 0 0 5 [some (.ref 25), some (.int a1), some (.int a2), none] [.int (qb b3)] SH M J _
  by_cases k4 : b3 = true
  · rw [if_pos k4] at h
    refine q_if_ne_t (pc := 5) (tgt := 11) dX12_practise_5 (by decide) (qb_t k4) ?_
    refine q_iload_n (pc := 11) dX12_practise_11 rfl ?_
    refine q_i2l (pc := 12) dX12_practise_12 ?_
    refine q_lconst (pc := 13) (v := lN 0) dX12_practise_13 rfl ?_
    refine q_ldc2 (pc := 14) (v := lN 99) dX12_practise_14 lk_X12_214 ?_
    obtain ⟨b7, h6, h⟩ := Option.bind_eq_some_iff.mp h
    refine q_calls (pc := 17) (st := []) (a_X12_in h6) okX12_in rfl dX12_practise_17 lk_X12_58 rfl (by decide) (by decide) (Nat.le_of_ble_eq_true rfl) ⟨Nat.le_of_ble_eq_true rfl, Nat.le_of_ble_eq_true rfl⟩ rfl ?_
    show QW G (qrm 2 0 0) YX12_practise 0 0 20 [some (.ref 25), some (.int a1), some (.int a2), none] [.int (qb b7)] SH M J _
    by_cases k8 : b7 = true
    · rw [if_pos k8] at h
      refine q_if_ne_t (pc := 20) (tgt := 26) dX12_practise_20 (by decide) (qb_t k8) ?_
      refine q_aload_n (pc := 26) dX12_practise_26 rfl ?_
      refine q_getf (pc := 27) (f := 2) (v := .ref 28) dX12_practise_27 sh_25 cl_11 inX12 rfl (by decide) lk_X12_16 rfl ?_
      refine q_bipush (pc := 30) (v := nI 7) dX12_practise_30 (by decide) ?_
      refine q_iload_n (pc := 32) dX12_practise_32 rfl ?_
      refine q_iadd (pc := 33) dX12_practise_33 ?_
      obtain ⟨v9, h10, h⟩ := Option.bind_eq_some_iff.mp h
      refine q_iald (pc := 34) dX12_practise_34 sh_28 h10 ?_
      by_cases k11 : v9 = 0
      · rw [if_pos k11] at h
        refine q_if_eq_t (pc := 35) (tgt := 41) dX12_practise_35 (by decide) k11 ?_
        refine q_aload_n (pc := 41) dX12_practise_41 rfl ?_
        obtain ⟨M14, h13, h⟩ := Option.bind_eq_some_iff.mp h
        refine q_callv (pc := 42) (st := []) (a_X12_remember h13) okX12_remember rfl dX12_practise_42 lk_X12_193 sh_25 cl_11 rfl (by decide) (by decide) (Nat.le_of_ble_eq_true rfl) ⟨Nat.le_of_ble_eq_true rfl, Nat.le_of_ble_eq_true rfl⟩ rfl ?_
        show QW G (qrm 2 0 0) YX12_practise 0 0 45 [some (.ref 25), some (.int a1), some (.int a2), none] [] SH M14 J _
        refine q_aload_n (pc := 45) dX12_practise_45 rfl ?_
        refine q_getf (pc := 46) (f := 2) (v := .ref 28) dX12_practise_46 sh_25 cl_11 inX12 rfl (by decide) lk_X12_16 rfl ?_
        refine q_iconst (pc := 49) (v := nI 1) dX12_practise_49 (by decide) ?_
        refine q_iload_n (pc := 50) dX12_practise_50 rfl ?_
        refine q_iadd (pc := 51) dX12_practise_51 ?_
        obtain ⟨v15, h16, h⟩ := Option.bind_eq_some_iff.mp h
        refine q_iald (pc := 52) dX12_practise_52 sh_28 h16 ?_
        refine q_istore_n (pc := 53) (ls' := [some (.ref 25), some (.int a1), some (.int a2), some (.int v15)]) dX12_practise_53 (by decide) rfl rfl ?_
        refine q_aload_n (pc := 54) dX12_practise_54 rfl ?_
        refine q_getf (pc := 55) (f := 2) (v := .ref 28) dX12_practise_55 sh_25 cl_11 inX12 rfl (by decide) lk_X12_16 rfl ?_
        refine q_iconst (pc := 58) (v := nI 1) dX12_practise_58 (by decide) ?_
        refine q_iload_n (pc := 59) dX12_practise_59 rfl ?_
        refine q_iadd (pc := 60) dX12_practise_60 ?_
        refine q_iload_n (pc := 61) dX12_practise_61 rfl ?_
        obtain ⟨M17, h18, h⟩ := Option.bind_eq_some_iff.mp h
        refine q_iast (pc := 62) dX12_practise_62 sh_28 h18 ?_
        refine q_iload_n (pc := 63) dX12_practise_63 rfl ?_
        have h := Option.some.inj h
        obtain ⟨rfl, rfl⟩ := Prod.mk.inj h
        exact q_iret (pc := 64) dX12_practise_64 rfl rfl rfl
      · rw [if_neg k11] at h
        refine q_if_eq_f (pc := 35) (tgt := 41) dX12_practise_35 (by decide) k11 ?_
        refine q_ldc (pc := 38) (v := (-1000000003 : Int32)) dX12_practise_38 lk_X12_192 ?_
        have h := Option.some.inj h
        obtain ⟨rfl, rfl⟩ := Prod.mk.inj h
        exact q_iret (pc := 40) dX12_practise_40 rfl rfl rfl
    · rw [if_neg k8] at h
      refine q_if_ne_f (pc := 20) (tgt := 26) dX12_practise_20 (by decide) (qb_f k8) ?_
      refine q_ldc (pc := 23) (v := (-1000000002 : Int32)) dX12_practise_23 lk_X12_77 ?_
      have h := Option.some.inj h
      obtain ⟨rfl, rfl⟩ := Prod.mk.inj h
      exact q_iret (pc := 25) dX12_practise_25 rfl rfl rfl
  · rw [if_neg k4] at h
    refine q_if_ne_f (pc := 5) (tgt := 11) dX12_practise_5 (by decide) (qb_f k4) ?_
    refine q_ldc (pc := 8) (v := (-1000000001 : Int32)) dX12_practise_8 lk_X12_176 ?_
    have h := Option.some.inj h
    obtain ⟨rfl, rfl⟩ := Prod.mk.inj h
    exact q_iret (pc := 10) dX12_practise_10 rfl rfl rfl
def f_X12_sour (a1 : Int32) (a2 : Int32) (M : qM) : Option (Int32 × qM) :=
  (f_X12_isObjector a1 M).bind fun b3 => if b3 = true then (f_X12_in a2.toInt64 (lN 0) (lN 40) M).bind fun b7 => if b7 = true then (f_X12_remember M).bind fun M11 => (qrd M11 28 163 ((nI 49) + a1)).bind fun v12 => (qwr M11 28 163 ((nI 49) + a1) a2).bind fun M14 => some (v12, M14)
    else some ((-1000000002 : Int32), M)
    else some ((-1000000001 : Int32), M)
set_option maxRecDepth 20000 in
set_option maxHeartbeats 4000000 in
theorem a_X12_sour {G : qG} {a1 : Int32} {a2 : Int32} {M : qM} {J : qJ} {r : Int32} {M' : qM} (h : f_X12_sour a1 a2 M = some (r, M')) : QM G 2 0 0 YX12_sour [.ref 25, .int a1, .int a2] SH M J (some (.int r), SH, M', J) := by
  refine ⟨Nat.le_of_ble_eq_true rfl, Or.inl rfl, ?_⟩
  show QW G (qrm 2 0 0) YX12_sour 0 0 0 [some (.ref 25), some (.int a1), some (.int a2), none] [] SH M J _
  unfold f_X12_sour at h
  refine q_aload_n (pc := 0) dX12_sour_0 rfl ?_
  refine q_iload_n (pc := 1) dX12_sour_1 rfl ?_
  obtain ⟨b3, h2, h⟩ := Option.bind_eq_some_iff.mp h
  refine q_callv (pc := 2) (st := []) (a_X12_isObjector h2) okX12_isObjector rfl dX12_sour_2 lk_X12_180 sh_25 cl_11 rfl (by decide) (by decide) (Nat.le_of_ble_eq_true rfl) ⟨Nat.le_of_ble_eq_true rfl, Nat.le_of_ble_eq_true rfl⟩ rfl ?_
  show QW G (qrm 2 0 0) YX12_sour 0 0 5 [some (.ref 25), some (.int a1), some (.int a2), none] [.int (qb b3)] SH M J _
  by_cases k4 : b3 = true
  · rw [if_pos k4] at h
    refine q_if_ne_t (pc := 5) (tgt := 11) dX12_sour_5 (by decide) (qb_t k4) ?_
    refine q_iload_n (pc := 11) dX12_sour_11 rfl ?_
    refine q_i2l (pc := 12) dX12_sour_12 ?_
    refine q_lconst (pc := 13) (v := lN 0) dX12_sour_13 rfl ?_
    refine q_ldc2 (pc := 14) (v := lN 40) dX12_sour_14 lk_X12_216 ?_
    obtain ⟨b7, h6, h⟩ := Option.bind_eq_some_iff.mp h
    refine q_calls (pc := 17) (st := []) (a_X12_in h6) okX12_in rfl dX12_sour_17 lk_X12_58 rfl (by decide) (by decide) (Nat.le_of_ble_eq_true rfl) ⟨Nat.le_of_ble_eq_true rfl, Nat.le_of_ble_eq_true rfl⟩ rfl ?_
    show QW G (qrm 2 0 0) YX12_sour 0 0 20 [some (.ref 25), some (.int a1), some (.int a2), none] [.int (qb b7)] SH M J _
    by_cases k8 : b7 = true
    · rw [if_pos k8] at h
      refine q_if_ne_t (pc := 20) (tgt := 26) dX12_sour_20 (by decide) (qb_t k8) ?_
      refine q_aload_n (pc := 26) dX12_sour_26 rfl ?_
      obtain ⟨M11, h10, h⟩ := Option.bind_eq_some_iff.mp h
      refine q_callv (pc := 27) (st := []) (a_X12_remember h10) okX12_remember rfl dX12_sour_27 lk_X12_193 sh_25 cl_11 rfl (by decide) (by decide) (Nat.le_of_ble_eq_true rfl) ⟨Nat.le_of_ble_eq_true rfl, Nat.le_of_ble_eq_true rfl⟩ rfl ?_
      show QW G (qrm 2 0 0) YX12_sour 0 0 30 [some (.ref 25), some (.int a1), some (.int a2), none] [] SH M11 J _
      refine q_aload_n (pc := 30) dX12_sour_30 rfl ?_
      refine q_getf (pc := 31) (f := 2) (v := .ref 28) dX12_sour_31 sh_25 cl_11 inX12 rfl (by decide) lk_X12_16 rfl ?_
      refine q_bipush (pc := 34) (v := nI 49) dX12_sour_34 (by decide) ?_
      refine q_iload_n (pc := 36) dX12_sour_36 rfl ?_
      refine q_iadd (pc := 37) dX12_sour_37 ?_
      obtain ⟨v12, h13, h⟩ := Option.bind_eq_some_iff.mp h
      refine q_iald (pc := 38) dX12_sour_38 sh_28 h13 ?_
      refine q_istore_n (pc := 39) (ls' := [some (.ref 25), some (.int a1), some (.int a2), some (.int v12)]) dX12_sour_39 (by decide) rfl rfl ?_
      refine q_aload_n (pc := 40) dX12_sour_40 rfl ?_
      refine q_getf (pc := 41) (f := 2) (v := .ref 28) dX12_sour_41 sh_25 cl_11 inX12 rfl (by decide) lk_X12_16 rfl ?_
      refine q_bipush (pc := 44) (v := nI 49) dX12_sour_44 (by decide) ?_
      refine q_iload_n (pc := 46) dX12_sour_46 rfl ?_
      refine q_iadd (pc := 47) dX12_sour_47 ?_
      refine q_iload_n (pc := 48) dX12_sour_48 rfl ?_
      obtain ⟨M14, h15, h⟩ := Option.bind_eq_some_iff.mp h
      refine q_iast (pc := 49) dX12_sour_49 sh_28 h15 ?_
      refine q_iload_n (pc := 50) dX12_sour_50 rfl ?_
      have h := Option.some.inj h
      obtain ⟨rfl, rfl⟩ := Prod.mk.inj h
      exact q_iret (pc := 51) dX12_sour_51 rfl rfl rfl
    · rw [if_neg k8] at h
      refine q_if_ne_f (pc := 20) (tgt := 26) dX12_sour_20 (by decide) (qb_f k8) ?_
      refine q_ldc (pc := 23) (v := (-1000000002 : Int32)) dX12_sour_23 lk_X12_77 ?_
      have h := Option.some.inj h
      obtain ⟨rfl, rfl⟩ := Prod.mk.inj h
      exact q_iret (pc := 25) dX12_sour_25 rfl rfl rfl
  · rw [if_neg k4] at h
    refine q_if_ne_f (pc := 5) (tgt := 11) dX12_sour_5 (by decide) (qb_f k4) ?_
    refine q_ldc (pc := 8) (v := (-1000000001 : Int32)) dX12_sour_8 lk_X12_176 ?_
    have h := Option.some.inj h
    obtain ⟨rfl, rfl⟩ := Prod.mk.inj h
    exact q_iret (pc := 10) dX12_sour_10 rfl rfl rfl
def f_X12_draw (a1 : Int32) (M : qM) (J : qJ) : Option (Int32 × qJ) :=
  (qlrem (((J 25 8) * (lN 1103515245)) + (lN 12345)) (lN 2147483648)).bind fun v1 => (qpl J 25 8 v1).bind fun J3 => (qldiv (J3 25 8) (lN 65536)).bind fun v5 => (qlrem v5 a1.toInt64).bind fun v7 => some (v7.toInt32, J3)
set_option maxRecDepth 20000 in
set_option maxHeartbeats 4000000 in
theorem a_X12_draw {G : qG} {a1 : Int32} {M : qM} {J : qJ} {r : Int32} {J' : qJ} (h : f_X12_draw a1 M J = some (r, J')) : QM G 0 0 0 YX12_draw [.ref 25, .int a1] SH M J (some (.int r), SH, M, J') := by
  refine ⟨Nat.le_of_ble_eq_true rfl, Or.inl rfl, ?_⟩
  show QW G (qrm 0 0 0) YX12_draw 0 0 0 [some (.ref 25), some (.int a1)] [] SH M J _
  unfold f_X12_draw at h
  refine q_aload_n (pc := 0) dX12_draw_0 rfl ?_
  refine q_aload_n (pc := 1) dX12_draw_1 rfl ?_
  refine q_getf (pc := 2) (f := 8) (v := .long (J 25 8)) dX12_draw_2 sh_25 cl_11 inX12 rfl (by decide) lk_X12_218 rfl ?_
  refine q_ldc2 (pc := 5) (v := lN 1103515245) dX12_draw_5 lk_X12_222 ?_
  refine q_lmul (pc := 8) dX12_draw_8 ?_
  refine q_ldc2 (pc := 9) (v := lN 12345) dX12_draw_9 lk_X12_224 ?_
  refine q_ladd (pc := 12) dX12_draw_12 ?_
  refine q_ldc2 (pc := 13) (v := lN 2147483648) dX12_draw_13 lk_X12_226 ?_
  obtain ⟨v1, h2, h⟩ := Option.bind_eq_some_iff.mp h
  refine q_lrem (pc := 16) dX12_draw_16 h2 ?_
  obtain ⟨J3, h4, h⟩ := Option.bind_eq_some_iff.mp h
  refine q_putL (pc := 17) (f := 8) tyX12 dX12_draw_17 sh_25 cl_11 inX12 tyX12_ok nmX12 rfl (by decide) lk_X12_218 rfl rfl rfl h4 ?_
  refine q_aload_n (pc := 20) dX12_draw_20 rfl ?_
  refine q_getf (pc := 21) (f := 8) (v := .long (J3 25 8)) dX12_draw_21 sh_25 cl_11 inX12 rfl (by decide) lk_X12_218 rfl ?_
  refine q_ldc2 (pc := 24) (v := lN 65536) dX12_draw_24 lk_X12_228 ?_
  obtain ⟨v5, h6, h⟩ := Option.bind_eq_some_iff.mp h
  refine q_ldiv (pc := 27) dX12_draw_27 h6 ?_
  refine q_iload_n (pc := 28) dX12_draw_28 rfl ?_
  refine q_i2l (pc := 29) dX12_draw_29 ?_
  obtain ⟨v7, h8, h⟩ := Option.bind_eq_some_iff.mp h
  refine q_lrem (pc := 30) dX12_draw_30 h8 ?_
  refine q_l2i (pc := 31) dX12_draw_31 ?_
  have h := Option.some.inj h
  obtain ⟨rfl, rfl⟩ := Prod.mk.inj h
  exact q_iret (pc := 32) dX12_draw_32 rfl rfl rfl
def f_X12_draws  (M : qM) (J : qJ) : Option (qM × qJ) :=
  (f_X12_draw (nI 4) M J).bind fun p1 => (qrd M 26 57 (nI 1)).bind fun v5 => (f_X12_draw v5 M p1.2).bind fun p7 => (qrd M 26 57 (nI 2)).bind fun v11 => (f_X12_draw v11 M p7.2).bind fun p13 => if p1.1 = 0 then (f_X12_mayStand p13.1 p7.1 M).bind fun b20 => if b20 = true then (f_X12_stands_at25_28 p13.1 p7.1 M).bind fun p22 => some (p22.2, p13.2)
    else if p1.1 = (nI 1) then (f_X12_draw (nI 5) M p13.2).bind fun p27 => (f_X12_draw (nI 21) M p27.2).bind fun p31 => (qwr M 28 163 (((nI 19) + ((nI 5) * p7.1)) + p27.1) p31.1).bind fun M35 => some (M35, p31.2)
    else if p1.1 = (nI 2) then (qrd M 28 163 ((nI 55) + p13.1)).bind fun v38 => (f_X12_draw (nI 5) M p13.2).bind fun p40 => (qwr M 28 163 ((nI 55) + p13.1) (v38 ||| ((nI 1) <<< (p40.1 &&& 31)))).bind fun M44 => some (M44, p40.2)
    else some (M, p13.2)
    else if p1.1 = (nI 1) then (f_X12_draw (nI 5) M p13.2).bind fun p47 => (f_X12_draw (nI 21) M p47.2).bind fun p51 => (qwr M 28 163 (((nI 19) + ((nI 5) * p7.1)) + p47.1) p51.1).bind fun M55 => some (M55, p51.2)
    else if p1.1 = (nI 2) then (qrd M 28 163 ((nI 55) + p13.1)).bind fun v58 => (f_X12_draw (nI 5) M p13.2).bind fun p60 => (qwr M 28 163 ((nI 55) + p13.1) (v58 ||| ((nI 1) <<< (p60.1 &&& 31)))).bind fun M64 => some (M64, p60.2)
    else some (M, p13.2)
set_option maxRecDepth 20000 in
set_option maxHeartbeats 4000000 in
theorem a_X12_draws {G : qG}  {M : qM} {J : qJ} {M' : qM} {J' : qJ} (h : f_X12_draws  M J = some (M', J')) : QM G 6 0 0 YX12_draws [.ref 25] SH M J (none, SH, M', J') := by
  refine ⟨Nat.le_of_ble_eq_true rfl, rfl, ?_⟩
  show QW G (qrm 6 0 0) YX12_draws 0 0 0 [some (.ref 25), none, none, none, none] [] SH M J _
  unfold f_X12_draws at h
  refine q_aload_n (pc := 0) dX12_draws_0 rfl ?_
  refine q_iconst (pc := 1) (v := nI 4) dX12_draws_1 (by decide) ?_
  obtain ⟨⟨r3, J4⟩, h2, h⟩ := Option.bind_eq_some_iff.mp h
  try dsimp only at h
  refine q_callv (pc := 2) (st := []) (a_X12_draw h2) okX12_draw rfl dX12_draws_2 lk_X12_230 sh_25 cl_11 rfl (by decide) (by decide) (Nat.le_of_ble_eq_true rfl) ⟨Nat.le_of_ble_eq_true rfl, Nat.le_of_ble_eq_true rfl⟩ rfl ?_
  show QW G (qrm 6 0 0) YX12_draws 0 0 5 [some (.ref 25), none, none, none, none] [.int r3] SH M J4 _
  refine q_istore_n (pc := 5) (ls' := [some (.ref 25), some (.int r3), none, none, none]) dX12_draws_5 (by decide) rfl rfl ?_
  refine q_aload_n (pc := 6) dX12_draws_6 rfl ?_
  refine q_aload_n (pc := 7) dX12_draws_7 rfl ?_
  refine q_getf (pc := 8) (f := 0) (v := .ref 26) dX12_draws_8 sh_25 cl_11 inX12 rfl (by decide) lk_X12_7 rfl ?_
  refine q_iconst (pc := 11) (v := nI 1) dX12_draws_11 (by decide) ?_
  obtain ⟨v5, h6, h⟩ := Option.bind_eq_some_iff.mp h
  refine q_iald (pc := 12) dX12_draws_12 sh_26 h6 ?_
  obtain ⟨⟨r9, J10⟩, h8, h⟩ := Option.bind_eq_some_iff.mp h
  try dsimp only at h
  refine q_callv (pc := 13) (st := []) (a_X12_draw h8) okX12_draw rfl dX12_draws_13 lk_X12_230 sh_25 cl_11 rfl (by decide) (by decide) (Nat.le_of_ble_eq_true rfl) ⟨Nat.le_of_ble_eq_true rfl, Nat.le_of_ble_eq_true rfl⟩ rfl ?_
  show QW G (qrm 6 0 0) YX12_draws 0 0 16 [some (.ref 25), some (.int r3), none, none, none] [.int r9] SH M J10 _
  refine q_istore_n (pc := 16) (ls' := [some (.ref 25), some (.int r3), some (.int r9), none, none]) dX12_draws_16 (by decide) rfl rfl ?_
  refine q_aload_n (pc := 17) dX12_draws_17 rfl ?_
  refine q_aload_n (pc := 18) dX12_draws_18 rfl ?_
  refine q_getf (pc := 19) (f := 0) (v := .ref 26) dX12_draws_19 sh_25 cl_11 inX12 rfl (by decide) lk_X12_7 rfl ?_
  refine q_iconst (pc := 22) (v := nI 2) dX12_draws_22 (by decide) ?_
  obtain ⟨v11, h12, h⟩ := Option.bind_eq_some_iff.mp h
  refine q_iald (pc := 23) dX12_draws_23 sh_26 h12 ?_
  obtain ⟨⟨r15, J16⟩, h14, h⟩ := Option.bind_eq_some_iff.mp h
  try dsimp only at h
  refine q_callv (pc := 24) (st := []) (a_X12_draw h14) okX12_draw rfl dX12_draws_24 lk_X12_230 sh_25 cl_11 rfl (by decide) (by decide) (Nat.le_of_ble_eq_true rfl) ⟨Nat.le_of_ble_eq_true rfl, Nat.le_of_ble_eq_true rfl⟩ rfl ?_
  show QW G (qrm 6 0 0) YX12_draws 0 0 27 [some (.ref 25), some (.int r3), some (.int r9), none, none] [.int r15] SH M J16 _
  refine q_istore_n (pc := 27) (ls' := [some (.ref 25), some (.int r3), some (.int r9), some (.int r15), none]) dX12_draws_27 (by decide) rfl rfl ?_
  refine q_iload_n (pc := 28) dX12_draws_28 rfl ?_
  by_cases k17 : r3 = 0
  · rw [if_pos k17] at h
    refine q_if_ne_f (pc := 29) (tgt := 56) dX12_draws_29 (by decide) k17 ?_
    refine q_aload_n (pc := 32) dX12_draws_32 rfl ?_
    refine q_iload_n (pc := 33) dX12_draws_33 rfl ?_
    refine q_iload_n (pc := 34) dX12_draws_34 rfl ?_
    obtain ⟨b20, h19, h⟩ := Option.bind_eq_some_iff.mp h
    refine q_callv (pc := 35) (st := []) (a_X12_mayStand h19) okX12_mayStand rfl dX12_draws_35 lk_X12_189 sh_25 cl_11 rfl (by decide) (by decide) (Nat.le_of_ble_eq_true rfl) ⟨Nat.le_of_ble_eq_true rfl, Nat.le_of_ble_eq_true rfl⟩ rfl ?_
    show QW G (qrm 6 0 0) YX12_draws 0 0 38 [some (.ref 25), some (.int r3), some (.int r9), some (.int r15), none] [.int (qb b20)] SH M J16 _
    by_cases k21 : b20 = true
    · rw [if_pos k21] at h
      refine q_if_eq_f (pc := 38) (tgt := 56) dX12_draws_38 (by decide) (qb_t k21) ?_
      refine q_aload_n (pc := 41) dX12_draws_41 rfl ?_
      refine q_aload_n (pc := 42) dX12_draws_42 rfl ?_
      refine q_getf (pc := 43) (f := 2) (v := .ref 28) dX12_draws_43 sh_25 cl_11 inX12 rfl (by decide) lk_X12_16 rfl ?_
      refine q_iload_n (pc := 46) dX12_draws_46 rfl ?_
      refine q_iload_n (pc := 47) dX12_draws_47 rfl ?_
      obtain ⟨⟨b24, M25⟩, h23, h⟩ := Option.bind_eq_some_iff.mp h
      try dsimp only at h
      refine q_callv (pc := 48) (st := []) (a_X12_stands_at25_28 h23) okX12_stands rfl dX12_draws_48 lk_X12_196 sh_25 cl_11 rfl (by decide) (by decide) (Nat.le_of_ble_eq_true rfl) ⟨Nat.le_of_ble_eq_true rfl, Nat.le_of_ble_eq_true rfl⟩ rfl ?_
      show QW G (qrm 6 0 0) YX12_draws 0 0 51 [some (.ref 25), some (.int r3), some (.int r9), some (.int r15), none] [.int (qb b24)] SH M25 J16 _
      refine q_istore (pc := 51) (ls' := [some (.ref 25), some (.int r3), some (.int r9), some (.int r15), some (.int (qb b24))]) dX12_draws_51 (by decide) rfl rfl ?_
      refine q_goto (pc := 53) (tgt := 115) dX12_draws_53 (by decide) ?_
      have h := Option.some.inj h
      obtain ⟨rfl, rfl⟩ := Prod.mk.inj h
      exact q_vret (pc := 115) dX12_draws_115 rfl rfl rfl
    · rw [if_neg k21] at h
      refine q_if_eq_t (pc := 38) (tgt := 56) dX12_draws_38 (by decide) (qb_f k21) ?_
      refine q_iload_n (pc := 56) dX12_draws_56 rfl ?_
      refine q_iconst (pc := 57) (v := nI 1) dX12_draws_57 (by decide) ?_
      by_cases k26 : r3 = (nI 1)
      · rw [if_pos k26] at h
        refine q_icmp_ne_f (pc := 58) (tgt := 91) dX12_draws_58 (by decide) k26 ?_
        refine q_aload_n (pc := 61) dX12_draws_61 rfl ?_
        refine q_iconst (pc := 62) (v := nI 5) dX12_draws_62 (by decide) ?_
        obtain ⟨⟨r29, J30⟩, h28, h⟩ := Option.bind_eq_some_iff.mp h
        try dsimp only at h
        refine q_callv (pc := 63) (st := []) (a_X12_draw h28) okX12_draw rfl dX12_draws_63 lk_X12_230 sh_25 cl_11 rfl (by decide) (by decide) (Nat.le_of_ble_eq_true rfl) ⟨Nat.le_of_ble_eq_true rfl, Nat.le_of_ble_eq_true rfl⟩ rfl ?_
        show QW G (qrm 6 0 0) YX12_draws 0 0 66 [some (.ref 25), some (.int r3), some (.int r9), some (.int r15), none] [.int r29] SH M J30 _
        refine q_istore (pc := 66) (ls' := [some (.ref 25), some (.int r3), some (.int r9), some (.int r15), some (.int r29)]) dX12_draws_66 (by decide) rfl rfl ?_
        refine q_aload_n (pc := 68) dX12_draws_68 rfl ?_
        refine q_getf (pc := 69) (f := 2) (v := .ref 28) dX12_draws_69 sh_25 cl_11 inX12 rfl (by decide) lk_X12_16 rfl ?_
        refine q_bipush (pc := 72) (v := nI 19) dX12_draws_72 (by decide) ?_
        refine q_iconst (pc := 74) (v := nI 5) dX12_draws_74 (by decide) ?_
        refine q_iload_n (pc := 75) dX12_draws_75 rfl ?_
        refine q_imul (pc := 76) dX12_draws_76 ?_
        refine q_iadd (pc := 77) dX12_draws_77 ?_
        refine q_iload (pc := 78) dX12_draws_78 rfl ?_
        refine q_iadd (pc := 80) dX12_draws_80 ?_
        refine q_aload_n (pc := 81) dX12_draws_81 rfl ?_
        refine q_bipush (pc := 82) (v := nI 21) dX12_draws_82 (by decide) ?_
        obtain ⟨⟨r33, J34⟩, h32, h⟩ := Option.bind_eq_some_iff.mp h
        try dsimp only at h
        refine q_callv (pc := 84) (st := [.int (((nI 19) + ((nI 5) * r9)) + r29), .ref 28]) (a_X12_draw h32) okX12_draw rfl dX12_draws_84 lk_X12_230 sh_25 cl_11 rfl (by decide) (by decide) (Nat.le_of_ble_eq_true rfl) ⟨Nat.le_of_ble_eq_true rfl, Nat.le_of_ble_eq_true rfl⟩ rfl ?_
        show QW G (qrm 6 0 0) YX12_draws 0 0 87 [some (.ref 25), some (.int r3), some (.int r9), some (.int r15), some (.int r29)] [.int r33, .int (((nI 19) + ((nI 5) * r9)) + r29), .ref 28] SH M J34 _
        obtain ⟨M35, h36, h⟩ := Option.bind_eq_some_iff.mp h
        refine q_iast (pc := 87) dX12_draws_87 sh_28 h36 ?_
        refine q_goto (pc := 88) (tgt := 115) dX12_draws_88 (by decide) ?_
        have h := Option.some.inj h
        obtain ⟨rfl, rfl⟩ := Prod.mk.inj h
        exact q_vret (pc := 115) dX12_draws_115 rfl rfl rfl
      · rw [if_neg k26] at h
        refine q_icmp_ne_t (pc := 58) (tgt := 91) dX12_draws_58 (by decide) k26 ?_
        refine q_iload_n (pc := 91) dX12_draws_91 rfl ?_
        refine q_iconst (pc := 92) (v := nI 2) dX12_draws_92 (by decide) ?_
        by_cases k37 : r3 = (nI 2)
        · rw [if_pos k37] at h
          refine q_icmp_ne_f (pc := 93) (tgt := 115) dX12_draws_93 (by decide) k37 ?_
          refine q_aload_n (pc := 96) dX12_draws_96 rfl ?_
          refine q_getf (pc := 97) (f := 2) (v := .ref 28) dX12_draws_97 sh_25 cl_11 inX12 rfl (by decide) lk_X12_16 rfl ?_
          refine q_bipush (pc := 100) (v := nI 55) dX12_draws_100 (by decide) ?_
          refine q_iload_n (pc := 102) dX12_draws_102 rfl ?_
          refine q_iadd (pc := 103) dX12_draws_103 ?_
          refine q_dup2 (pc := 104) dX12_draws_104 rfl rfl ?_
          obtain ⟨v38, h39, h⟩ := Option.bind_eq_some_iff.mp h
          refine q_iald (pc := 105) dX12_draws_105 sh_28 h39 ?_
          refine q_iconst (pc := 106) (v := nI 1) dX12_draws_106 (by decide) ?_
          refine q_aload_n (pc := 107) dX12_draws_107 rfl ?_
          refine q_iconst (pc := 108) (v := nI 5) dX12_draws_108 (by decide) ?_
          obtain ⟨⟨r42, J43⟩, h41, h⟩ := Option.bind_eq_some_iff.mp h
          try dsimp only at h
          refine q_callv (pc := 109) (st := [.int (nI 1), .int v38, .int ((nI 55) + r15), .ref 28]) (a_X12_draw h41) okX12_draw rfl dX12_draws_109 lk_X12_230 sh_25 cl_11 rfl (by decide) (by decide) (Nat.le_of_ble_eq_true rfl) ⟨Nat.le_of_ble_eq_true rfl, Nat.le_of_ble_eq_true rfl⟩ rfl ?_
          show QW G (qrm 6 0 0) YX12_draws 0 0 112 [some (.ref 25), some (.int r3), some (.int r9), some (.int r15), none] [.int r42, .int (nI 1), .int v38, .int ((nI 55) + r15), .ref 28] SH M J43 _
          refine q_ishl (pc := 112) dX12_draws_112 ?_
          refine q_ior (pc := 113) dX12_draws_113 ?_
          obtain ⟨M44, h45, h⟩ := Option.bind_eq_some_iff.mp h
          refine q_iast (pc := 114) dX12_draws_114 sh_28 h45 ?_
          have h := Option.some.inj h
          obtain ⟨rfl, rfl⟩ := Prod.mk.inj h
          exact q_vret (pc := 115) dX12_draws_115 rfl rfl rfl
        · rw [if_neg k37] at h
          refine q_icmp_ne_t (pc := 93) (tgt := 115) dX12_draws_93 (by decide) k37 ?_
          have h := Option.some.inj h
          obtain ⟨rfl, rfl⟩ := Prod.mk.inj h
          exact q_vret (pc := 115) dX12_draws_115 rfl rfl rfl
  · rw [if_neg k17] at h
    refine q_if_ne_t (pc := 29) (tgt := 56) dX12_draws_29 (by decide) k17 ?_
    refine q_iload_n (pc := 56) dX12_draws_56 rfl ?_
    refine q_iconst (pc := 57) (v := nI 1) dX12_draws_57 (by decide) ?_
    by_cases k46 : r3 = (nI 1)
    · rw [if_pos k46] at h
      refine q_icmp_ne_f (pc := 58) (tgt := 91) dX12_draws_58 (by decide) k46 ?_
      refine q_aload_n (pc := 61) dX12_draws_61 rfl ?_
      refine q_iconst (pc := 62) (v := nI 5) dX12_draws_62 (by decide) ?_
      obtain ⟨⟨r49, J50⟩, h48, h⟩ := Option.bind_eq_some_iff.mp h
      try dsimp only at h
      refine q_callv (pc := 63) (st := []) (a_X12_draw h48) okX12_draw rfl dX12_draws_63 lk_X12_230 sh_25 cl_11 rfl (by decide) (by decide) (Nat.le_of_ble_eq_true rfl) ⟨Nat.le_of_ble_eq_true rfl, Nat.le_of_ble_eq_true rfl⟩ rfl ?_
      show QW G (qrm 6 0 0) YX12_draws 0 0 66 [some (.ref 25), some (.int r3), some (.int r9), some (.int r15), none] [.int r49] SH M J50 _
      refine q_istore (pc := 66) (ls' := [some (.ref 25), some (.int r3), some (.int r9), some (.int r15), some (.int r49)]) dX12_draws_66 (by decide) rfl rfl ?_
      refine q_aload_n (pc := 68) dX12_draws_68 rfl ?_
      refine q_getf (pc := 69) (f := 2) (v := .ref 28) dX12_draws_69 sh_25 cl_11 inX12 rfl (by decide) lk_X12_16 rfl ?_
      refine q_bipush (pc := 72) (v := nI 19) dX12_draws_72 (by decide) ?_
      refine q_iconst (pc := 74) (v := nI 5) dX12_draws_74 (by decide) ?_
      refine q_iload_n (pc := 75) dX12_draws_75 rfl ?_
      refine q_imul (pc := 76) dX12_draws_76 ?_
      refine q_iadd (pc := 77) dX12_draws_77 ?_
      refine q_iload (pc := 78) dX12_draws_78 rfl ?_
      refine q_iadd (pc := 80) dX12_draws_80 ?_
      refine q_aload_n (pc := 81) dX12_draws_81 rfl ?_
      refine q_bipush (pc := 82) (v := nI 21) dX12_draws_82 (by decide) ?_
      obtain ⟨⟨r53, J54⟩, h52, h⟩ := Option.bind_eq_some_iff.mp h
      try dsimp only at h
      refine q_callv (pc := 84) (st := [.int (((nI 19) + ((nI 5) * r9)) + r49), .ref 28]) (a_X12_draw h52) okX12_draw rfl dX12_draws_84 lk_X12_230 sh_25 cl_11 rfl (by decide) (by decide) (Nat.le_of_ble_eq_true rfl) ⟨Nat.le_of_ble_eq_true rfl, Nat.le_of_ble_eq_true rfl⟩ rfl ?_
      show QW G (qrm 6 0 0) YX12_draws 0 0 87 [some (.ref 25), some (.int r3), some (.int r9), some (.int r15), some (.int r49)] [.int r53, .int (((nI 19) + ((nI 5) * r9)) + r49), .ref 28] SH M J54 _
      obtain ⟨M55, h56, h⟩ := Option.bind_eq_some_iff.mp h
      refine q_iast (pc := 87) dX12_draws_87 sh_28 h56 ?_
      refine q_goto (pc := 88) (tgt := 115) dX12_draws_88 (by decide) ?_
      have h := Option.some.inj h
      obtain ⟨rfl, rfl⟩ := Prod.mk.inj h
      exact q_vret (pc := 115) dX12_draws_115 rfl rfl rfl
    · rw [if_neg k46] at h
      refine q_icmp_ne_t (pc := 58) (tgt := 91) dX12_draws_58 (by decide) k46 ?_
      refine q_iload_n (pc := 91) dX12_draws_91 rfl ?_
      refine q_iconst (pc := 92) (v := nI 2) dX12_draws_92 (by decide) ?_
      by_cases k57 : r3 = (nI 2)
      · rw [if_pos k57] at h
        refine q_icmp_ne_f (pc := 93) (tgt := 115) dX12_draws_93 (by decide) k57 ?_
        refine q_aload_n (pc := 96) dX12_draws_96 rfl ?_
        refine q_getf (pc := 97) (f := 2) (v := .ref 28) dX12_draws_97 sh_25 cl_11 inX12 rfl (by decide) lk_X12_16 rfl ?_
        refine q_bipush (pc := 100) (v := nI 55) dX12_draws_100 (by decide) ?_
        refine q_iload_n (pc := 102) dX12_draws_102 rfl ?_
        refine q_iadd (pc := 103) dX12_draws_103 ?_
        refine q_dup2 (pc := 104) dX12_draws_104 rfl rfl ?_
        obtain ⟨v58, h59, h⟩ := Option.bind_eq_some_iff.mp h
        refine q_iald (pc := 105) dX12_draws_105 sh_28 h59 ?_
        refine q_iconst (pc := 106) (v := nI 1) dX12_draws_106 (by decide) ?_
        refine q_aload_n (pc := 107) dX12_draws_107 rfl ?_
        refine q_iconst (pc := 108) (v := nI 5) dX12_draws_108 (by decide) ?_
        obtain ⟨⟨r62, J63⟩, h61, h⟩ := Option.bind_eq_some_iff.mp h
        try dsimp only at h
        refine q_callv (pc := 109) (st := [.int (nI 1), .int v58, .int ((nI 55) + r15), .ref 28]) (a_X12_draw h61) okX12_draw rfl dX12_draws_109 lk_X12_230 sh_25 cl_11 rfl (by decide) (by decide) (Nat.le_of_ble_eq_true rfl) ⟨Nat.le_of_ble_eq_true rfl, Nat.le_of_ble_eq_true rfl⟩ rfl ?_
        show QW G (qrm 6 0 0) YX12_draws 0 0 112 [some (.ref 25), some (.int r3), some (.int r9), some (.int r15), none] [.int r62, .int (nI 1), .int v58, .int ((nI 55) + r15), .ref 28] SH M J63 _
        refine q_ishl (pc := 112) dX12_draws_112 ?_
        refine q_ior (pc := 113) dX12_draws_113 ?_
        obtain ⟨M64, h65, h⟩ := Option.bind_eq_some_iff.mp h
        refine q_iast (pc := 114) dX12_draws_114 sh_28 h65 ?_
        have h := Option.some.inj h
        obtain ⟨rfl, rfl⟩ := Prod.mk.inj h
        exact q_vret (pc := 115) dX12_draws_115 rfl rfl rfl
      · rw [if_neg k57] at h
        refine q_icmp_ne_t (pc := 93) (tgt := 115) dX12_draws_93 (by decide) k57 ?_
        have h := Option.some.inj h
        obtain ⟨rfl, rfl⟩ := Prod.mk.inj h
        exact q_vret (pc := 115) dX12_draws_115 rfl rfl rfl
def f_X12_drift_L18 (x1 : Int32) : Nat → Int32 → qM → qJ → Option (Int32 × qM × qJ)
  | 0, _, _, _ => none
  | n + 1, c3, M, J =>
  if x1 ≤ c3 then some (c3, M, J)
    else (qrd M 26 57 (nI 1)).bind fun v9 => if v9 ≤ 0 then (f_X12_yearGoes_at25_28 M).bind fun M14 => f_X12_drift_L18 x1 n (c3 + nI 1) M14 J
    else (qrd M 26 57 (nI 2)).bind fun v15 => if v15 ≤ 0 then (f_X12_yearGoes_at25_28 M).bind fun M20 => f_X12_drift_L18 x1 n (c3 + nI 1) M20 J
    else (f_X12_draws M J).bind fun p21 => (f_X12_yearGoes_at25_28 p21.1).bind fun M27 => f_X12_drift_L18 x1 n (c3 + nI 1) M27 p21.2
set_option maxRecDepth 20000 in
set_option maxHeartbeats 4000000 in
theorem l_X12_drift_L18 {G : qG} {ρ : qR} (x1 : Int32) : ∀ (n : Nat) (c3 : Int32) (M : qM) (J : qJ) (res : Int32 × qM × qJ), f_X12_drift_L18 x1 n c3 M J = some res → (∀ x : Int32 × qM × qJ, res = x → QW G (qrm 7 0 0) YX12_drift 0 0 59 [some (.ref 25), none, none, none] [] SH x.2.1 x.2.2 ρ) → QW G (qrm 7 0 0) YX12_drift 0 0 18 [some (.ref 25), some (.int x1), none, some (.int c3)] [] SH M J ρ
  | 0, _, _, _, _, h, _ => by simp [f_X12_drift_L18] at h
  | n + 1, c3, M, J, res, h, hk => by
    rw [f_X12_drift_L18] at h
    refine q_iload_n (pc := 18) dX12_drift_18 rfl ?_
    refine q_iload_n (pc := 19) dX12_drift_19 rfl ?_
    by_cases k8 : x1 ≤ c3
    · rw [if_pos k8] at h
      refine q_icmp_ge_t (pc := 20) (tgt := 59) dX12_drift_20 (by decide) k8 ?_
      refine q_weak (ls' := [some (.ref 25), none, none, none]) ⟨rfl, trivial⟩ ?_
      obtain rfl := Option.some.inj h
      exact hk (c3, M, J) rfl
    · rw [if_neg k8] at h
      refine q_icmp_ge_f (pc := 20) (tgt := 59) dX12_drift_20 (by decide) k8 ?_
      refine q_aload_n (pc := 23) dX12_drift_23 rfl ?_
      refine q_getf (pc := 24) (f := 0) (v := .ref 26) dX12_drift_24 sh_25 cl_11 inX12 rfl (by decide) lk_X12_7 rfl ?_
      refine q_iconst (pc := 27) (v := nI 1) dX12_drift_27 (by decide) ?_
      obtain ⟨v9, h10, h⟩ := Option.bind_eq_some_iff.mp h
      refine q_iald (pc := 28) dX12_drift_28 sh_26 h10 ?_
      by_cases k11 : v9 ≤ 0
      · rw [if_pos k11] at h
        refine q_if_le_t (pc := 29) (tgt := 45) dX12_drift_29 (by decide) k11 ?_
        refine q_aload_n (pc := 45) dX12_drift_45 rfl ?_
        refine q_aload_n (pc := 46) dX12_drift_46 rfl ?_
        refine q_getf (pc := 47) (f := 2) (v := .ref 28) dX12_drift_47 sh_25 cl_11 inX12 rfl (by decide) lk_X12_16 rfl ?_
        obtain ⟨M14, h13, h⟩ := Option.bind_eq_some_iff.mp h
        refine q_callv (pc := 50) (st := []) (a_X12_yearGoes_at25_28 h13) okX12_yearGoes rfl dX12_drift_50 lk_X12_208 sh_25 cl_11 rfl (by decide) (by decide) (Nat.le_of_ble_eq_true rfl) ⟨Nat.le_of_ble_eq_true rfl, Nat.le_of_ble_eq_true rfl⟩ rfl ?_
        show QW G (qrm 7 0 0) YX12_drift 0 0 53 [some (.ref 25), some (.int x1), none, some (.int c3)] [] SH M14 J _
        refine q_iincW (pc := 53) (w := nI 1) (ls' := [some (.ref 25), some (.int x1), none, some (.int (c3 + nI 1))]) dX12_drift_53 rfl (by decide) (by decide) rfl rfl ?_
        refine q_goto (pc := 56) (tgt := 18) dX12_drift_56 (by decide) ?_
        exact l_X12_drift_L18 x1 n (c3 + nI 1) M14 J res h hk
      · rw [if_neg k11] at h
        refine q_if_le_f (pc := 29) (tgt := 45) dX12_drift_29 (by decide) k11 ?_
        refine q_aload_n (pc := 32) dX12_drift_32 rfl ?_
        refine q_getf (pc := 33) (f := 0) (v := .ref 26) dX12_drift_33 sh_25 cl_11 inX12 rfl (by decide) lk_X12_7 rfl ?_
        refine q_iconst (pc := 36) (v := nI 2) dX12_drift_36 (by decide) ?_
        obtain ⟨v15, h16, h⟩ := Option.bind_eq_some_iff.mp h
        refine q_iald (pc := 37) dX12_drift_37 sh_26 h16 ?_
        by_cases k17 : v15 ≤ 0
        · rw [if_pos k17] at h
          refine q_if_le_t (pc := 38) (tgt := 45) dX12_drift_38 (by decide) k17 ?_
          refine q_aload_n (pc := 45) dX12_drift_45 rfl ?_
          refine q_aload_n (pc := 46) dX12_drift_46 rfl ?_
          refine q_getf (pc := 47) (f := 2) (v := .ref 28) dX12_drift_47 sh_25 cl_11 inX12 rfl (by decide) lk_X12_16 rfl ?_
          obtain ⟨M20, h19, h⟩ := Option.bind_eq_some_iff.mp h
          refine q_callv (pc := 50) (st := []) (a_X12_yearGoes_at25_28 h19) okX12_yearGoes rfl dX12_drift_50 lk_X12_208 sh_25 cl_11 rfl (by decide) (by decide) (Nat.le_of_ble_eq_true rfl) ⟨Nat.le_of_ble_eq_true rfl, Nat.le_of_ble_eq_true rfl⟩ rfl ?_
          show QW G (qrm 7 0 0) YX12_drift 0 0 53 [some (.ref 25), some (.int x1), none, some (.int c3)] [] SH M20 J _
          refine q_iincW (pc := 53) (w := nI 1) (ls' := [some (.ref 25), some (.int x1), none, some (.int (c3 + nI 1))]) dX12_drift_53 rfl (by decide) (by decide) rfl rfl ?_
          refine q_goto (pc := 56) (tgt := 18) dX12_drift_56 (by decide) ?_
          exact l_X12_drift_L18 x1 n (c3 + nI 1) M20 J res h hk
        · rw [if_neg k17] at h
          refine q_if_le_f (pc := 38) (tgt := 45) dX12_drift_38 (by decide) k17 ?_
          refine q_aload_n (pc := 41) dX12_drift_41 rfl ?_
          obtain ⟨⟨M23, J24⟩, h22, h⟩ := Option.bind_eq_some_iff.mp h
          try dsimp only at h
          refine q_callv (pc := 42) (st := []) (a_X12_draws h22) okX12_draws rfl dX12_drift_42 lk_X12_233 sh_25 cl_11 rfl (by decide) (by decide) (Nat.le_of_ble_eq_true rfl) ⟨Nat.le_of_ble_eq_true rfl, Nat.le_of_ble_eq_true rfl⟩ rfl ?_
          show QW G (qrm 7 0 0) YX12_drift 0 0 45 [some (.ref 25), some (.int x1), none, some (.int c3)] [] SH M23 J24 _
          refine q_aload_n (pc := 45) dX12_drift_45 rfl ?_
          refine q_aload_n (pc := 46) dX12_drift_46 rfl ?_
          refine q_getf (pc := 47) (f := 2) (v := .ref 28) dX12_drift_47 sh_25 cl_11 inX12 rfl (by decide) lk_X12_16 rfl ?_
          obtain ⟨M27, h26, h⟩ := Option.bind_eq_some_iff.mp h
          refine q_callv (pc := 50) (st := []) (a_X12_yearGoes_at25_28 h26) okX12_yearGoes rfl dX12_drift_50 lk_X12_208 sh_25 cl_11 rfl (by decide) (by decide) (Nat.le_of_ble_eq_true rfl) ⟨Nat.le_of_ble_eq_true rfl, Nat.le_of_ble_eq_true rfl⟩ rfl ?_
          show QW G (qrm 7 0 0) YX12_drift 0 0 53 [some (.ref 25), some (.int x1), none, some (.int c3)] [] SH M27 J24 _
          refine q_iincW (pc := 53) (w := nI 1) (ls' := [some (.ref 25), some (.int x1), none, some (.int (c3 + nI 1))]) dX12_drift_53 rfl (by decide) (by decide) rfl rfl ?_
          refine q_goto (pc := 56) (tgt := 18) dX12_drift_56 (by decide) ?_
          exact l_X12_drift_L18 x1 n (c3 + nI 1) M27 J24 res h hk
def f_X12_drift (a1 : Int32) (M : qM) (J : qJ) : Option (Int32 × qM × qJ) :=
  (f_X12_refuses a1 M).bind fun r3 => if r3 = 0 then (f_X12_remember M).bind fun M7 => (f_X12_drift_L18 a1 qF (nI 0) M7 J).bind fun e28 => (qrd e28.2.1 28 163 (nI 0)).bind fun v31 => some (v31, e28.2.1, e28.2.2)
    else some (r3, M, J)
set_option maxRecDepth 20000 in
set_option maxHeartbeats 4000000 in
theorem a_X12_drift {G : qG} {a1 : Int32} {M : qM} {J : qJ} {r : Int32} {M' : qM} {J' : qJ} (h : f_X12_drift a1 M J = some (r, M', J')) : QM G 7 0 0 YX12_drift [.ref 25, .int a1] SH M J (some (.int r), SH, M', J') := by
  refine ⟨Nat.le_of_ble_eq_true rfl, Or.inl rfl, ?_⟩
  show QW G (qrm 7 0 0) YX12_drift 0 0 0 [some (.ref 25), some (.int a1), none, none] [] SH M J _
  unfold f_X12_drift at h
  refine q_aload_n (pc := 0) dX12_drift_0 rfl ?_
  refine q_iload_n (pc := 1) dX12_drift_1 rfl ?_
  obtain ⟨r3, h2, h⟩ := Option.bind_eq_some_iff.mp h
  refine q_callv (pc := 2) (st := []) (a_X12_refuses h2) okX12_refuses rfl dX12_drift_2 lk_X12_205 sh_25 cl_11 rfl (by decide) (by decide) (Nat.le_of_ble_eq_true rfl) ⟨Nat.le_of_ble_eq_true rfl, Nat.le_of_ble_eq_true rfl⟩ rfl ?_
  show QW G (qrm 7 0 0) YX12_drift 0 0 5 [some (.ref 25), some (.int a1), none, none] [.int r3] SH M J _
  refine q_istore_n (pc := 5) (ls' := [some (.ref 25), some (.int a1), some (.int r3), none]) dX12_drift_5 (by decide) rfl rfl ?_
  refine q_iload_n (pc := 6) dX12_drift_6 rfl ?_
  by_cases k4 : r3 = 0
  · rw [if_pos k4] at h
    refine q_if_eq_t (pc := 7) (tgt := 12) dX12_drift_7 (by decide) k4 ?_
    refine q_aload_n (pc := 12) dX12_drift_12 rfl ?_
    obtain ⟨M7, h6, h⟩ := Option.bind_eq_some_iff.mp h
    refine q_callv (pc := 13) (st := []) (a_X12_remember h6) okX12_remember rfl dX12_drift_13 lk_X12_193 sh_25 cl_11 rfl (by decide) (by decide) (Nat.le_of_ble_eq_true rfl) ⟨Nat.le_of_ble_eq_true rfl, Nat.le_of_ble_eq_true rfl⟩ rfl ?_
    show QW G (qrm 7 0 0) YX12_drift 0 0 16 [some (.ref 25), some (.int a1), some (.int r3), none] [] SH M7 J _
    refine q_iconst (pc := 16) (v := nI 0) dX12_drift_16 (by decide) ?_
    refine q_istore_n (pc := 17) (ls' := [some (.ref 25), some (.int a1), some (.int r3), some (.int (nI 0))]) dX12_drift_17 (by decide) rfl rfl ?_
    refine q_weak (ls' := [some (.ref 25), some (.int a1), none, some (.int (nI 0))]) ⟨rfl, ⟨rfl, ⟨rfl, trivial⟩⟩⟩ ?_
    obtain ⟨⟨e28_3, M29, J30⟩, h33, h⟩ := Option.bind_eq_some_iff.mp h
    try dsimp only at h
    refine l_X12_drift_L18 a1 qF (nI 0) M7 J _ h33 (fun x hx => ?_)
    subst hx
    show QW G (qrm 7 0 0) YX12_drift 0 0 59 [some (.ref 25), none, none, none] [] SH M29 J30 _
    refine q_aload_n (pc := 59) dX12_drift_59 rfl ?_
    refine q_getf (pc := 60) (f := 2) (v := .ref 28) dX12_drift_60 sh_25 cl_11 inX12 rfl (by decide) lk_X12_16 rfl ?_
    refine q_iconst (pc := 63) (v := nI 0) dX12_drift_63 (by decide) ?_
    obtain ⟨v31, h32, h⟩ := Option.bind_eq_some_iff.mp h
    refine q_iald (pc := 64) dX12_drift_64 sh_28 h32 ?_
    have h := Option.some.inj h
    obtain ⟨rfl, h9⟩ := Prod.mk.inj h
    obtain ⟨rfl, rfl⟩ := Prod.mk.inj h9
    exact q_iret (pc := 65) dX12_drift_65 rfl rfl rfl
  · rw [if_neg k4] at h
    refine q_if_eq_f (pc := 7) (tgt := 12) dX12_drift_7 (by decide) k4 ?_
    refine q_iload_n (pc := 10) dX12_drift_10 rfl ?_
    have h := Option.some.inj h
    obtain ⟨rfl, h9⟩ := Prod.mk.inj h
    obtain ⟨rfl, rfl⟩ := Prod.mk.inj h9
    exact q_iret (pc := 11) dX12_drift_11 rfl rfl rfl
def f_X12_copies_at30_28_L3 (x1 : Int32) (x3 : Int32) (x4 : Int32) : Nat → Int32 → qM → Option (Int32 × qM)
  | 0, _, _ => none
  | n + 1, c5, M =>
  if x4 ≤ c5 then some (c5, M)
    else (qrd M 30 2608 (x1 + c5)).bind fun v2 => (qwr M 28 163 (x3 + c5) v2).bind fun M4 => f_X12_copies_at30_28_L3 x1 x3 x4 n (c5 + nI 1) M4
set_option maxRecDepth 20000 in
set_option maxHeartbeats 4000000 in
theorem l_X12_copies_at30_28_L3 {G : qG} {ρ : qR} (x1 : Int32) (x3 : Int32) (x4 : Int32) (J : qJ) : ∀ (n : Nat) (c5 : Int32) (M : qM) (res : Int32 × qM), f_X12_copies_at30_28_L3 x1 x3 x4 n c5 M = some res → (∀ x : Int32 × qM, res = x → QW G (qrm 0 0 0) YX12_copies 0 0 28 [none, none, none, none, none, none] [] SH x.2 J ρ) → QW G (qrm 0 0 0) YX12_copies 0 0 3 [some (.ref 30), some (.int x1), some (.ref 28), some (.int x3), some (.int x4), some (.int c5)] [] SH M J ρ
  | 0, _, _, _, h, _ => by simp [f_X12_copies_at30_28_L3] at h
  | n + 1, c5, M, res, h, hk => by
    rw [f_X12_copies_at30_28_L3] at h
    refine q_iload (pc := 3) dX12_copies_3 rfl ?_
    refine q_iload (pc := 5) dX12_copies_5 rfl ?_
    by_cases k1 : x4 ≤ c5
    · rw [if_pos k1] at h
      refine q_icmp_ge_t (pc := 7) (tgt := 28) dX12_copies_7 (by decide) k1 ?_
      refine q_weak (ls' := [none, none, none, none, none, none]) trivial ?_
      obtain rfl := Option.some.inj h
      exact hk (c5, M) rfl
    · rw [if_neg k1] at h
      refine q_icmp_ge_f (pc := 7) (tgt := 28) dX12_copies_7 (by decide) k1 ?_
      refine q_aload_n (pc := 10) dX12_copies_10 rfl ?_
      refine q_iload_n (pc := 11) dX12_copies_11 rfl ?_
      refine q_iload (pc := 12) dX12_copies_12 rfl ?_
      refine q_iadd (pc := 14) dX12_copies_14 ?_
      refine q_aload_n (pc := 15) dX12_copies_15 rfl ?_
      refine q_iload_n (pc := 16) dX12_copies_16 rfl ?_
      refine q_iload (pc := 17) dX12_copies_17 rfl ?_
      refine q_iadd (pc := 19) dX12_copies_19 ?_
      obtain ⟨v2, h3, h⟩ := Option.bind_eq_some_iff.mp h
      refine q_iald (pc := 20) dX12_copies_20 sh_30 h3 ?_
      obtain ⟨M4, h5, h⟩ := Option.bind_eq_some_iff.mp h
      refine q_iast (pc := 21) dX12_copies_21 sh_28 h5 ?_
      refine q_iincW (pc := 22) (w := nI 1) (ls' := [some (.ref 30), some (.int x1), some (.ref 28), some (.int x3), some (.int x4), some (.int (c5 + nI 1))]) dX12_copies_22 rfl (by decide) (by decide) rfl rfl ?_
      refine q_goto (pc := 25) (tgt := 3) dX12_copies_25 (by decide) ?_
      exact l_X12_copies_at30_28_L3 x1 x3 x4 J n (c5 + nI 1) M4 res h hk
def f_X12_copies_at30_28 (a1 : Int32) (a3 : Int32) (a4 : Int32) (M : qM) : Option qM :=
  (f_X12_copies_at30_28_L3 a1 a3 a4 qF (nI 0) M).bind fun e6 => some (e6.2)
set_option maxRecDepth 20000 in
set_option maxHeartbeats 4000000 in
theorem a_X12_copies_at30_28 {G : qG} {a1 : Int32} {a3 : Int32} {a4 : Int32} {M : qM} {J : qJ} {M' : qM} (h : f_X12_copies_at30_28 a1 a3 a4 M = some (M')) : QM G 0 0 0 YX12_copies [.ref 30, .int a1, .ref 28, .int a3, .int a4] SH M J (none, SH, M', J) := by
  refine ⟨Nat.le_of_ble_eq_true rfl, rfl, ?_⟩
  show QW G (qrm 0 0 0) YX12_copies 0 0 0 [some (.ref 30), some (.int a1), some (.ref 28), some (.int a3), some (.int a4), none] [] SH M J _
  unfold f_X12_copies_at30_28 at h
  refine q_iconst (pc := 0) (v := nI 0) dX12_copies_0 (by decide) ?_
  refine q_istore (pc := 1) (ls' := [some (.ref 30), some (.int a1), some (.ref 28), some (.int a3), some (.int a4), some (.int (nI 0))]) dX12_copies_1 (by decide) rfl rfl ?_
  obtain ⟨⟨e6_5, M7⟩, h8, h⟩ := Option.bind_eq_some_iff.mp h
  try dsimp only at h
  refine l_X12_copies_at30_28_L3 a1 a3 a4 J qF (nI 0) M _ h8 (fun x hx => ?_)
  subst hx
  show QW G (qrm 0 0 0) YX12_copies 0 0 28 [none, none, none, none, none, none] [] SH M7 J _
  obtain rfl := Option.some.inj h
  exact q_vret (pc := 28) dX12_copies_28 rfl rfl rfl
def f_X12_undo  (M : qM) : Option (Int32 × qM) :=
  if (M 25 5) = 0 then some ((-1000000003 : Int32), M)
    else (qpu M 25 5 ((M 25 5) - (nI 1))).bind fun M2 => (f_X12_copies_at30_28 ((nI 163) * (M2 25 5)) (nI 0) (nI 163) M2).bind fun M6 => some (M6 25 5, M6)
set_option maxRecDepth 20000 in
set_option maxHeartbeats 4000000 in
theorem a_X12_undo {G : qG}  {M : qM} {J : qJ} {r : Int32} {M' : qM} (h : f_X12_undo  M = some (r, M')) : QM G 1 0 0 YX12_undo [.ref 25] SH M J (some (.int r), SH, M', J) := by
  refine ⟨Nat.le_of_ble_eq_true rfl, Or.inl rfl, ?_⟩
  show QW G (qrm 1 0 0) YX12_undo 0 0 0 [some (.ref 25)] [] SH M J _
  unfold f_X12_undo at h
  refine q_aload_n (pc := 0) dX12_undo_0 rfl ?_
  refine q_getf (pc := 1) (f := 5) (v := .int (M 25 5)) dX12_undo_1 sh_25 cl_11 inX12 rfl (by decide) lk_X12_66 rfl ?_
  by_cases k1 : (M 25 5) = 0
  · rw [if_pos k1] at h
    refine q_if_ne_f (pc := 4) (tgt := 10) dX12_undo_4 (by decide) k1 ?_
    refine q_ldc (pc := 7) (v := (-1000000003 : Int32)) dX12_undo_7 lk_X12_192 ?_
    have h := Option.some.inj h
    obtain ⟨rfl, rfl⟩ := Prod.mk.inj h
    exact q_iret (pc := 9) dX12_undo_9 rfl rfl rfl
  · rw [if_neg k1] at h
    refine q_if_ne_t (pc := 4) (tgt := 10) dX12_undo_4 (by decide) k1 ?_
    refine q_aload_n (pc := 10) dX12_undo_10 rfl ?_
    refine q_dup (pc := 11) dX12_undo_11 rfl ?_
    refine q_getf (pc := 12) (f := 5) (v := .int (M 25 5)) dX12_undo_12 sh_25 cl_11 inX12 rfl (by decide) lk_X12_66 rfl ?_
    refine q_iconst (pc := 15) (v := nI 1) dX12_undo_15 (by decide) ?_
    refine q_isub (pc := 16) dX12_undo_16 ?_
    obtain ⟨M2, h3, h⟩ := Option.bind_eq_some_iff.mp h
    refine q_putI (pc := 17) (f := 5) tyX12 dX12_undo_17 sh_25 cl_11 inX12 tyX12_ok nmX12 rfl (by decide) lk_X12_66 rfl rfl rfl h3 ?_
    refine q_aload_n (pc := 20) dX12_undo_20 rfl ?_
    refine q_getf (pc := 21) (f := 4) (v := .ref 30) dX12_undo_21 sh_25 cl_11 inX12 rfl (by decide) lk_X12_22 rfl ?_
    refine q_sipush (pc := 24) (v := nI 163) dX12_undo_24 (by decide) ?_
    refine q_aload_n (pc := 27) dX12_undo_27 rfl ?_
    refine q_getf (pc := 28) (f := 5) (v := .int (M2 25 5)) dX12_undo_28 sh_25 cl_11 inX12 rfl (by decide) lk_X12_66 rfl ?_
    refine q_imul (pc := 31) dX12_undo_31 ?_
    refine q_aload_n (pc := 32) dX12_undo_32 rfl ?_
    refine q_getf (pc := 33) (f := 2) (v := .ref 28) dX12_undo_33 sh_25 cl_11 inX12 rfl (by decide) lk_X12_16 rfl ?_
    refine q_iconst (pc := 36) (v := nI 0) dX12_undo_36 (by decide) ?_
    refine q_sipush (pc := 37) (v := nI 163) dX12_undo_37 (by decide) ?_
    obtain ⟨M6, h5, h⟩ := Option.bind_eq_some_iff.mp h
    refine q_calls (pc := 40) (st := []) (a_X12_copies_at30_28 h5) okX12_copies rfl dX12_undo_40 lk_X12_62 rfl (by decide) (by decide) (Nat.le_of_ble_eq_true rfl) ⟨Nat.le_of_ble_eq_true rfl, Nat.le_of_ble_eq_true rfl⟩ rfl ?_
    show QW G (qrm 1 0 0) YX12_undo 0 0 43 [some (.ref 25)] [] SH M6 J _
    refine q_aload_n (pc := 43) dX12_undo_43 rfl ?_
    refine q_getf (pc := 44) (f := 5) (v := .int (M6 25 5)) dX12_undo_44 sh_25 cl_11 inX12 rfl (by decide) lk_X12_66 rfl ?_
    have h := Option.some.inj h
    obtain ⟨rfl, rfl⟩ := Prod.mk.inj h
    exact q_iret (pc := 47) dX12_undo_47 rfl rfl rfl
def f_X12_copies_at28_29_L3 (x1 : Int32) (x3 : Int32) (x4 : Int32) : Nat → Int32 → qM → Option (Int32 × qM)
  | 0, _, _ => none
  | n + 1, c5, M =>
  if x4 ≤ c5 then some (c5, M)
    else (qrd M 28 163 (x1 + c5)).bind fun v2 => (qwr M 29 163 (x3 + c5) v2).bind fun M4 => f_X12_copies_at28_29_L3 x1 x3 x4 n (c5 + nI 1) M4
set_option maxRecDepth 20000 in
set_option maxHeartbeats 4000000 in
theorem l_X12_copies_at28_29_L3 {G : qG} {ρ : qR} (x1 : Int32) (x3 : Int32) (x4 : Int32) (J : qJ) : ∀ (n : Nat) (c5 : Int32) (M : qM) (res : Int32 × qM), f_X12_copies_at28_29_L3 x1 x3 x4 n c5 M = some res → (∀ x : Int32 × qM, res = x → QW G (qrm 0 0 0) YX12_copies 0 0 28 [none, none, none, none, none, none] [] SH x.2 J ρ) → QW G (qrm 0 0 0) YX12_copies 0 0 3 [some (.ref 28), some (.int x1), some (.ref 29), some (.int x3), some (.int x4), some (.int c5)] [] SH M J ρ
  | 0, _, _, _, h, _ => by simp [f_X12_copies_at28_29_L3] at h
  | n + 1, c5, M, res, h, hk => by
    rw [f_X12_copies_at28_29_L3] at h
    refine q_iload (pc := 3) dX12_copies_3 rfl ?_
    refine q_iload (pc := 5) dX12_copies_5 rfl ?_
    by_cases k1 : x4 ≤ c5
    · rw [if_pos k1] at h
      refine q_icmp_ge_t (pc := 7) (tgt := 28) dX12_copies_7 (by decide) k1 ?_
      refine q_weak (ls' := [none, none, none, none, none, none]) trivial ?_
      obtain rfl := Option.some.inj h
      exact hk (c5, M) rfl
    · rw [if_neg k1] at h
      refine q_icmp_ge_f (pc := 7) (tgt := 28) dX12_copies_7 (by decide) k1 ?_
      refine q_aload_n (pc := 10) dX12_copies_10 rfl ?_
      refine q_iload_n (pc := 11) dX12_copies_11 rfl ?_
      refine q_iload (pc := 12) dX12_copies_12 rfl ?_
      refine q_iadd (pc := 14) dX12_copies_14 ?_
      refine q_aload_n (pc := 15) dX12_copies_15 rfl ?_
      refine q_iload_n (pc := 16) dX12_copies_16 rfl ?_
      refine q_iload (pc := 17) dX12_copies_17 rfl ?_
      refine q_iadd (pc := 19) dX12_copies_19 ?_
      obtain ⟨v2, h3, h⟩ := Option.bind_eq_some_iff.mp h
      refine q_iald (pc := 20) dX12_copies_20 sh_28 h3 ?_
      obtain ⟨M4, h5, h⟩ := Option.bind_eq_some_iff.mp h
      refine q_iast (pc := 21) dX12_copies_21 sh_29 h5 ?_
      refine q_iincW (pc := 22) (w := nI 1) (ls' := [some (.ref 28), some (.int x1), some (.ref 29), some (.int x3), some (.int x4), some (.int (c5 + nI 1))]) dX12_copies_22 rfl (by decide) (by decide) rfl rfl ?_
      refine q_goto (pc := 25) (tgt := 3) dX12_copies_25 (by decide) ?_
      exact l_X12_copies_at28_29_L3 x1 x3 x4 J n (c5 + nI 1) M4 res h hk
def f_X12_copies_at28_29 (a1 : Int32) (a3 : Int32) (a4 : Int32) (M : qM) : Option qM :=
  (f_X12_copies_at28_29_L3 a1 a3 a4 qF (nI 0) M).bind fun e6 => some (e6.2)
set_option maxRecDepth 20000 in
set_option maxHeartbeats 4000000 in
theorem a_X12_copies_at28_29 {G : qG} {a1 : Int32} {a3 : Int32} {a4 : Int32} {M : qM} {J : qJ} {M' : qM} (h : f_X12_copies_at28_29 a1 a3 a4 M = some (M')) : QM G 0 0 0 YX12_copies [.ref 28, .int a1, .ref 29, .int a3, .int a4] SH M J (none, SH, M', J) := by
  refine ⟨Nat.le_of_ble_eq_true rfl, rfl, ?_⟩
  show QW G (qrm 0 0 0) YX12_copies 0 0 0 [some (.ref 28), some (.int a1), some (.ref 29), some (.int a3), some (.int a4), none] [] SH M J _
  unfold f_X12_copies_at28_29 at h
  refine q_iconst (pc := 0) (v := nI 0) dX12_copies_0 (by decide) ?_
  refine q_istore (pc := 1) (ls' := [some (.ref 28), some (.int a1), some (.ref 29), some (.int a3), some (.int a4), some (.int (nI 0))]) dX12_copies_1 (by decide) rfl rfl ?_
  obtain ⟨⟨e6_5, M7⟩, h8, h⟩ := Option.bind_eq_some_iff.mp h
  try dsimp only at h
  refine l_X12_copies_at28_29_L3 a1 a3 a4 J qF (nI 0) M _ h8 (fun x hx => ?_)
  subst hx
  show QW G (qrm 0 0 0) YX12_copies 0 0 28 [none, none, none, none, none, none] [] SH M7 J _
  obtain rfl := Option.some.inj h
  exact q_vret (pc := 28) dX12_copies_28 rfl rfl rfl
def f_X12_layAside  (M : qM) : Option qM :=
  (f_X12_copies_at28_29 (nI 0) (nI 0) (nI 163) M).bind fun M3 => some (M3)
set_option maxRecDepth 20000 in
set_option maxHeartbeats 4000000 in
theorem a_X12_layAside {G : qG}  {M : qM} {J : qJ} {M' : qM} (h : f_X12_layAside  M = some (M')) : QM G 1 0 0 YX12_layAside [.ref 25] SH M J (none, SH, M', J) := by
  refine ⟨Nat.le_of_ble_eq_true rfl, rfl, ?_⟩
  show QW G (qrm 1 0 0) YX12_layAside 0 0 0 [some (.ref 25)] [] SH M J _
  unfold f_X12_layAside at h
  refine q_aload_n (pc := 0) dX12_layAside_0 rfl ?_
  refine q_getf (pc := 1) (f := 2) (v := .ref 28) dX12_layAside_1 sh_25 cl_11 inX12 rfl (by decide) lk_X12_16 rfl ?_
  refine q_iconst (pc := 4) (v := nI 0) dX12_layAside_4 (by decide) ?_
  refine q_aload_n (pc := 5) dX12_layAside_5 rfl ?_
  refine q_getf (pc := 6) (f := 3) (v := .ref 29) dX12_layAside_6 sh_25 cl_11 inX12 rfl (by decide) lk_X12_19 rfl ?_
  refine q_iconst (pc := 9) (v := nI 0) dX12_layAside_9 (by decide) ?_
  refine q_sipush (pc := 10) (v := nI 163) dX12_layAside_10 (by decide) ?_
  obtain ⟨M3, h2, h⟩ := Option.bind_eq_some_iff.mp h
  refine q_calls (pc := 13) (st := []) (a_X12_copies_at28_29 h2) okX12_copies rfl dX12_layAside_13 lk_X12_62 rfl (by decide) (by decide) (Nat.le_of_ble_eq_true rfl) ⟨Nat.le_of_ble_eq_true rfl, Nat.le_of_ble_eq_true rfl⟩ rfl ?_
  show QW G (qrm 1 0 0) YX12_layAside 0 0 16 [some (.ref 25)] [] SH M3 J _
  obtain rfl := Option.some.inj h
  exact q_vret (pc := 16) dX12_layAside_16 rfl rfl rfl
