def f_X12_reasonOn_at25_29_L6 (x2 : Int32) (x3 : Int32) (M : qM) : Nat → Int32 → Int32 → Option (Int32 × Int32)
  | 0, _, _ => none
  | n + 1, c4, c5 =>
  if (nI 5) ≤ c5 then some (c4, c5)
    else (qrd M 26 57 ((nI 39) + x2)).bind fun v2 => if v2 = (nI 3) then some (c4, c5)
    else if c4 = (-1 : Int32) then (qrd M 29 163 ((nI 55) + x2)).bind fun v6 => (f_X12_has v6 c5 M).bind fun b10 => if b10 = true then f_X12_reasonOn_at25_29_L6 x2 x3 M n c5 (c5 + nI 1)
    else f_X12_reasonOn_at25_29_L6 x2 x3 M n c4 (c5 + nI 1)
    else (qrd M 29 163 (((nI 19) + ((nI 5) * x3)) + c5)).bind fun v12 => (qrd M 29 163 (((nI 19) + ((nI 5) * x3)) + c4)).bind fun v14 => if v12 ≤ v14 then (qrd M 29 163 ((nI 55) + x2)).bind fun v17 => (f_X12_has v17 c5 M).bind fun b21 => if b21 = true then f_X12_reasonOn_at25_29_L6 x2 x3 M n c4 (c5 + nI 1)
    else f_X12_reasonOn_at25_29_L6 x2 x3 M n c4 (c5 + nI 1)
    else (qrd M 29 163 ((nI 55) + x2)).bind fun v23 => (f_X12_has v23 c5 M).bind fun b27 => if b27 = true then f_X12_reasonOn_at25_29_L6 x2 x3 M n c5 (c5 + nI 1)
    else f_X12_reasonOn_at25_29_L6 x2 x3 M n c4 (c5 + nI 1)
set_option maxRecDepth 20000 in
set_option maxHeartbeats 4000000 in
theorem l_X12_reasonOn_at25_29_L6 {G : qG} {ρ : qR} (x2 : Int32) (x3 : Int32) (M : qM) (J : qJ) : ∀ (n : Nat) (c4 : Int32) (c5 : Int32) (res : Int32 × Int32), f_X12_reasonOn_at25_29_L6 x2 x3 M n c4 c5 = some res → (∀ x : Int32 × Int32, res = x → QW G (qrm 1 0 0) YX12_reasonOn 0 0 97 [none, none, none, none, some (.int x.1), none, none] [] SH M J ρ) → QW G (qrm 1 0 0) YX12_reasonOn 0 0 6 [some (.ref 25), some (.ref 29), some (.int x2), some (.int x3), some (.int c4), some (.int c5), none] [] SH M J ρ
  | 0, _, _, _, h, _ => by simp [f_X12_reasonOn_at25_29_L6] at h
  | n + 1, c4, c5, res, h, hk => by
    rw [f_X12_reasonOn_at25_29_L6] at h
    refine q_iload (pc := 6) dX12_reasonOn_6 rfl ?_
    refine q_iconst (pc := 8) (v := nI 5) dX12_reasonOn_8 (by decide) ?_
    by_cases k1 : (nI 5) ≤ c5
    · rw [if_pos k1] at h
      refine q_icmp_ge_t (pc := 9) (tgt := 97) dX12_reasonOn_9 (by decide) k1 ?_
      refine q_weak (ls' := [none, none, none, none, some (.int c4), none, none]) ⟨rfl, trivial⟩ ?_
      obtain rfl := Option.some.inj h
      exact hk (c4, c5) rfl
    · rw [if_neg k1] at h
      refine q_icmp_ge_f (pc := 9) (tgt := 97) dX12_reasonOn_9 (by decide) k1 ?_
      refine q_aload_n (pc := 12) dX12_reasonOn_12 rfl ?_
      refine q_getf (pc := 13) (f := 0) (v := .ref 26) dX12_reasonOn_13 sh_25 cl_11 inX12 rfl (by decide) lk_X12_7 rfl ?_
      refine q_bipush (pc := 16) (v := nI 39) dX12_reasonOn_16 (by decide) ?_
      refine q_iload_n (pc := 18) dX12_reasonOn_18 rfl ?_
      refine q_iadd (pc := 19) dX12_reasonOn_19 ?_
      obtain ⟨v2, h3, h⟩ := Option.bind_eq_some_iff.mp h
      refine q_iald (pc := 20) dX12_reasonOn_20 sh_26 h3 ?_
      refine q_iconst (pc := 21) (v := nI 3) dX12_reasonOn_21 (by decide) ?_
      by_cases k4 : v2 = (nI 3)
      · rw [if_pos k4] at h
        refine q_icmp_eq_t (pc := 22) (tgt := 97) dX12_reasonOn_22 (by decide) k4 ?_
        refine q_weak (ls' := [none, none, none, none, some (.int c4), none, none]) ⟨rfl, trivial⟩ ?_
        obtain rfl := Option.some.inj h
        exact hk (c4, c5) rfl
      · rw [if_neg k4] at h
        refine q_icmp_eq_f (pc := 22) (tgt := 97) dX12_reasonOn_22 (by decide) k4 ?_
        refine q_iload (pc := 25) dX12_reasonOn_25 rfl ?_
        refine q_iconst (pc := 27) (v := (-1 : Int32)) dX12_reasonOn_27 (by decide) ?_
        by_cases k5 : c4 = (-1 : Int32)
        · rw [if_pos k5] at h
          refine q_icmp_eq_t (pc := 28) (tgt := 56) dX12_reasonOn_28 (by decide) k5 ?_
          refine q_iconst (pc := 56) (v := nI 1) dX12_reasonOn_56 (by decide) ?_
          refine q_goto (pc := 57) (tgt := 61) dX12_reasonOn_57 (by decide) ?_
          refine q_istore (pc := 61) (ls' := [some (.ref 25), some (.ref 29), some (.int x2), some (.int x3), some (.int c4), some (.int c5), some (.int (nI 1))]) dX12_reasonOn_61 (by decide) rfl rfl ?_
          refine q_aload_n (pc := 63) dX12_reasonOn_63 rfl ?_
          refine q_bipush (pc := 64) (v := nI 55) dX12_reasonOn_64 (by decide) ?_
          refine q_iload_n (pc := 66) dX12_reasonOn_66 rfl ?_
          refine q_iadd (pc := 67) dX12_reasonOn_67 ?_
          obtain ⟨v6, h7, h⟩ := Option.bind_eq_some_iff.mp h
          refine q_iald (pc := 68) dX12_reasonOn_68 sh_29 h7 ?_
          refine q_iload (pc := 69) dX12_reasonOn_69 rfl ?_
          obtain ⟨b10, h9, h⟩ := Option.bind_eq_some_iff.mp h
          refine q_calls (pc := 71) (st := []) (a_X12_has h9) okX12_has rfl dX12_reasonOn_71 lk_X12_132 rfl (by decide) (by decide) (Nat.le_of_ble_eq_true rfl) ⟨Nat.le_of_ble_eq_true rfl, Nat.le_of_ble_eq_true rfl⟩ rfl ?_
          show QW G (qrm 1 0 0) YX12_reasonOn 0 0 74 [some (.ref 25), some (.ref 29), some (.int x2), some (.int x3), some (.int c4), some (.int c5), some (.int (nI 1))] [.int (qb b10)] SH M J _
          by_cases k11 : b10 = true
          · rw [if_pos k11] at h
            refine q_if_eq_f (pc := 74) (tgt := 87) dX12_reasonOn_74 (by decide) (qb_t k11) ?_
            refine q_iload (pc := 77) dX12_reasonOn_77 rfl ?_
            refine q_if_eq_f (pc := 79) (tgt := 87) dX12_reasonOn_79 (by decide) (by decide) ?_
            refine q_iload (pc := 82) dX12_reasonOn_82 rfl ?_
            refine q_goto (pc := 84) (tgt := 89) dX12_reasonOn_84 (by decide) ?_
            refine q_istore (pc := 89) (ls' := [some (.ref 25), some (.ref 29), some (.int x2), some (.int x3), some (.int c5), some (.int c5), some (.int (nI 1))]) dX12_reasonOn_89 (by decide) rfl rfl ?_
            refine q_iincW (pc := 91) (w := nI 1) (ls' := [some (.ref 25), some (.ref 29), some (.int x2), some (.int x3), some (.int c5), some (.int (c5 + nI 1)), some (.int (nI 1))]) dX12_reasonOn_91 rfl (by decide) (by decide) rfl rfl ?_
            refine q_goto (pc := 94) (tgt := 6) dX12_reasonOn_94 (by decide) ?_
            refine q_weak (ls' := [some (.ref 25), some (.ref 29), some (.int x2), some (.int x3), some (.int c5), some (.int (c5 + nI 1)), none]) ⟨rfl, ⟨rfl, ⟨rfl, ⟨rfl, ⟨rfl, ⟨rfl, trivial⟩⟩⟩⟩⟩⟩ ?_
            exact l_X12_reasonOn_at25_29_L6 x2 x3 M J n c5 (c5 + nI 1) res h hk
          · rw [if_neg k11] at h
            refine q_if_eq_t (pc := 74) (tgt := 87) dX12_reasonOn_74 (by decide) (qb_f k11) ?_
            refine q_iload (pc := 87) dX12_reasonOn_87 rfl ?_
            refine q_istore (pc := 89) (ls' := [some (.ref 25), some (.ref 29), some (.int x2), some (.int x3), some (.int c4), some (.int c5), some (.int (nI 1))]) dX12_reasonOn_89 (by decide) rfl rfl ?_
            refine q_iincW (pc := 91) (w := nI 1) (ls' := [some (.ref 25), some (.ref 29), some (.int x2), some (.int x3), some (.int c4), some (.int (c5 + nI 1)), some (.int (nI 1))]) dX12_reasonOn_91 rfl (by decide) (by decide) rfl rfl ?_
            refine q_goto (pc := 94) (tgt := 6) dX12_reasonOn_94 (by decide) ?_
            refine q_weak (ls' := [some (.ref 25), some (.ref 29), some (.int x2), some (.int x3), some (.int c4), some (.int (c5 + nI 1)), none]) ⟨rfl, ⟨rfl, ⟨rfl, ⟨rfl, ⟨rfl, ⟨rfl, trivial⟩⟩⟩⟩⟩⟩ ?_
            exact l_X12_reasonOn_at25_29_L6 x2 x3 M J n c4 (c5 + nI 1) res h hk
        · rw [if_neg k5] at h
          refine q_icmp_eq_f (pc := 28) (tgt := 56) dX12_reasonOn_28 (by decide) k5 ?_
          refine q_aload_n (pc := 31) dX12_reasonOn_31 rfl ?_
          refine q_bipush (pc := 32) (v := nI 19) dX12_reasonOn_32 (by decide) ?_
          refine q_iconst (pc := 34) (v := nI 5) dX12_reasonOn_34 (by decide) ?_
          refine q_iload_n (pc := 35) dX12_reasonOn_35 rfl ?_
          refine q_imul (pc := 36) dX12_reasonOn_36 ?_
          refine q_iadd (pc := 37) dX12_reasonOn_37 ?_
          refine q_iload (pc := 38) dX12_reasonOn_38 rfl ?_
          refine q_iadd (pc := 40) dX12_reasonOn_40 ?_
          obtain ⟨v12, h13, h⟩ := Option.bind_eq_some_iff.mp h
          refine q_iald (pc := 41) dX12_reasonOn_41 sh_29 h13 ?_
          refine q_aload_n (pc := 42) dX12_reasonOn_42 rfl ?_
          refine q_bipush (pc := 43) (v := nI 19) dX12_reasonOn_43 (by decide) ?_
          refine q_iconst (pc := 45) (v := nI 5) dX12_reasonOn_45 (by decide) ?_
          refine q_iload_n (pc := 46) dX12_reasonOn_46 rfl ?_
          refine q_imul (pc := 47) dX12_reasonOn_47 ?_
          refine q_iadd (pc := 48) dX12_reasonOn_48 ?_
          refine q_iload (pc := 49) dX12_reasonOn_49 rfl ?_
          refine q_iadd (pc := 51) dX12_reasonOn_51 ?_
          obtain ⟨v14, h15, h⟩ := Option.bind_eq_some_iff.mp h
          refine q_iald (pc := 52) dX12_reasonOn_52 sh_29 h15 ?_
          by_cases k16 : v12 ≤ v14
          · rw [if_pos k16] at h
            refine q_icmp_le_t (pc := 53) (tgt := 60) dX12_reasonOn_53 (by decide) k16 ?_
            refine q_iconst (pc := 60) (v := nI 0) dX12_reasonOn_60 (by decide) ?_
            refine q_istore (pc := 61) (ls' := [some (.ref 25), some (.ref 29), some (.int x2), some (.int x3), some (.int c4), some (.int c5), some (.int (nI 0))]) dX12_reasonOn_61 (by decide) rfl rfl ?_
            refine q_aload_n (pc := 63) dX12_reasonOn_63 rfl ?_
            refine q_bipush (pc := 64) (v := nI 55) dX12_reasonOn_64 (by decide) ?_
            refine q_iload_n (pc := 66) dX12_reasonOn_66 rfl ?_
            refine q_iadd (pc := 67) dX12_reasonOn_67 ?_
            obtain ⟨v17, h18, h⟩ := Option.bind_eq_some_iff.mp h
            refine q_iald (pc := 68) dX12_reasonOn_68 sh_29 h18 ?_
            refine q_iload (pc := 69) dX12_reasonOn_69 rfl ?_
            obtain ⟨b21, h20, h⟩ := Option.bind_eq_some_iff.mp h
            refine q_calls (pc := 71) (st := []) (a_X12_has h20) okX12_has rfl dX12_reasonOn_71 lk_X12_132 rfl (by decide) (by decide) (Nat.le_of_ble_eq_true rfl) ⟨Nat.le_of_ble_eq_true rfl, Nat.le_of_ble_eq_true rfl⟩ rfl ?_
            show QW G (qrm 1 0 0) YX12_reasonOn 0 0 74 [some (.ref 25), some (.ref 29), some (.int x2), some (.int x3), some (.int c4), some (.int c5), some (.int (nI 0))] [.int (qb b21)] SH M J _
            by_cases k22 : b21 = true
            · rw [if_pos k22] at h
              refine q_if_eq_f (pc := 74) (tgt := 87) dX12_reasonOn_74 (by decide) (qb_t k22) ?_
              refine q_iload (pc := 77) dX12_reasonOn_77 rfl ?_
              refine q_if_eq_t (pc := 79) (tgt := 87) dX12_reasonOn_79 (by decide) (by decide) ?_
              refine q_iload (pc := 87) dX12_reasonOn_87 rfl ?_
              refine q_istore (pc := 89) (ls' := [some (.ref 25), some (.ref 29), some (.int x2), some (.int x3), some (.int c4), some (.int c5), some (.int (nI 0))]) dX12_reasonOn_89 (by decide) rfl rfl ?_
              refine q_iincW (pc := 91) (w := nI 1) (ls' := [some (.ref 25), some (.ref 29), some (.int x2), some (.int x3), some (.int c4), some (.int (c5 + nI 1)), some (.int (nI 0))]) dX12_reasonOn_91 rfl (by decide) (by decide) rfl rfl ?_
              refine q_goto (pc := 94) (tgt := 6) dX12_reasonOn_94 (by decide) ?_
              refine q_weak (ls' := [some (.ref 25), some (.ref 29), some (.int x2), some (.int x3), some (.int c4), some (.int (c5 + nI 1)), none]) ⟨rfl, ⟨rfl, ⟨rfl, ⟨rfl, ⟨rfl, ⟨rfl, trivial⟩⟩⟩⟩⟩⟩ ?_
              exact l_X12_reasonOn_at25_29_L6 x2 x3 M J n c4 (c5 + nI 1) res h hk
            · rw [if_neg k22] at h
              refine q_if_eq_t (pc := 74) (tgt := 87) dX12_reasonOn_74 (by decide) (qb_f k22) ?_
              refine q_iload (pc := 87) dX12_reasonOn_87 rfl ?_
              refine q_istore (pc := 89) (ls' := [some (.ref 25), some (.ref 29), some (.int x2), some (.int x3), some (.int c4), some (.int c5), some (.int (nI 0))]) dX12_reasonOn_89 (by decide) rfl rfl ?_
              refine q_iincW (pc := 91) (w := nI 1) (ls' := [some (.ref 25), some (.ref 29), some (.int x2), some (.int x3), some (.int c4), some (.int (c5 + nI 1)), some (.int (nI 0))]) dX12_reasonOn_91 rfl (by decide) (by decide) rfl rfl ?_
              refine q_goto (pc := 94) (tgt := 6) dX12_reasonOn_94 (by decide) ?_
              refine q_weak (ls' := [some (.ref 25), some (.ref 29), some (.int x2), some (.int x3), some (.int c4), some (.int (c5 + nI 1)), none]) ⟨rfl, ⟨rfl, ⟨rfl, ⟨rfl, ⟨rfl, ⟨rfl, trivial⟩⟩⟩⟩⟩⟩ ?_
              exact l_X12_reasonOn_at25_29_L6 x2 x3 M J n c4 (c5 + nI 1) res h hk
          · rw [if_neg k16] at h
            refine q_icmp_le_f (pc := 53) (tgt := 60) dX12_reasonOn_53 (by decide) k16 ?_
            refine q_iconst (pc := 56) (v := nI 1) dX12_reasonOn_56 (by decide) ?_
            refine q_goto (pc := 57) (tgt := 61) dX12_reasonOn_57 (by decide) ?_
            refine q_istore (pc := 61) (ls' := [some (.ref 25), some (.ref 29), some (.int x2), some (.int x3), some (.int c4), some (.int c5), some (.int (nI 1))]) dX12_reasonOn_61 (by decide) rfl rfl ?_
            refine q_aload_n (pc := 63) dX12_reasonOn_63 rfl ?_
            refine q_bipush (pc := 64) (v := nI 55) dX12_reasonOn_64 (by decide) ?_
            refine q_iload_n (pc := 66) dX12_reasonOn_66 rfl ?_
            refine q_iadd (pc := 67) dX12_reasonOn_67 ?_
            obtain ⟨v23, h24, h⟩ := Option.bind_eq_some_iff.mp h
            refine q_iald (pc := 68) dX12_reasonOn_68 sh_29 h24 ?_
            refine q_iload (pc := 69) dX12_reasonOn_69 rfl ?_
            obtain ⟨b27, h26, h⟩ := Option.bind_eq_some_iff.mp h
            refine q_calls (pc := 71) (st := []) (a_X12_has h26) okX12_has rfl dX12_reasonOn_71 lk_X12_132 rfl (by decide) (by decide) (Nat.le_of_ble_eq_true rfl) ⟨Nat.le_of_ble_eq_true rfl, Nat.le_of_ble_eq_true rfl⟩ rfl ?_
            show QW G (qrm 1 0 0) YX12_reasonOn 0 0 74 [some (.ref 25), some (.ref 29), some (.int x2), some (.int x3), some (.int c4), some (.int c5), some (.int (nI 1))] [.int (qb b27)] SH M J _
            by_cases k28 : b27 = true
            · rw [if_pos k28] at h
              refine q_if_eq_f (pc := 74) (tgt := 87) dX12_reasonOn_74 (by decide) (qb_t k28) ?_
              refine q_iload (pc := 77) dX12_reasonOn_77 rfl ?_
              refine q_if_eq_f (pc := 79) (tgt := 87) dX12_reasonOn_79 (by decide) (by decide) ?_
              refine q_iload (pc := 82) dX12_reasonOn_82 rfl ?_
              refine q_goto (pc := 84) (tgt := 89) dX12_reasonOn_84 (by decide) ?_
              refine q_istore (pc := 89) (ls' := [some (.ref 25), some (.ref 29), some (.int x2), some (.int x3), some (.int c5), some (.int c5), some (.int (nI 1))]) dX12_reasonOn_89 (by decide) rfl rfl ?_
              refine q_iincW (pc := 91) (w := nI 1) (ls' := [some (.ref 25), some (.ref 29), some (.int x2), some (.int x3), some (.int c5), some (.int (c5 + nI 1)), some (.int (nI 1))]) dX12_reasonOn_91 rfl (by decide) (by decide) rfl rfl ?_
              refine q_goto (pc := 94) (tgt := 6) dX12_reasonOn_94 (by decide) ?_
              refine q_weak (ls' := [some (.ref 25), some (.ref 29), some (.int x2), some (.int x3), some (.int c5), some (.int (c5 + nI 1)), none]) ⟨rfl, ⟨rfl, ⟨rfl, ⟨rfl, ⟨rfl, ⟨rfl, trivial⟩⟩⟩⟩⟩⟩ ?_
              exact l_X12_reasonOn_at25_29_L6 x2 x3 M J n c5 (c5 + nI 1) res h hk
            · rw [if_neg k28] at h
              refine q_if_eq_t (pc := 74) (tgt := 87) dX12_reasonOn_74 (by decide) (qb_f k28) ?_
              refine q_iload (pc := 87) dX12_reasonOn_87 rfl ?_
              refine q_istore (pc := 89) (ls' := [some (.ref 25), some (.ref 29), some (.int x2), some (.int x3), some (.int c4), some (.int c5), some (.int (nI 1))]) dX12_reasonOn_89 (by decide) rfl rfl ?_
              refine q_iincW (pc := 91) (w := nI 1) (ls' := [some (.ref 25), some (.ref 29), some (.int x2), some (.int x3), some (.int c4), some (.int (c5 + nI 1)), some (.int (nI 1))]) dX12_reasonOn_91 rfl (by decide) (by decide) rfl rfl ?_
              refine q_goto (pc := 94) (tgt := 6) dX12_reasonOn_94 (by decide) ?_
              refine q_weak (ls' := [some (.ref 25), some (.ref 29), some (.int x2), some (.int x3), some (.int c4), some (.int (c5 + nI 1)), none]) ⟨rfl, ⟨rfl, ⟨rfl, ⟨rfl, ⟨rfl, ⟨rfl, trivial⟩⟩⟩⟩⟩⟩ ?_
              exact l_X12_reasonOn_at25_29_L6 x2 x3 M J n c4 (c5 + nI 1) res h hk
def f_X12_reasonOn_at25_29 (a2 : Int32) (a3 : Int32) (M : qM) : Option Int32 :=
  (f_X12_reasonOn_at25_29_L6 a2 a3 M qF (-1 : Int32) (nI 0)).bind fun e29 => some (e29.1)
set_option maxRecDepth 20000 in
set_option maxHeartbeats 4000000 in
theorem a_X12_reasonOn_at25_29 {G : qG} {a2 : Int32} {a3 : Int32} {M : qM} {J : qJ} {r : Int32} (h : f_X12_reasonOn_at25_29 a2 a3 M = some (r)) : QM G 1 0 0 YX12_reasonOn [.ref 25, .ref 29, .int a2, .int a3] SH M J (some (.int r), SH, M, J) := by
  refine ⟨Nat.le_of_ble_eq_true rfl, Or.inl rfl, ?_⟩
  show QW G (qrm 1 0 0) YX12_reasonOn 0 0 0 [some (.ref 25), some (.ref 29), some (.int a2), some (.int a3), none, none, none] [] SH M J _
  unfold f_X12_reasonOn_at25_29 at h
  refine q_iconst (pc := 0) (v := (-1 : Int32)) dX12_reasonOn_0 (by decide) ?_
  refine q_istore (pc := 1) (ls' := [some (.ref 25), some (.ref 29), some (.int a2), some (.int a3), some (.int (-1 : Int32)), none, none]) dX12_reasonOn_1 (by decide) rfl rfl ?_
  refine q_iconst (pc := 3) (v := nI 0) dX12_reasonOn_3 (by decide) ?_
  refine q_istore (pc := 4) (ls' := [some (.ref 25), some (.ref 29), some (.int a2), some (.int a3), some (.int (-1 : Int32)), some (.int (nI 0)), none]) dX12_reasonOn_4 (by decide) rfl rfl ?_
  obtain ⟨⟨e29_4, e29_5⟩, h30, h⟩ := Option.bind_eq_some_iff.mp h
  try dsimp only at h
  refine l_X12_reasonOn_at25_29_L6 a2 a3 M J qF (-1 : Int32) (nI 0) _ h30 (fun x hx => ?_)
  subst hx
  show QW G (qrm 1 0 0) YX12_reasonOn 0 0 97 [none, none, none, none, some (.int e29_4), none, none] [] SH M J _
  refine q_iload (pc := 97) dX12_reasonOn_97 rfl ?_
  obtain rfl := Option.some.inj h
  exact q_iret (pc := 99) dX12_reasonOn_99 rfl rfl rfl
def f_X12_strengthOn_at25_29 (a2 : Int32) (a3 : Int32) (M : qM) : Option Int32 :=
  (f_X12_reasonOn_at25_29 a2 a3 M).bind fun r3 => (qrd M 26 57 ((nI 39) + a2)).bind fun v4 => (qrd M 29 163 ((nI 49) + a2)).bind fun v6 => if r3 = (-1 : Int32) then (f_X12_strengthBy v4 v6 (nI 0) M).bind fun r11 => some (r11)
    else (qrd M 29 163 (((nI 19) + ((nI 5) * a3)) + r3)).bind fun v12 => (f_X12_strengthBy v4 v6 v12 M).bind fun r16 => some (r16)
set_option maxRecDepth 20000 in
set_option maxHeartbeats 4000000 in
theorem a_X12_strengthOn_at25_29 {G : qG} {a2 : Int32} {a3 : Int32} {M : qM} {J : qJ} {r : Int32} (h : f_X12_strengthOn_at25_29 a2 a3 M = some (r)) : QM G 2 0 0 YX12_strengthOn [.ref 25, .ref 29, .int a2, .int a3] SH M J (some (.int r), SH, M, J) := by
  refine ⟨Nat.le_of_ble_eq_true rfl, Or.inl rfl, ?_⟩
  show QW G (qrm 2 0 0) YX12_strengthOn 0 0 0 [some (.ref 25), some (.ref 29), some (.int a2), some (.int a3), none] [] SH M J _
  unfold f_X12_strengthOn_at25_29 at h
  refine q_aload_n (pc := 0) dX12_strengthOn_0 rfl ?_
  refine q_aload_n (pc := 1) dX12_strengthOn_1 rfl ?_
  refine q_iload_n (pc := 2) dX12_strengthOn_2 rfl ?_
  refine q_iload_n (pc := 3) dX12_strengthOn_3 rfl ?_
  obtain ⟨r3, h2, h⟩ := Option.bind_eq_some_iff.mp h
  refine q_callv (pc := 4) (st := []) (a_X12_reasonOn_at25_29 h2) okX12_reasonOn rfl dX12_strengthOn_4 lk_X12_136 sh_25 cl_11 rfl (by decide) (by decide) (Nat.le_of_ble_eq_true rfl) ⟨Nat.le_of_ble_eq_true rfl, Nat.le_of_ble_eq_true rfl⟩ rfl ?_
  show QW G (qrm 2 0 0) YX12_strengthOn 0 0 7 [some (.ref 25), some (.ref 29), some (.int a2), some (.int a3), none] [.int r3] SH M J _
  refine q_istore (pc := 7) (ls' := [some (.ref 25), some (.ref 29), some (.int a2), some (.int a3), some (.int r3)]) dX12_strengthOn_7 (by decide) rfl rfl ?_
  refine q_aload_n (pc := 9) dX12_strengthOn_9 rfl ?_
  refine q_getf (pc := 10) (f := 0) (v := .ref 26) dX12_strengthOn_10 sh_25 cl_11 inX12 rfl (by decide) lk_X12_7 rfl ?_
  refine q_bipush (pc := 13) (v := nI 39) dX12_strengthOn_13 (by decide) ?_
  refine q_iload_n (pc := 15) dX12_strengthOn_15 rfl ?_
  refine q_iadd (pc := 16) dX12_strengthOn_16 ?_
  obtain ⟨v4, h5, h⟩ := Option.bind_eq_some_iff.mp h
  refine q_iald (pc := 17) dX12_strengthOn_17 sh_26 h5 ?_
  refine q_aload_n (pc := 18) dX12_strengthOn_18 rfl ?_
  refine q_bipush (pc := 19) (v := nI 49) dX12_strengthOn_19 (by decide) ?_
  refine q_iload_n (pc := 21) dX12_strengthOn_21 rfl ?_
  refine q_iadd (pc := 22) dX12_strengthOn_22 ?_
  obtain ⟨v6, h7, h⟩ := Option.bind_eq_some_iff.mp h
  refine q_iald (pc := 23) dX12_strengthOn_23 sh_29 h7 ?_
  refine q_iload (pc := 24) dX12_strengthOn_24 rfl ?_
  refine q_iconst (pc := 26) (v := (-1 : Int32)) dX12_strengthOn_26 (by decide) ?_
  by_cases k8 : r3 = (-1 : Int32)
  · rw [if_pos k8] at h
    refine q_icmp_ne_f (pc := 27) (tgt := 34) dX12_strengthOn_27 (by decide) k8 ?_
    refine q_iconst (pc := 30) (v := nI 0) dX12_strengthOn_30 (by decide) ?_
    refine q_goto (pc := 31) (tgt := 45) dX12_strengthOn_31 (by decide) ?_
    obtain ⟨r11, h10, h⟩ := Option.bind_eq_some_iff.mp h
    refine q_calls (pc := 45) (st := []) (a_X12_strengthBy h10) okX12_strengthBy rfl dX12_strengthOn_45 lk_X12_140 rfl (by decide) (by decide) (Nat.le_of_ble_eq_true rfl) ⟨Nat.le_of_ble_eq_true rfl, Nat.le_of_ble_eq_true rfl⟩ rfl ?_
    show QW G (qrm 2 0 0) YX12_strengthOn 0 0 48 [some (.ref 25), some (.ref 29), some (.int a2), some (.int a3), some (.int r3)] [.int r11] SH M J _
    obtain rfl := Option.some.inj h
    exact q_iret (pc := 48) dX12_strengthOn_48 rfl rfl rfl
  · rw [if_neg k8] at h
    refine q_icmp_ne_t (pc := 27) (tgt := 34) dX12_strengthOn_27 (by decide) k8 ?_
    refine q_aload_n (pc := 34) dX12_strengthOn_34 rfl ?_
    refine q_bipush (pc := 35) (v := nI 19) dX12_strengthOn_35 (by decide) ?_
    refine q_iconst (pc := 37) (v := nI 5) dX12_strengthOn_37 (by decide) ?_
    refine q_iload_n (pc := 38) dX12_strengthOn_38 rfl ?_
    refine q_imul (pc := 39) dX12_strengthOn_39 ?_
    refine q_iadd (pc := 40) dX12_strengthOn_40 ?_
    refine q_iload (pc := 41) dX12_strengthOn_41 rfl ?_
    refine q_iadd (pc := 43) dX12_strengthOn_43 ?_
    obtain ⟨v12, h13, h⟩ := Option.bind_eq_some_iff.mp h
    refine q_iald (pc := 44) dX12_strengthOn_44 sh_29 h13 ?_
    obtain ⟨r16, h15, h⟩ := Option.bind_eq_some_iff.mp h
    refine q_calls (pc := 45) (st := []) (a_X12_strengthBy h15) okX12_strengthBy rfl dX12_strengthOn_45 lk_X12_140 rfl (by decide) (by decide) (Nat.le_of_ble_eq_true rfl) ⟨Nat.le_of_ble_eq_true rfl, Nat.le_of_ble_eq_true rfl⟩ rfl ?_
    show QW G (qrm 2 0 0) YX12_strengthOn 0 0 48 [some (.ref 25), some (.ref 29), some (.int a2), some (.int a3), some (.int r3)] [.int r16] SH M J _
    obtain rfl := Option.some.inj h
    exact q_iret (pc := 48) dX12_strengthOn_48 rfl rfl rfl
def f_X12_counts_at25_29 (a2 : Int32) (a3 : Int32) (M : qM) : Option Bool :=
  (f_X12_strengthOn_at25_29 a2 a3 M).bind fun r3 => (qrd M 26 57 (nI 0)).bind fun v4 => if r3 < v4 then some (false)
    else some (true)
set_option maxRecDepth 20000 in
set_option maxHeartbeats 4000000 in
theorem a_X12_counts_at25_29 {G : qG} {a2 : Int32} {a3 : Int32} {M : qM} {J : qJ} {r : Bool} (h : f_X12_counts_at25_29 a2 a3 M = some (r)) : QM G 3 0 0 YX12_counts [.ref 25, .ref 29, .int a2, .int a3] SH M J (some (.int (qb r)), SH, M, J) := by
  refine ⟨Nat.le_of_ble_eq_true rfl, Or.inr ⟨rfl, _, rfl⟩, ?_⟩
  show QW G (qrm 3 0 0) YX12_counts 0 0 0 [some (.ref 25), some (.ref 29), some (.int a2), some (.int a3)] [] SH M J _
  unfold f_X12_counts_at25_29 at h
  refine q_aload_n (pc := 0) dX12_counts_0 rfl ?_
  refine q_aload_n (pc := 1) dX12_counts_1 rfl ?_
  refine q_iload_n (pc := 2) dX12_counts_2 rfl ?_
  refine q_iload_n (pc := 3) dX12_counts_3 rfl ?_
  obtain ⟨r3, h2, h⟩ := Option.bind_eq_some_iff.mp h
  refine q_callv (pc := 4) (st := []) (a_X12_strengthOn_at25_29 h2) okX12_strengthOn rfl dX12_counts_4 lk_X12_144 sh_25 cl_11 rfl (by decide) (by decide) (Nat.le_of_ble_eq_true rfl) ⟨Nat.le_of_ble_eq_true rfl, Nat.le_of_ble_eq_true rfl⟩ rfl ?_
  show QW G (qrm 3 0 0) YX12_counts 0 0 7 [some (.ref 25), some (.ref 29), some (.int a2), some (.int a3)] [.int r3] SH M J _
  refine q_aload_n (pc := 7) dX12_counts_7 rfl ?_
  refine q_getf (pc := 8) (f := 0) (v := .ref 26) dX12_counts_8 sh_25 cl_11 inX12 rfl (by decide) lk_X12_7 rfl ?_
  refine q_iconst (pc := 11) (v := nI 0) dX12_counts_11 (by decide) ?_
  obtain ⟨v4, h5, h⟩ := Option.bind_eq_some_iff.mp h
  refine q_iald (pc := 12) dX12_counts_12 sh_26 h5 ?_
  by_cases k6 : r3 < v4
  · rw [if_pos k6] at h
    refine q_icmp_lt_t (pc := 13) (tgt := 20) dX12_counts_13 (by decide) k6 ?_
    refine q_iconst (pc := 20) (v := nI 0) dX12_counts_20 (by decide) ?_
    obtain rfl := Option.some.inj h
    exact q_iret (pc := 21) dX12_counts_21 rfl rfl rfl
  · rw [if_neg k6] at h
    refine q_icmp_lt_f (pc := 13) (tgt := 20) dX12_counts_13 (by decide) k6 ?_
    refine q_iconst (pc := 16) (v := nI 1) dX12_counts_16 (by decide) ?_
    refine q_goto (pc := 17) (tgt := 21) dX12_counts_17 (by decide) ?_
    obtain rfl := Option.some.inj h
    exact q_iret (pc := 21) dX12_counts_21 rfl rfl rfl
def f_X12_weds_at25_29 (a2 : Int32) (a3 : Int32) (M : qM) : Option Bool :=
  (f_X12_counts_at25_29 a2 a3 M).bind fun b3 => if b3 = true then (qrd M 29 163 ((nI 1) + a3)).bind fun v5 => (f_X12_strengthOn_at25_29 a2 a3 M).bind fun r9 => if v5 < r9 then some (false)
    else some (true)
    else some (false)
set_option maxRecDepth 20000 in
set_option maxHeartbeats 4000000 in
theorem a_X12_weds_at25_29 {G : qG} {a2 : Int32} {a3 : Int32} {M : qM} {J : qJ} {r : Bool} (h : f_X12_weds_at25_29 a2 a3 M = some (r)) : QM G 4 0 0 YX12_weds [.ref 25, .ref 29, .int a2, .int a3] SH M J (some (.int (qb r)), SH, M, J) := by
  refine ⟨Nat.le_of_ble_eq_true rfl, Or.inr ⟨rfl, _, rfl⟩, ?_⟩
  show QW G (qrm 4 0 0) YX12_weds 0 0 0 [some (.ref 25), some (.ref 29), some (.int a2), some (.int a3)] [] SH M J _
  unfold f_X12_weds_at25_29 at h
  refine q_aload_n (pc := 0) dX12_weds_0 rfl ?_
  refine q_aload_n (pc := 1) dX12_weds_1 rfl ?_
  refine q_iload_n (pc := 2) dX12_weds_2 rfl ?_
  refine q_iload_n (pc := 3) dX12_weds_3 rfl ?_
  obtain ⟨b3, h2, h⟩ := Option.bind_eq_some_iff.mp h
  refine q_callv (pc := 4) (st := []) (a_X12_counts_at25_29 h2) okX12_counts rfl dX12_weds_4 lk_X12_147 sh_25 cl_11 rfl (by decide) (by decide) (Nat.le_of_ble_eq_true rfl) ⟨Nat.le_of_ble_eq_true rfl, Nat.le_of_ble_eq_true rfl⟩ rfl ?_
  show QW G (qrm 4 0 0) YX12_weds 0 0 7 [some (.ref 25), some (.ref 29), some (.int a2), some (.int a3)] [.int (qb b3)] SH M J _
  by_cases k4 : b3 = true
  · rw [if_pos k4] at h
    refine q_if_eq_f (pc := 7) (tgt := 29) dX12_weds_7 (by decide) (qb_t k4) ?_
    refine q_aload_n (pc := 10) dX12_weds_10 rfl ?_
    refine q_iconst (pc := 11) (v := nI 1) dX12_weds_11 (by decide) ?_
    refine q_iload_n (pc := 12) dX12_weds_12 rfl ?_
    refine q_iadd (pc := 13) dX12_weds_13 ?_
    obtain ⟨v5, h6, h⟩ := Option.bind_eq_some_iff.mp h
    refine q_iald (pc := 14) dX12_weds_14 sh_29 h6 ?_
    refine q_aload_n (pc := 15) dX12_weds_15 rfl ?_
    refine q_aload_n (pc := 16) dX12_weds_16 rfl ?_
    refine q_iload_n (pc := 17) dX12_weds_17 rfl ?_
    refine q_iload_n (pc := 18) dX12_weds_18 rfl ?_
    obtain ⟨r9, h8, h⟩ := Option.bind_eq_some_iff.mp h
    refine q_callv (pc := 19) (st := [.int v5]) (a_X12_strengthOn_at25_29 h8) okX12_strengthOn rfl dX12_weds_19 lk_X12_144 sh_25 cl_11 rfl (by decide) (by decide) (Nat.le_of_ble_eq_true rfl) ⟨Nat.le_of_ble_eq_true rfl, Nat.le_of_ble_eq_true rfl⟩ rfl ?_
    show QW G (qrm 4 0 0) YX12_weds 0 0 22 [some (.ref 25), some (.ref 29), some (.int a2), some (.int a3)] [.int r9, .int v5] SH M J _
    by_cases k10 : v5 < r9
    · rw [if_pos k10] at h
      refine q_icmp_lt_t (pc := 22) (tgt := 29) dX12_weds_22 (by decide) k10 ?_
      refine q_iconst (pc := 29) (v := nI 0) dX12_weds_29 (by decide) ?_
      obtain rfl := Option.some.inj h
      exact q_iret (pc := 30) dX12_weds_30 rfl rfl rfl
    · rw [if_neg k10] at h
      refine q_icmp_lt_f (pc := 22) (tgt := 29) dX12_weds_22 (by decide) k10 ?_
      refine q_iconst (pc := 25) (v := nI 1) dX12_weds_25 (by decide) ?_
      refine q_goto (pc := 26) (tgt := 30) dX12_weds_26 (by decide) ?_
      obtain rfl := Option.some.inj h
      exact q_iret (pc := 30) dX12_weds_30 rfl rfl rfl
  · rw [if_neg k4] at h
    refine q_if_eq_t (pc := 7) (tgt := 29) dX12_weds_7 (by decide) (qb_f k4) ?_
    refine q_iconst (pc := 29) (v := nI 0) dX12_weds_29 (by decide) ?_
    obtain rfl := Option.some.inj h
    exact q_iret (pc := 30) dX12_weds_30 rfl rfl rfl
def f_X12_yearGoes_at25_29_L2  : Nat → Int32 → qM → Option (Int32 × qM)
  | 0, _, _ => none
  | n + 1, c2, M =>
  (qrd M 26 57 (nI 1)).bind fun v1 => if v1 ≤ c2 then some (c2, M)
    else (qrd M 29 163 ((nI 7) + c2)).bind fun v4 => if v4 = 0 then (qrd M 29 163 ((nI 1) + c2)).bind fun v7 => (f_X12_lesser (nI 99) (v7 + (nI 1)) M).bind fun r11 => (qwr M 29 163 ((nI 1) + c2) r11).bind fun M12 => f_X12_yearGoes_at25_29_L2  n (c2 + nI 1) M12
    else (qrd M 29 163 ((nI 1) + c2)).bind fun v14 => (qwr M 29 163 ((nI 1) + c2) v14).bind fun M16 => f_X12_yearGoes_at25_29_L2  n (c2 + nI 1) M16
set_option maxRecDepth 20000 in
set_option maxHeartbeats 4000000 in
theorem l_X12_yearGoes_at25_29_L2 {G : qG} {ρ : qR}  (J : qJ) : ∀ (n : Nat) (c2 : Int32) (M : qM) (res : Int32 × qM), f_X12_yearGoes_at25_29_L2  n c2 M = some res → (∀ x : Int32 × qM, res = x → QW G (qrm 1 0 0) YX12_yearGoes 0 0 52 [some (.ref 25), some (.ref 29), none] [] SH x.2 J ρ) → QW G (qrm 1 0 0) YX12_yearGoes 0 0 2 [some (.ref 25), some (.ref 29), some (.int c2)] [] SH M J ρ
  | 0, _, _, _, h, _ => by simp [f_X12_yearGoes_at25_29_L2] at h
  | n + 1, c2, M, res, h, hk => by
    rw [f_X12_yearGoes_at25_29_L2] at h
    refine q_iload_n (pc := 2) dX12_yearGoes_2 rfl ?_
    refine q_aload_n (pc := 3) dX12_yearGoes_3 rfl ?_
    refine q_getf (pc := 4) (f := 0) (v := .ref 26) dX12_yearGoes_4 sh_25 cl_11 inX12 rfl (by decide) lk_X12_7 rfl ?_
    refine q_iconst (pc := 7) (v := nI 1) dX12_yearGoes_7 (by decide) ?_
    obtain ⟨v1, h2, h⟩ := Option.bind_eq_some_iff.mp h
    refine q_iald (pc := 8) dX12_yearGoes_8 sh_26 h2 ?_
    by_cases k3 : v1 ≤ c2
    · rw [if_pos k3] at h
      refine q_icmp_ge_t (pc := 9) (tgt := 52) dX12_yearGoes_9 (by decide) k3 ?_
      refine q_weak (ls' := [some (.ref 25), some (.ref 29), none]) ⟨rfl, ⟨rfl, trivial⟩⟩ ?_
      obtain rfl := Option.some.inj h
      exact hk (c2, M) rfl
    · rw [if_neg k3] at h
      refine q_icmp_ge_f (pc := 9) (tgt := 52) dX12_yearGoes_9 (by decide) k3 ?_
      refine q_aload_n (pc := 12) dX12_yearGoes_12 rfl ?_
      refine q_iconst (pc := 13) (v := nI 1) dX12_yearGoes_13 (by decide) ?_
      refine q_iload_n (pc := 14) dX12_yearGoes_14 rfl ?_
      refine q_iadd (pc := 15) dX12_yearGoes_15 ?_
      refine q_aload_n (pc := 16) dX12_yearGoes_16 rfl ?_
      refine q_bipush (pc := 17) (v := nI 7) dX12_yearGoes_17 (by decide) ?_
      refine q_iload_n (pc := 19) dX12_yearGoes_19 rfl ?_
      refine q_iadd (pc := 20) dX12_yearGoes_20 ?_
      obtain ⟨v4, h5, h⟩ := Option.bind_eq_some_iff.mp h
      refine q_iald (pc := 21) dX12_yearGoes_21 sh_29 h5 ?_
      by_cases k6 : v4 = 0
      · rw [if_pos k6] at h
        refine q_if_ne_f (pc := 22) (tgt := 40) dX12_yearGoes_22 (by decide) k6 ?_
        refine q_bipush (pc := 25) (v := nI 99) dX12_yearGoes_25 (by decide) ?_
        refine q_aload_n (pc := 27) dX12_yearGoes_27 rfl ?_
        refine q_iconst (pc := 28) (v := nI 1) dX12_yearGoes_28 (by decide) ?_
        refine q_iload_n (pc := 29) dX12_yearGoes_29 rfl ?_
        refine q_iadd (pc := 30) dX12_yearGoes_30 ?_
        obtain ⟨v7, h8, h⟩ := Option.bind_eq_some_iff.mp h
        refine q_iald (pc := 31) dX12_yearGoes_31 sh_29 h8 ?_
        refine q_iconst (pc := 32) (v := nI 1) dX12_yearGoes_32 (by decide) ?_
        refine q_iadd (pc := 33) dX12_yearGoes_33 ?_
        obtain ⟨r11, h10, h⟩ := Option.bind_eq_some_iff.mp h
        refine q_calls (pc := 34) (st := [.int ((nI 1) + c2), .ref 29]) (a_X12_lesser h10) okX12_lesser rfl dX12_yearGoes_34 lk_X12_199 rfl (by decide) (by decide) (Nat.le_of_ble_eq_true rfl) ⟨Nat.le_of_ble_eq_true rfl, Nat.le_of_ble_eq_true rfl⟩ rfl ?_
        show QW G (qrm 1 0 0) YX12_yearGoes 0 0 37 [some (.ref 25), some (.ref 29), some (.int c2)] [.int r11, .int ((nI 1) + c2), .ref 29] SH M J _
        refine q_goto (pc := 37) (tgt := 45) dX12_yearGoes_37 (by decide) ?_
        obtain ⟨M12, h13, h⟩ := Option.bind_eq_some_iff.mp h
        refine q_iast (pc := 45) dX12_yearGoes_45 sh_29 h13 ?_
        refine q_iincW (pc := 46) (w := nI 1) (ls' := [some (.ref 25), some (.ref 29), some (.int (c2 + nI 1))]) dX12_yearGoes_46 rfl (by decide) (by decide) rfl rfl ?_
        refine q_goto (pc := 49) (tgt := 2) dX12_yearGoes_49 (by decide) ?_
        exact l_X12_yearGoes_at25_29_L2  J n (c2 + nI 1) M12 res h hk
      · rw [if_neg k6] at h
        refine q_if_ne_t (pc := 22) (tgt := 40) dX12_yearGoes_22 (by decide) k6 ?_
        refine q_aload_n (pc := 40) dX12_yearGoes_40 rfl ?_
        refine q_iconst (pc := 41) (v := nI 1) dX12_yearGoes_41 (by decide) ?_
        refine q_iload_n (pc := 42) dX12_yearGoes_42 rfl ?_
        refine q_iadd (pc := 43) dX12_yearGoes_43 ?_
        obtain ⟨v14, h15, h⟩ := Option.bind_eq_some_iff.mp h
        refine q_iald (pc := 44) dX12_yearGoes_44 sh_29 h15 ?_
        obtain ⟨M16, h17, h⟩ := Option.bind_eq_some_iff.mp h
        refine q_iast (pc := 45) dX12_yearGoes_45 sh_29 h17 ?_
        refine q_iincW (pc := 46) (w := nI 1) (ls' := [some (.ref 25), some (.ref 29), some (.int (c2 + nI 1))]) dX12_yearGoes_46 rfl (by decide) (by decide) rfl rfl ?_
        refine q_goto (pc := 49) (tgt := 2) dX12_yearGoes_49 (by decide) ?_
        exact l_X12_yearGoes_at25_29_L2  J n (c2 + nI 1) M16 res h hk
def f_X12_yearGoes_at25_29_L54  : Nat → Int32 → qM → Option (Int32 × qM)
  | 0, _, _ => none
  | n + 1, c2, M =>
  (qrd M 26 57 (nI 2)).bind fun v20 => if v20 ≤ c2 then some (c2, M)
    else (qrd M 26 57 ((nI 39) + c2)).bind fun v23 => if v23 = 0 then (qrd M 29 163 ((nI 49) + c2)).bind fun v26 => (f_X12_lesser (nI 40) (v26 + (nI 1)) M).bind fun r30 => (qwr M 29 163 ((nI 49) + c2) r30).bind fun M31 => f_X12_yearGoes_at25_29_L54  n (c2 + nI 1) M31
    else (qrd M 29 163 ((nI 49) + c2)).bind fun v33 => (qwr M 29 163 ((nI 49) + c2) v33).bind fun M35 => f_X12_yearGoes_at25_29_L54  n (c2 + nI 1) M35
set_option maxRecDepth 20000 in
set_option maxHeartbeats 4000000 in
theorem l_X12_yearGoes_at25_29_L54 {G : qG} {ρ : qR}  (J : qJ) : ∀ (n : Nat) (c2 : Int32) (M : qM) (res : Int32 × qM), f_X12_yearGoes_at25_29_L54  n c2 M = some res → (∀ x : Int32 × qM, res = x → QW G (qrm 1 0 0) YX12_yearGoes 0 0 110 [none, some (.ref 29), none] [] SH x.2 J ρ) → QW G (qrm 1 0 0) YX12_yearGoes 0 0 54 [some (.ref 25), some (.ref 29), some (.int c2)] [] SH M J ρ
  | 0, _, _, _, h, _ => by simp [f_X12_yearGoes_at25_29_L54] at h
  | n + 1, c2, M, res, h, hk => by
    rw [f_X12_yearGoes_at25_29_L54] at h
    refine q_iload_n (pc := 54) dX12_yearGoes_54 rfl ?_
    refine q_aload_n (pc := 55) dX12_yearGoes_55 rfl ?_
    refine q_getf (pc := 56) (f := 0) (v := .ref 26) dX12_yearGoes_56 sh_25 cl_11 inX12 rfl (by decide) lk_X12_7 rfl ?_
    refine q_iconst (pc := 59) (v := nI 2) dX12_yearGoes_59 (by decide) ?_
    obtain ⟨v20, h21, h⟩ := Option.bind_eq_some_iff.mp h
    refine q_iald (pc := 60) dX12_yearGoes_60 sh_26 h21 ?_
    by_cases k22 : v20 ≤ c2
    · rw [if_pos k22] at h
      refine q_icmp_ge_t (pc := 61) (tgt := 110) dX12_yearGoes_61 (by decide) k22 ?_
      refine q_weak (ls' := [none, some (.ref 29), none]) ⟨rfl, trivial⟩ ?_
      obtain rfl := Option.some.inj h
      exact hk (c2, M) rfl
    · rw [if_neg k22] at h
      refine q_icmp_ge_f (pc := 61) (tgt := 110) dX12_yearGoes_61 (by decide) k22 ?_
      refine q_aload_n (pc := 64) dX12_yearGoes_64 rfl ?_
      refine q_bipush (pc := 65) (v := nI 49) dX12_yearGoes_65 (by decide) ?_
      refine q_iload_n (pc := 67) dX12_yearGoes_67 rfl ?_
      refine q_iadd (pc := 68) dX12_yearGoes_68 ?_
      refine q_aload_n (pc := 69) dX12_yearGoes_69 rfl ?_
      refine q_getf (pc := 70) (f := 0) (v := .ref 26) dX12_yearGoes_70 sh_25 cl_11 inX12 rfl (by decide) lk_X12_7 rfl ?_
      refine q_bipush (pc := 73) (v := nI 39) dX12_yearGoes_73 (by decide) ?_
      refine q_iload_n (pc := 75) dX12_yearGoes_75 rfl ?_
      refine q_iadd (pc := 76) dX12_yearGoes_76 ?_
      obtain ⟨v23, h24, h⟩ := Option.bind_eq_some_iff.mp h
      refine q_iald (pc := 77) dX12_yearGoes_77 sh_26 h24 ?_
      by_cases k25 : v23 = 0
      · rw [if_pos k25] at h
        refine q_if_ne_f (pc := 78) (tgt := 97) dX12_yearGoes_78 (by decide) k25 ?_
        refine q_bipush (pc := 81) (v := nI 40) dX12_yearGoes_81 (by decide) ?_
        refine q_aload_n (pc := 83) dX12_yearGoes_83 rfl ?_
        refine q_bipush (pc := 84) (v := nI 49) dX12_yearGoes_84 (by decide) ?_
        refine q_iload_n (pc := 86) dX12_yearGoes_86 rfl ?_
        refine q_iadd (pc := 87) dX12_yearGoes_87 ?_
        obtain ⟨v26, h27, h⟩ := Option.bind_eq_some_iff.mp h
        refine q_iald (pc := 88) dX12_yearGoes_88 sh_29 h27 ?_
        refine q_iconst (pc := 89) (v := nI 1) dX12_yearGoes_89 (by decide) ?_
        refine q_iadd (pc := 90) dX12_yearGoes_90 ?_
        obtain ⟨r30, h29, h⟩ := Option.bind_eq_some_iff.mp h
        refine q_calls (pc := 91) (st := [.int ((nI 49) + c2), .ref 29]) (a_X12_lesser h29) okX12_lesser rfl dX12_yearGoes_91 lk_X12_199 rfl (by decide) (by decide) (Nat.le_of_ble_eq_true rfl) ⟨Nat.le_of_ble_eq_true rfl, Nat.le_of_ble_eq_true rfl⟩ rfl ?_
        show QW G (qrm 1 0 0) YX12_yearGoes 0 0 94 [some (.ref 25), some (.ref 29), some (.int c2)] [.int r30, .int ((nI 49) + c2), .ref 29] SH M J _
        refine q_goto (pc := 94) (tgt := 103) dX12_yearGoes_94 (by decide) ?_
        obtain ⟨M31, h32, h⟩ := Option.bind_eq_some_iff.mp h
        refine q_iast (pc := 103) dX12_yearGoes_103 sh_29 h32 ?_
        refine q_iincW (pc := 104) (w := nI 1) (ls' := [some (.ref 25), some (.ref 29), some (.int (c2 + nI 1))]) dX12_yearGoes_104 rfl (by decide) (by decide) rfl rfl ?_
        refine q_goto (pc := 107) (tgt := 54) dX12_yearGoes_107 (by decide) ?_
        exact l_X12_yearGoes_at25_29_L54  J n (c2 + nI 1) M31 res h hk
      · rw [if_neg k25] at h
        refine q_if_ne_t (pc := 78) (tgt := 97) dX12_yearGoes_78 (by decide) k25 ?_
        refine q_aload_n (pc := 97) dX12_yearGoes_97 rfl ?_
        refine q_bipush (pc := 98) (v := nI 49) dX12_yearGoes_98 (by decide) ?_
        refine q_iload_n (pc := 100) dX12_yearGoes_100 rfl ?_
        refine q_iadd (pc := 101) dX12_yearGoes_101 ?_
        obtain ⟨v33, h34, h⟩ := Option.bind_eq_some_iff.mp h
        refine q_iald (pc := 102) dX12_yearGoes_102 sh_29 h34 ?_
        obtain ⟨M35, h36, h⟩ := Option.bind_eq_some_iff.mp h
        refine q_iast (pc := 103) dX12_yearGoes_103 sh_29 h36 ?_
        refine q_iincW (pc := 104) (w := nI 1) (ls' := [some (.ref 25), some (.ref 29), some (.int (c2 + nI 1))]) dX12_yearGoes_104 rfl (by decide) (by decide) rfl rfl ?_
        refine q_goto (pc := 107) (tgt := 54) dX12_yearGoes_107 (by decide) ?_
        exact l_X12_yearGoes_at25_29_L54  J n (c2 + nI 1) M35 res h hk
def f_X12_yearGoes_at25_29  (M : qM) : Option qM :=
  (f_X12_yearGoes_at25_29_L2  qF (nI 0) M).bind fun e18 => (f_X12_yearGoes_at25_29_L54  qF (nI 0) e18.2).bind fun e37 => (qwr e37.2 29 163 (nI 61) (nI 0)).bind fun M39 => (qrd M39 29 163 (nI 0)).bind fun v41 => (qwr M39 29 163 (nI 0) (v41 + (nI 1))).bind fun M43 => some (M43)
set_option maxRecDepth 20000 in
set_option maxHeartbeats 4000000 in
theorem a_X12_yearGoes_at25_29 {G : qG}  {M : qM} {J : qJ} {M' : qM} (h : f_X12_yearGoes_at25_29  M = some (M')) : QM G 1 0 0 YX12_yearGoes [.ref 25, .ref 29] SH M J (none, SH, M', J) := by
  refine ⟨Nat.le_of_ble_eq_true rfl, rfl, ?_⟩
  show QW G (qrm 1 0 0) YX12_yearGoes 0 0 0 [some (.ref 25), some (.ref 29), none] [] SH M J _
  unfold f_X12_yearGoes_at25_29 at h
  refine q_iconst (pc := 0) (v := nI 0) dX12_yearGoes_0 (by decide) ?_
  refine q_istore_n (pc := 1) (ls' := [some (.ref 25), some (.ref 29), some (.int (nI 0))]) dX12_yearGoes_1 (by decide) rfl rfl ?_
  obtain ⟨⟨e18_2, M19⟩, h46, h⟩ := Option.bind_eq_some_iff.mp h
  try dsimp only at h
  refine l_X12_yearGoes_at25_29_L2  J qF (nI 0) M _ h46 (fun x hx => ?_)
  subst hx
  show QW G (qrm 1 0 0) YX12_yearGoes 0 0 52 [some (.ref 25), some (.ref 29), none] [] SH M19 J _
  refine q_iconst (pc := 52) (v := nI 0) dX12_yearGoes_52 (by decide) ?_
  refine q_istore_n (pc := 53) (ls' := [some (.ref 25), some (.ref 29), some (.int (nI 0))]) dX12_yearGoes_53 (by decide) rfl rfl ?_
  obtain ⟨⟨e37_2, M38⟩, h45, h⟩ := Option.bind_eq_some_iff.mp h
  try dsimp only at h
  refine l_X12_yearGoes_at25_29_L54  J qF (nI 0) M19 _ h45 (fun x hx => ?_)
  subst hx
  show QW G (qrm 1 0 0) YX12_yearGoes 0 0 110 [none, some (.ref 29), none] [] SH M38 J _
  refine q_aload_n (pc := 110) dX12_yearGoes_110 rfl ?_
  refine q_bipush (pc := 111) (v := nI 61) dX12_yearGoes_111 (by decide) ?_
  refine q_iconst (pc := 113) (v := nI 0) dX12_yearGoes_113 (by decide) ?_
  obtain ⟨M39, h40, h⟩ := Option.bind_eq_some_iff.mp h
  refine q_iast (pc := 114) dX12_yearGoes_114 sh_29 h40 ?_
  refine q_aload_n (pc := 115) dX12_yearGoes_115 rfl ?_
  refine q_iconst (pc := 116) (v := nI 0) dX12_yearGoes_116 (by decide) ?_
  refine q_dup2 (pc := 117) dX12_yearGoes_117 rfl rfl ?_
  obtain ⟨v41, h42, h⟩ := Option.bind_eq_some_iff.mp h
  refine q_iald (pc := 118) dX12_yearGoes_118 sh_29 h42 ?_
  refine q_iconst (pc := 119) (v := nI 1) dX12_yearGoes_119 (by decide) ?_
  refine q_iadd (pc := 120) dX12_yearGoes_120 ?_
  obtain ⟨M43, h44, h⟩ := Option.bind_eq_some_iff.mp h
  refine q_iast (pc := 121) dX12_yearGoes_121 sh_29 h44 ?_
  obtain rfl := Option.some.inj h
  exact q_vret (pc := 122) dX12_yearGoes_122 rfl rfl rfl
def f_X12_soonest_L40 (x1 : Int32) (x2 : Int32) : Nat → Int32 → qM → Option ((Int32 × qM) ⊕ (Int32 × qM))
  | 0, _, _ => none
  | n + 1, c3, M =>
  if (nI 201) ≤ c3 then some (.inr (c3, M))
    else (f_X12_weds_at25_29 x2 x1 M).bind fun b18 => if b18 = true then some (.inl (c3, M))
    else (f_X12_yearGoes_at25_29 M).bind fun M22 => f_X12_soonest_L40 x1 x2 n (c3 + nI 1) M22
set_option maxRecDepth 20000 in
set_option maxHeartbeats 4000000 in
theorem l_X12_soonest_L40 {G : qG} {ρ : qR} (x1 : Int32) (x2 : Int32) (J : qJ) : ∀ (n : Nat) (c3 : Int32) (M : qM) (res : (Int32 × qM) ⊕ (Int32 × qM)), f_X12_soonest_L40 x1 x2 n c3 M = some res → (∀ x : Int32 × qM, res = .inr x → QW G (qrm 5 0 0) YX12_soonest 0 0 76 [none, none, none, none] [] SH x.2 J ρ) → (∀ r : Int32 × qM, res = .inl r → (some (.int r.1), SH, r.2, J) = ρ) → QW G (qrm 5 0 0) YX12_soonest 0 0 40 [some (.ref 25), some (.int x1), some (.int x2), some (.int c3)] [] SH M J ρ
  | 0, _, _, _, h, _, _ => by simp [f_X12_soonest_L40] at h
  | n + 1, c3, M, res, h, hk, hr => by
    rw [f_X12_soonest_L40] at h
    refine q_iload_n (pc := 40) dX12_soonest_40 rfl ?_
    refine q_sipush (pc := 41) (v := nI 201) dX12_soonest_41 (by decide) ?_
    by_cases k15 : (nI 201) ≤ c3
    · rw [if_pos k15] at h
      refine q_icmp_ge_t (pc := 44) (tgt := 76) dX12_soonest_44 (by decide) k15 ?_
      refine q_weak (ls' := [none, none, none, none]) trivial ?_
      obtain rfl := Option.some.inj h
      exact hk (c3, M) rfl
    · rw [if_neg k15] at h
      refine q_icmp_ge_f (pc := 44) (tgt := 76) dX12_soonest_44 (by decide) k15 ?_
      refine q_aload_n (pc := 47) dX12_soonest_47 rfl ?_
      refine q_aload_n (pc := 48) dX12_soonest_48 rfl ?_
      refine q_getf (pc := 49) (f := 3) (v := .ref 29) dX12_soonest_49 sh_25 cl_11 inX12 rfl (by decide) lk_X12_19 rfl ?_
      refine q_iload_n (pc := 52) dX12_soonest_52 rfl ?_
      refine q_iload_n (pc := 53) dX12_soonest_53 rfl ?_
      obtain ⟨b18, h17, h⟩ := Option.bind_eq_some_iff.mp h
      refine q_callv (pc := 54) (st := []) (a_X12_weds_at25_29 h17) okX12_weds rfl dX12_soonest_54 lk_X12_151 sh_25 cl_11 rfl (by decide) (by decide) (Nat.le_of_ble_eq_true rfl) ⟨Nat.le_of_ble_eq_true rfl, Nat.le_of_ble_eq_true rfl⟩ rfl ?_
      show QW G (qrm 5 0 0) YX12_soonest 0 0 57 [some (.ref 25), some (.int x1), some (.int x2), some (.int c3)] [.int (qb b18)] SH M J _
      by_cases k19 : b18 = true
      · rw [if_pos k19] at h
        refine q_if_eq_f (pc := 57) (tgt := 62) dX12_soonest_57 (by decide) (qb_t k19) ?_
        refine q_iload_n (pc := 60) dX12_soonest_60 rfl ?_
        obtain rfl := Option.some.inj h
        exact q_iret (pc := 61) dX12_soonest_61 rfl rfl (hr (c3, M) rfl)
      · rw [if_neg k19] at h
        refine q_if_eq_t (pc := 57) (tgt := 62) dX12_soonest_57 (by decide) (qb_f k19) ?_
        refine q_aload_n (pc := 62) dX12_soonest_62 rfl ?_
        refine q_aload_n (pc := 63) dX12_soonest_63 rfl ?_
        refine q_getf (pc := 64) (f := 3) (v := .ref 29) dX12_soonest_64 sh_25 cl_11 inX12 rfl (by decide) lk_X12_19 rfl ?_
        obtain ⟨M22, h21, h⟩ := Option.bind_eq_some_iff.mp h
        refine q_callv (pc := 67) (st := []) (a_X12_yearGoes_at25_29 h21) okX12_yearGoes rfl dX12_soonest_67 lk_X12_208 sh_25 cl_11 rfl (by decide) (by decide) (Nat.le_of_ble_eq_true rfl) ⟨Nat.le_of_ble_eq_true rfl, Nat.le_of_ble_eq_true rfl⟩ rfl ?_
        show QW G (qrm 5 0 0) YX12_soonest 0 0 70 [some (.ref 25), some (.int x1), some (.int x2), some (.int c3)] [] SH M22 J _
        refine q_iincW (pc := 70) (w := nI 1) (ls' := [some (.ref 25), some (.int x1), some (.int x2), some (.int (c3 + nI 1))]) dX12_soonest_70 rfl (by decide) (by decide) rfl rfl ?_
        refine q_goto (pc := 73) (tgt := 40) dX12_soonest_73 (by decide) ?_
        exact l_X12_soonest_L40 x1 x2 J n (c3 + nI 1) M22 res h hk hr
def f_X12_soonest (a1 : Int32) (a2 : Int32) (M : qM) : Option (Int32 × qM) :=
  (f_X12_isCouple a1 M).bind fun b3 => if b3 = true then (f_X12_isObjector a2 M).bind fun b7 => if b7 = true then (qrd M 28 163 ((nI 7) + a1)).bind fun v9 => if v9 = 0 then (f_X12_layAside M).bind fun M14 => (f_X12_soonest_L40 a1 a2 qF (nI 0) M14).bind fun e23 => Sum.elim some (fun e23 => some ((-1 : Int32), e23.2)) e23
    else some ((-1000000003 : Int32), M)
    else some ((-1000000001 : Int32), M)
    else some ((-1000000001 : Int32), M)
set_option maxRecDepth 20000 in
set_option maxHeartbeats 4000000 in
theorem a_X12_soonest {G : qG} {a1 : Int32} {a2 : Int32} {M : qM} {J : qJ} {r : Int32} {M' : qM} (h : f_X12_soonest a1 a2 M = some (r, M')) : QM G 5 0 0 YX12_soonest [.ref 25, .int a1, .int a2] SH M J (some (.int r), SH, M', J) := by
  refine ⟨Nat.le_of_ble_eq_true rfl, Or.inl rfl, ?_⟩
  show QW G (qrm 5 0 0) YX12_soonest 0 0 0 [some (.ref 25), some (.int a1), some (.int a2), none] [] SH M J _
  unfold f_X12_soonest at h
  refine q_aload_n (pc := 0) dX12_soonest_0 rfl ?_
  refine q_iload_n (pc := 1) dX12_soonest_1 rfl ?_
  obtain ⟨b3, h2, h⟩ := Option.bind_eq_some_iff.mp h
  refine q_callv (pc := 2) (st := []) (a_X12_isCouple h2) okX12_isCouple rfl dX12_soonest_2 lk_X12_173 sh_25 cl_11 rfl (by decide) (by decide) (Nat.le_of_ble_eq_true rfl) ⟨Nat.le_of_ble_eq_true rfl, Nat.le_of_ble_eq_true rfl⟩ rfl ?_
  show QW G (qrm 5 0 0) YX12_soonest 0 0 5 [some (.ref 25), some (.int a1), some (.int a2), none] [.int (qb b3)] SH M J _
  by_cases k4 : b3 = true
  · rw [if_pos k4] at h
    refine q_if_eq_f (pc := 5) (tgt := 16) dX12_soonest_5 (by decide) (qb_t k4) ?_
    refine q_aload_n (pc := 8) dX12_soonest_8 rfl ?_
    refine q_iload_n (pc := 9) dX12_soonest_9 rfl ?_
    obtain ⟨b7, h6, h⟩ := Option.bind_eq_some_iff.mp h
    refine q_callv (pc := 10) (st := []) (a_X12_isObjector h6) okX12_isObjector rfl dX12_soonest_10 lk_X12_180 sh_25 cl_11 rfl (by decide) (by decide) (Nat.le_of_ble_eq_true rfl) ⟨Nat.le_of_ble_eq_true rfl, Nat.le_of_ble_eq_true rfl⟩ rfl ?_
    show QW G (qrm 5 0 0) YX12_soonest 0 0 13 [some (.ref 25), some (.int a1), some (.int a2), none] [.int (qb b7)] SH M J _
    by_cases k8 : b7 = true
    · rw [if_pos k8] at h
      refine q_if_ne_t (pc := 13) (tgt := 19) dX12_soonest_13 (by decide) (qb_t k8) ?_
      refine q_aload_n (pc := 19) dX12_soonest_19 rfl ?_
      refine q_getf (pc := 20) (f := 2) (v := .ref 28) dX12_soonest_20 sh_25 cl_11 inX12 rfl (by decide) lk_X12_16 rfl ?_
      refine q_bipush (pc := 23) (v := nI 7) dX12_soonest_23 (by decide) ?_
      refine q_iload_n (pc := 25) dX12_soonest_25 rfl ?_
      refine q_iadd (pc := 26) dX12_soonest_26 ?_
      obtain ⟨v9, h10, h⟩ := Option.bind_eq_some_iff.mp h
      refine q_iald (pc := 27) dX12_soonest_27 sh_28 h10 ?_
      by_cases k11 : v9 = 0
      · rw [if_pos k11] at h
        refine q_if_eq_t (pc := 28) (tgt := 34) dX12_soonest_28 (by decide) k11 ?_
        refine q_aload_n (pc := 34) dX12_soonest_34 rfl ?_
        obtain ⟨M14, h13, h⟩ := Option.bind_eq_some_iff.mp h
        refine q_callv (pc := 35) (st := []) (a_X12_layAside h13) okX12_layAside rfl dX12_soonest_35 lk_X12_236 sh_25 cl_11 rfl (by decide) (by decide) (Nat.le_of_ble_eq_true rfl) ⟨Nat.le_of_ble_eq_true rfl, Nat.le_of_ble_eq_true rfl⟩ rfl ?_
        show QW G (qrm 5 0 0) YX12_soonest 0 0 38 [some (.ref 25), some (.int a1), some (.int a2), none] [] SH M14 J _
        refine q_iconst (pc := 38) (v := nI 0) dX12_soonest_38 (by decide) ?_
        refine q_istore_n (pc := 39) (ls' := [some (.ref 25), some (.int a1), some (.int a2), some (.int (nI 0))]) dX12_soonest_39 (by decide) rfl rfl ?_
        obtain ⟨e23, h25, h⟩ := Option.bind_eq_some_iff.mp h
        rcases e23 with r | ⟨e23_3, M24⟩
        · simp only [Sum.elim_inl] at h
          obtain rfl := Option.some.inj h
          exact l_X12_soonest_L40 a1 a2 J qF (nI 0) M14 _ h25 (fun x hx => by cases hx) (fun r2 hx => by have hx := Sum.inl.inj hx; subst hx; rfl)
        · simp only [Sum.elim_inr] at h
          refine l_X12_soonest_L40 a1 a2 J qF (nI 0) M14 _ h25 (fun x hx => ?_) (fun r hx => by cases hx)
          have hx := Sum.inr.inj hx
          subst hx
          show QW G (qrm 5 0 0) YX12_soonest 0 0 76 [none, none, none, none] [] SH M24 J _
          refine q_iconst (pc := 76) (v := (-1 : Int32)) dX12_soonest_76 (by decide) ?_
          have h := Option.some.inj h
          obtain ⟨rfl, rfl⟩ := Prod.mk.inj h
          exact q_iret (pc := 77) dX12_soonest_77 rfl rfl rfl
      · rw [if_neg k11] at h
        refine q_if_eq_f (pc := 28) (tgt := 34) dX12_soonest_28 (by decide) k11 ?_
        refine q_ldc (pc := 31) (v := (-1000000003 : Int32)) dX12_soonest_31 lk_X12_192 ?_
        have h := Option.some.inj h
        obtain ⟨rfl, rfl⟩ := Prod.mk.inj h
        exact q_iret (pc := 33) dX12_soonest_33 rfl rfl rfl
    · rw [if_neg k8] at h
      refine q_if_ne_f (pc := 13) (tgt := 19) dX12_soonest_13 (by decide) (qb_f k8) ?_
      refine q_ldc (pc := 16) (v := (-1000000001 : Int32)) dX12_soonest_16 lk_X12_176 ?_
      have h := Option.some.inj h
      obtain ⟨rfl, rfl⟩ := Prod.mk.inj h
      exact q_iret (pc := 18) dX12_soonest_18 rfl rfl rfl
  · rw [if_neg k4] at h
    refine q_if_eq_t (pc := 5) (tgt := 16) dX12_soonest_5 (by decide) (qb_f k4) ?_
    refine q_ldc (pc := 16) (v := (-1000000001 : Int32)) dX12_soonest_16 lk_X12_176 ?_
    have h := Option.some.inj h
    obtain ⟨rfl, rfl⟩ := Prod.mk.inj h
    exact q_iret (pc := 18) dX12_soonest_18 rfl rfl rfl
def f_X12_greater (a0 : Int32) (a1 : Int32) (M : qM) : Option Int32 :=
  if a0 ≤ a1 then some (a1)
    else some (a0)
set_option maxRecDepth 20000 in
set_option maxHeartbeats 4000000 in
theorem a_X12_greater {G : qG} {a0 : Int32} {a1 : Int32} {M : qM} {J : qJ} {r : Int32} (h : f_X12_greater a0 a1 M = some (r)) : QM G 0 0 0 YX12_greater [.int a0, .int a1] SH M J (some (.int r), SH, M, J) := by
  refine ⟨Nat.le_of_ble_eq_true rfl, Or.inl rfl, ?_⟩
  show QW G (qrm 0 0 0) YX12_greater 0 0 0 [some (.int a0), some (.int a1)] [] SH M J _
  unfold f_X12_greater at h
  refine q_iload_n (pc := 0) dX12_greater_0 rfl ?_
  refine q_iload_n (pc := 1) dX12_greater_1 rfl ?_
  by_cases k1 : a0 ≤ a1
  · rw [if_pos k1] at h
    refine q_icmp_le_t (pc := 2) (tgt := 9) dX12_greater_2 (by decide) k1 ?_
    refine q_iload_n (pc := 9) dX12_greater_9 rfl ?_
    obtain rfl := Option.some.inj h
    exact q_iret (pc := 10) dX12_greater_10 rfl rfl rfl
  · rw [if_neg k1] at h
    refine q_icmp_le_f (pc := 2) (tgt := 9) dX12_greater_2 (by decide) k1 ?_
    refine q_iload_n (pc := 5) dX12_greater_5 rfl ?_
    refine q_goto (pc := 6) (tgt := 10) dX12_greater_6 (by decide) ?_
    obtain rfl := Option.some.inj h
    exact q_iret (pc := 10) dX12_greater_10 rfl rfl rfl
def f_X12_weighsMatches_L9 (x1 : Int32) : Nat → Int32 → qM → Option (Int32 × qM)
  | 0, _, _ => none
  | n + 1, c2, M =>
  if ((nI 1) <<< (x1 &&& 31)) ≤ c2 then some (c2, M)
    else (qrd M 26 57 (nI 1)).bind fun v4 => (qwr M 36 448 (((nI 64) * v4) + c2) (nI 0)).bind fun M6 => f_X12_weighsMatches_L9 x1 n (c2 + nI 1) M6
set_option maxRecDepth 20000 in
set_option maxHeartbeats 4000000 in
theorem l_X12_weighsMatches_L9 {G : qG} {ρ : qR} (x1 : Int32) (J : qJ) : ∀ (n : Nat) (c2 : Int32) (M : qM) (res : Int32 × qM), f_X12_weighsMatches_L9 x1 n c2 M = some res → (∀ x : Int32 × qM, res = x → QW G (qrm 6 0 0) YX12_weighsMatches 0 0 39 [some (.ref 25), some (.int x1), none, none, none, none, none] [] SH x.2 J ρ) → QW G (qrm 6 0 0) YX12_weighsMatches 0 0 9 [some (.ref 25), some (.int x1), some (.int c2), none, none, none, none] [] SH M J ρ
  | 0, _, _, _, h, _ => by simp [f_X12_weighsMatches_L9] at h
  | n + 1, c2, M, res, h, hk => by
    rw [f_X12_weighsMatches_L9] at h
    refine q_iload_n (pc := 9) dX12_weighsMatches_9 rfl ?_
    refine q_iconst (pc := 10) (v := nI 1) dX12_weighsMatches_10 (by decide) ?_
    refine q_iload_n (pc := 11) dX12_weighsMatches_11 rfl ?_
    refine q_ishl (pc := 12) dX12_weighsMatches_12 ?_
    by_cases k3 : ((nI 1) <<< (x1 &&& 31)) ≤ c2
    · rw [if_pos k3] at h
      refine q_icmp_ge_t (pc := 13) (tgt := 39) dX12_weighsMatches_13 (by decide) k3 ?_
      refine q_weak (ls' := [some (.ref 25), some (.int x1), none, none, none, none, none]) ⟨rfl, ⟨rfl, trivial⟩⟩ ?_
      obtain rfl := Option.some.inj h
      exact hk (c2, M) rfl
    · rw [if_neg k3] at h
      refine q_icmp_ge_f (pc := 13) (tgt := 39) dX12_weighsMatches_13 (by decide) k3 ?_
      refine q_aload_n (pc := 16) dX12_weighsMatches_16 rfl ?_
      refine q_getf (pc := 17) (f := 22) (v := .ref 36) dX12_weighsMatches_17 sh_25 cl_11 inX12 rfl (by decide) lk_X12_45 rfl ?_
      refine q_bipush (pc := 20) (v := nI 64) dX12_weighsMatches_20 (by decide) ?_
      refine q_aload_n (pc := 22) dX12_weighsMatches_22 rfl ?_
      refine q_getf (pc := 23) (f := 0) (v := .ref 26) dX12_weighsMatches_23 sh_25 cl_11 inX12 rfl (by decide) lk_X12_7 rfl ?_
      refine q_iconst (pc := 26) (v := nI 1) dX12_weighsMatches_26 (by decide) ?_
      obtain ⟨v4, h5, h⟩ := Option.bind_eq_some_iff.mp h
      refine q_iald (pc := 27) dX12_weighsMatches_27 sh_26 h5 ?_
      refine q_imul (pc := 28) dX12_weighsMatches_28 ?_
      refine q_iload_n (pc := 29) dX12_weighsMatches_29 rfl ?_
      refine q_iadd (pc := 30) dX12_weighsMatches_30 ?_
      refine q_iconst (pc := 31) (v := nI 0) dX12_weighsMatches_31 (by decide) ?_
      obtain ⟨M6, h7, h⟩ := Option.bind_eq_some_iff.mp h
      refine q_iast (pc := 32) dX12_weighsMatches_32 sh_36 h7 ?_
      refine q_iincW (pc := 33) (w := nI 1) (ls' := [some (.ref 25), some (.int x1), some (.int (c2 + nI 1)), none, none, none, none]) dX12_weighsMatches_33 rfl (by decide) (by decide) rfl rfl ?_
      refine q_goto (pc := 36) (tgt := 9) dX12_weighsMatches_36 (by decide) ?_
      exact l_X12_weighsMatches_L9 x1 J n (c2 + nI 1) M6 res h hk
def f_X12_weighsMatches_L88 (x1 : Int32) (x2 : Int32) (x3 : Int32) (x4 : Int32) (M : qM) : Nat → Int32 → Int32 → Option (Int32 × Int32)
  | 0, _, _ => none
  | n + 1, c5, c6 =>
  if x1 ≤ c6 then some (c5, c6)
    else (f_X12_has (x3 &&& (x4 ^^^ (-1 : Int32))) c6 M).bind fun b22 => if b22 = true then (f_X12_strengthOn_at25_28 c6 x2 M).bind fun r26 => (qrd M 36 448 (((nI 64) * (x2 + (nI 1))) + (x4 ||| ((nI 1) <<< (c6 &&& 31))))).bind fun v27 => (f_X12_greater c5 (((nI 10000) + r26) + v27) M).bind fun r31 => f_X12_weighsMatches_L88 x1 x2 x3 x4 M n r31 (c6 + nI 1)
    else f_X12_weighsMatches_L88 x1 x2 x3 x4 M n c5 (c6 + nI 1)
set_option maxRecDepth 20000 in
set_option maxHeartbeats 4000000 in
theorem l_X12_weighsMatches_L88 {G : qG} {ρ : qR} (x1 : Int32) (x2 : Int32) (x3 : Int32) (x4 : Int32) (M : qM) (J : qJ) : ∀ (n : Nat) (c5 : Int32) (c6 : Int32) (res : Int32 × Int32), f_X12_weighsMatches_L88 x1 x2 x3 x4 M n c5 c6 = some res → (∀ x : Int32 × Int32, res = x → QW G (qrm 6 0 0) YX12_weighsMatches 0 0 156 [some (.ref 25), some (.int x1), some (.int x2), some (.int x3), some (.int x4), some (.int x.1), none] [] SH M J ρ) → QW G (qrm 6 0 0) YX12_weighsMatches 0 0 88 [some (.ref 25), some (.int x1), some (.int x2), some (.int x3), some (.int x4), some (.int c5), some (.int c6)] [] SH M J ρ
  | 0, _, _, _, h, _ => by simp [f_X12_weighsMatches_L88] at h
  | n + 1, c5, c6, res, h, hk => by
    rw [f_X12_weighsMatches_L88] at h
    refine q_iload (pc := 88) dX12_weighsMatches_88 rfl ?_
    refine q_iload_n (pc := 90) dX12_weighsMatches_90 rfl ?_
    by_cases k19 : x1 ≤ c6
    · rw [if_pos k19] at h
      refine q_icmp_ge_t (pc := 91) (tgt := 156) dX12_weighsMatches_91 (by decide) k19 ?_
      refine q_weak (ls' := [some (.ref 25), some (.int x1), some (.int x2), some (.int x3), some (.int x4), some (.int c5), none]) ⟨rfl, ⟨rfl, ⟨rfl, ⟨rfl, ⟨rfl, ⟨rfl, trivial⟩⟩⟩⟩⟩⟩ ?_
      obtain rfl := Option.some.inj h
      exact hk (c5, c6) rfl
    · rw [if_neg k19] at h
      refine q_icmp_ge_f (pc := 91) (tgt := 156) dX12_weighsMatches_91 (by decide) k19 ?_
      refine q_iload_n (pc := 94) dX12_weighsMatches_94 rfl ?_
      refine q_iload (pc := 95) dX12_weighsMatches_95 rfl ?_
      refine q_iconst (pc := 97) (v := (-1 : Int32)) dX12_weighsMatches_97 (by decide) ?_
      refine q_ixor (pc := 98) dX12_weighsMatches_98 ?_
      refine q_iand (pc := 99) dX12_weighsMatches_99 ?_
      refine q_iload (pc := 100) dX12_weighsMatches_100 rfl ?_
      obtain ⟨b22, h21, h⟩ := Option.bind_eq_some_iff.mp h
      refine q_calls (pc := 102) (st := []) (a_X12_has h21) okX12_has rfl dX12_weighsMatches_102 lk_X12_132 rfl (by decide) (by decide) (Nat.le_of_ble_eq_true rfl) ⟨Nat.le_of_ble_eq_true rfl, Nat.le_of_ble_eq_true rfl⟩ rfl ?_
      show QW G (qrm 6 0 0) YX12_weighsMatches 0 0 105 [some (.ref 25), some (.int x1), some (.int x2), some (.int x3), some (.int x4), some (.int c5), some (.int c6)] [.int (qb b22)] SH M J _
      by_cases k23 : b22 = true
      · rw [if_pos k23] at h
        refine q_if_eq_f (pc := 105) (tgt := 150) dX12_weighsMatches_105 (by decide) (qb_t k23) ?_
        refine q_iload (pc := 108) dX12_weighsMatches_108 rfl ?_
        refine q_sipush (pc := 110) (v := nI 10000) dX12_weighsMatches_110 (by decide) ?_
        refine q_aload_n (pc := 113) dX12_weighsMatches_113 rfl ?_
        refine q_aload_n (pc := 114) dX12_weighsMatches_114 rfl ?_
        refine q_getf (pc := 115) (f := 2) (v := .ref 28) dX12_weighsMatches_115 sh_25 cl_11 inX12 rfl (by decide) lk_X12_16 rfl ?_
        refine q_iload (pc := 118) dX12_weighsMatches_118 rfl ?_
        refine q_iload_n (pc := 120) dX12_weighsMatches_120 rfl ?_
        obtain ⟨r26, h25, h⟩ := Option.bind_eq_some_iff.mp h
        refine q_callv (pc := 121) (st := [.int (nI 10000), .int c5]) (a_X12_strengthOn_at25_28 h25) okX12_strengthOn rfl dX12_weighsMatches_121 lk_X12_144 sh_25 cl_11 rfl (by decide) (by decide) (Nat.le_of_ble_eq_true rfl) ⟨Nat.le_of_ble_eq_true rfl, Nat.le_of_ble_eq_true rfl⟩ rfl ?_
        show QW G (qrm 6 0 0) YX12_weighsMatches 0 0 124 [some (.ref 25), some (.int x1), some (.int x2), some (.int x3), some (.int x4), some (.int c5), some (.int c6)] [.int r26, .int (nI 10000), .int c5] SH M J _
        refine q_iadd (pc := 124) dX12_weighsMatches_124 ?_
        refine q_aload_n (pc := 125) dX12_weighsMatches_125 rfl ?_
        refine q_getf (pc := 126) (f := 22) (v := .ref 36) dX12_weighsMatches_126 sh_25 cl_11 inX12 rfl (by decide) lk_X12_45 rfl ?_
        refine q_bipush (pc := 129) (v := nI 64) dX12_weighsMatches_129 (by decide) ?_
        refine q_iload_n (pc := 131) dX12_weighsMatches_131 rfl ?_
        refine q_iconst (pc := 132) (v := nI 1) dX12_weighsMatches_132 (by decide) ?_
        refine q_iadd (pc := 133) dX12_weighsMatches_133 ?_
        refine q_imul (pc := 134) dX12_weighsMatches_134 ?_
        refine q_iload (pc := 135) dX12_weighsMatches_135 rfl ?_
        refine q_iconst (pc := 137) (v := nI 1) dX12_weighsMatches_137 (by decide) ?_
        refine q_iload (pc := 138) dX12_weighsMatches_138 rfl ?_
        refine q_ishl (pc := 140) dX12_weighsMatches_140 ?_
        refine q_ior (pc := 141) dX12_weighsMatches_141 ?_
        refine q_iadd (pc := 142) dX12_weighsMatches_142 ?_
        obtain ⟨v27, h28, h⟩ := Option.bind_eq_some_iff.mp h
        refine q_iald (pc := 143) dX12_weighsMatches_143 sh_36 h28 ?_
        refine q_iadd (pc := 144) dX12_weighsMatches_144 ?_
        obtain ⟨r31, h30, h⟩ := Option.bind_eq_some_iff.mp h
        refine q_calls (pc := 145) (st := []) (a_X12_greater h30) okX12_greater rfl dX12_weighsMatches_145 lk_X12_239 rfl (by decide) (by decide) (Nat.le_of_ble_eq_true rfl) ⟨Nat.le_of_ble_eq_true rfl, Nat.le_of_ble_eq_true rfl⟩ rfl ?_
        show QW G (qrm 6 0 0) YX12_weighsMatches 0 0 148 [some (.ref 25), some (.int x1), some (.int x2), some (.int x3), some (.int x4), some (.int c5), some (.int c6)] [.int r31] SH M J _
        refine q_istore (pc := 148) (ls' := [some (.ref 25), some (.int x1), some (.int x2), some (.int x3), some (.int x4), some (.int r31), some (.int c6)]) dX12_weighsMatches_148 (by decide) rfl rfl ?_
        refine q_iincW (pc := 150) (w := nI 1) (ls' := [some (.ref 25), some (.int x1), some (.int x2), some (.int x3), some (.int x4), some (.int r31), some (.int (c6 + nI 1))]) dX12_weighsMatches_150 rfl (by decide) (by decide) rfl rfl ?_
        refine q_goto (pc := 153) (tgt := 88) dX12_weighsMatches_153 (by decide) ?_
        exact l_X12_weighsMatches_L88 x1 x2 x3 x4 M J n r31 (c6 + nI 1) res h hk
      · rw [if_neg k23] at h
        refine q_if_eq_t (pc := 105) (tgt := 150) dX12_weighsMatches_105 (by decide) (qb_f k23) ?_
        refine q_iincW (pc := 150) (w := nI 1) (ls' := [some (.ref 25), some (.int x1), some (.int x2), some (.int x3), some (.int x4), some (.int c5), some (.int (c6 + nI 1))]) dX12_weighsMatches_150 rfl (by decide) (by decide) rfl rfl ?_
        refine q_goto (pc := 153) (tgt := 88) dX12_weighsMatches_153 (by decide) ?_
        exact l_X12_weighsMatches_L88 x1 x2 x3 x4 M J n c5 (c6 + nI 1) res h hk
def f_X12_weighsMatches_L61 (x1 : Int32) (x2 : Int32) (x3 : Int32) : Nat → Int32 → qM → Option (Int32 × qM)
  | 0, _, _ => none
  | n + 1, c4, M =>
  if ((nI 1) <<< (x1 &&& 31)) ≤ c4 then some (c4, M)
    else (qrd M 36 448 (((nI 64) * (x2 + (nI 1))) + c4)).bind fun v17 => (f_X12_weighsMatches_L88 x1 x2 x3 c4 M qF v17 (nI 0)).bind fun e32 => (qwr M 36 448 (((nI 64) * x2) + c4) e32.1).bind fun M33 => f_X12_weighsMatches_L61 x1 x2 x3 n (c4 + nI 1) M33
set_option maxRecDepth 20000 in
set_option maxHeartbeats 4000000 in
theorem l_X12_weighsMatches_L61 {G : qG} {ρ : qR} (x1 : Int32) (x2 : Int32) (x3 : Int32) (J : qJ) : ∀ (n : Nat) (c4 : Int32) (M : qM) (res : Int32 × qM), f_X12_weighsMatches_L61 x1 x2 x3 n c4 M = some res → (∀ x : Int32 × qM, res = x → QW G (qrm 6 0 0) YX12_weighsMatches 0 0 176 [some (.ref 25), some (.int x1), some (.int x2), none, none, none, none] [] SH x.2 J ρ) → QW G (qrm 6 0 0) YX12_weighsMatches 0 0 61 [some (.ref 25), some (.int x1), some (.int x2), some (.int x3), some (.int c4), none, none] [] SH M J ρ
  | 0, _, _, _, h, _ => by simp [f_X12_weighsMatches_L61] at h
  | n + 1, c4, M, res, h, hk => by
    rw [f_X12_weighsMatches_L61] at h
    refine q_iload (pc := 61) dX12_weighsMatches_61 rfl ?_
    refine q_iconst (pc := 63) (v := nI 1) dX12_weighsMatches_63 (by decide) ?_
    refine q_iload_n (pc := 64) dX12_weighsMatches_64 rfl ?_
    refine q_ishl (pc := 65) dX12_weighsMatches_65 ?_
    by_cases k16 : ((nI 1) <<< (x1 &&& 31)) ≤ c4
    · rw [if_pos k16] at h
      refine q_icmp_ge_t (pc := 66) (tgt := 176) dX12_weighsMatches_66 (by decide) k16 ?_
      refine q_weak (ls' := [some (.ref 25), some (.int x1), some (.int x2), none, none, none, none]) ⟨rfl, ⟨rfl, ⟨rfl, trivial⟩⟩⟩ ?_
      obtain rfl := Option.some.inj h
      exact hk (c4, M) rfl
    · rw [if_neg k16] at h
      refine q_icmp_ge_f (pc := 66) (tgt := 176) dX12_weighsMatches_66 (by decide) k16 ?_
      refine q_aload_n (pc := 69) dX12_weighsMatches_69 rfl ?_
      refine q_getf (pc := 70) (f := 22) (v := .ref 36) dX12_weighsMatches_70 sh_25 cl_11 inX12 rfl (by decide) lk_X12_45 rfl ?_
      refine q_bipush (pc := 73) (v := nI 64) dX12_weighsMatches_73 (by decide) ?_
      refine q_iload_n (pc := 75) dX12_weighsMatches_75 rfl ?_
      refine q_iconst (pc := 76) (v := nI 1) dX12_weighsMatches_76 (by decide) ?_
      refine q_iadd (pc := 77) dX12_weighsMatches_77 ?_
      refine q_imul (pc := 78) dX12_weighsMatches_78 ?_
      refine q_iload (pc := 79) dX12_weighsMatches_79 rfl ?_
      refine q_iadd (pc := 81) dX12_weighsMatches_81 ?_
      obtain ⟨v17, h18, h⟩ := Option.bind_eq_some_iff.mp h
      refine q_iald (pc := 82) dX12_weighsMatches_82 sh_36 h18 ?_
      refine q_istore (pc := 83) (ls' := [some (.ref 25), some (.int x1), some (.int x2), some (.int x3), some (.int c4), some (.int v17), none]) dX12_weighsMatches_83 (by decide) rfl rfl ?_
      refine q_iconst (pc := 85) (v := nI 0) dX12_weighsMatches_85 (by decide) ?_
      refine q_istore (pc := 86) (ls' := [some (.ref 25), some (.int x1), some (.int x2), some (.int x3), some (.int c4), some (.int v17), some (.int (nI 0))]) dX12_weighsMatches_86 (by decide) rfl rfl ?_
      obtain ⟨⟨e32_5, e32_6⟩, h35, h⟩ := Option.bind_eq_some_iff.mp h
      try dsimp only at h
      refine l_X12_weighsMatches_L88 x1 x2 x3 c4 M J qF v17 (nI 0) _ h35 (fun x hx => ?_)
      subst hx
      show QW G (qrm 6 0 0) YX12_weighsMatches 0 0 156 [some (.ref 25), some (.int x1), some (.int x2), some (.int x3), some (.int c4), some (.int e32_5), none] [] SH M J _
      refine q_aload_n (pc := 156) dX12_weighsMatches_156 rfl ?_
      refine q_getf (pc := 157) (f := 22) (v := .ref 36) dX12_weighsMatches_157 sh_25 cl_11 inX12 rfl (by decide) lk_X12_45 rfl ?_
      refine q_bipush (pc := 160) (v := nI 64) dX12_weighsMatches_160 (by decide) ?_
      refine q_iload_n (pc := 162) dX12_weighsMatches_162 rfl ?_
      refine q_imul (pc := 163) dX12_weighsMatches_163 ?_
      refine q_iload (pc := 164) dX12_weighsMatches_164 rfl ?_
      refine q_iadd (pc := 166) dX12_weighsMatches_166 ?_
      refine q_iload (pc := 167) dX12_weighsMatches_167 rfl ?_
      obtain ⟨M33, h34, h⟩ := Option.bind_eq_some_iff.mp h
      refine q_iast (pc := 169) dX12_weighsMatches_169 sh_36 h34 ?_
      refine q_iincW (pc := 170) (w := nI 1) (ls' := [some (.ref 25), some (.int x1), some (.int x2), some (.int x3), some (.int (c4 + nI 1)), some (.int e32_5), none]) dX12_weighsMatches_170 rfl (by decide) (by decide) rfl rfl ?_
      refine q_goto (pc := 173) (tgt := 61) dX12_weighsMatches_173 (by decide) ?_
      refine q_weak (ls' := [some (.ref 25), some (.int x1), some (.int x2), some (.int x3), some (.int (c4 + nI 1)), none, none]) ⟨rfl, ⟨rfl, ⟨rfl, ⟨rfl, ⟨rfl, trivial⟩⟩⟩⟩⟩ ?_
      exact l_X12_weighsMatches_L61 x1 x2 x3 J n (c4 + nI 1) M33 res h hk
def f_X12_weighsMatches_L48 (x1 : Int32) : Nat → Int32 → qM → Option (Int32 × qM)
  | 0, _, _ => none
  | n + 1, c2, M =>
  if c2 < 0 then some (c2, M)
    else (f_X12_can c2 M).bind fun r15 => (f_X12_weighsMatches_L61 x1 c2 r15 qF (nI 0) M).bind fun e36 => f_X12_weighsMatches_L48 x1 n (c2 + (-1 : Int32)) e36.2
set_option maxRecDepth 20000 in
set_option maxHeartbeats 4000000 in
theorem l_X12_weighsMatches_L48 {G : qG} {ρ : qR} (x1 : Int32) (J : qJ) : ∀ (n : Nat) (c2 : Int32) (M : qM) (res : Int32 × qM), f_X12_weighsMatches_L48 x1 n c2 M = some res → (∀ x : Int32 × qM, res = x → QW G (qrm 6 0 0) YX12_weighsMatches 0 0 182 [none, none, none, none, none, none, none] [] SH x.2 J ρ) → QW G (qrm 6 0 0) YX12_weighsMatches 0 0 48 [some (.ref 25), some (.int x1), some (.int c2), none, none, none, none] [] SH M J ρ
  | 0, _, _, _, h, _ => by simp [f_X12_weighsMatches_L48] at h
  | n + 1, c2, M, res, h, hk => by
    rw [f_X12_weighsMatches_L48] at h
    refine q_iload_n (pc := 48) dX12_weighsMatches_48 rfl ?_
    by_cases k12 : c2 < 0
    · rw [if_pos k12] at h
      refine q_if_lt_t (pc := 49) (tgt := 182) dX12_weighsMatches_49 (by decide) k12 ?_
      refine q_weak (ls' := [none, none, none, none, none, none, none]) trivial ?_
      obtain rfl := Option.some.inj h
      exact hk (c2, M) rfl
    · rw [if_neg k12] at h
      refine q_if_lt_f (pc := 49) (tgt := 182) dX12_weighsMatches_49 (by decide) k12 ?_
      refine q_aload_n (pc := 52) dX12_weighsMatches_52 rfl ?_
      refine q_iload_n (pc := 53) dX12_weighsMatches_53 rfl ?_
      obtain ⟨r15, h14, h⟩ := Option.bind_eq_some_iff.mp h
      refine q_callv (pc := 54) (st := []) (a_X12_can h14) okX12_can rfl dX12_weighsMatches_54 lk_X12_158 sh_25 cl_11 rfl (by decide) (by decide) (Nat.le_of_ble_eq_true rfl) ⟨Nat.le_of_ble_eq_true rfl, Nat.le_of_ble_eq_true rfl⟩ rfl ?_
      show QW G (qrm 6 0 0) YX12_weighsMatches 0 0 57 [some (.ref 25), some (.int x1), some (.int c2), none, none, none, none] [.int r15] SH M J _
      refine q_istore_n (pc := 57) (ls' := [some (.ref 25), some (.int x1), some (.int c2), some (.int r15), none, none, none]) dX12_weighsMatches_57 (by decide) rfl rfl ?_
      refine q_iconst (pc := 58) (v := nI 0) dX12_weighsMatches_58 (by decide) ?_
      refine q_istore (pc := 59) (ls' := [some (.ref 25), some (.int x1), some (.int c2), some (.int r15), some (.int (nI 0)), none, none]) dX12_weighsMatches_59 (by decide) rfl rfl ?_
      obtain ⟨⟨e36_4, M37⟩, h38, h⟩ := Option.bind_eq_some_iff.mp h
      try dsimp only at h
      refine l_X12_weighsMatches_L61 x1 c2 r15 J qF (nI 0) M _ h38 (fun x hx => ?_)
      subst hx
      show QW G (qrm 6 0 0) YX12_weighsMatches 0 0 176 [some (.ref 25), some (.int x1), some (.int c2), none, none, none, none] [] SH M37 J _
      refine q_iincW (pc := 176) (w := (-1 : Int32)) (ls' := [some (.ref 25), some (.int x1), some (.int (c2 + (-1 : Int32))), none, none, none, none]) dX12_weighsMatches_176 rfl (by decide) (by decide) rfl rfl ?_
      refine q_goto (pc := 179) (tgt := 48) dX12_weighsMatches_179 (by decide) ?_
      exact l_X12_weighsMatches_L48 x1 J n (c2 + (-1 : Int32)) M37 res h hk
def f_X12_weighsMatches  (M : qM) : Option qM :=
  (qrd M 26 57 (nI 2)).bind fun v1 => (f_X12_weighsMatches_L9 v1 qF (nI 0) M).bind fun e8 => (qrd e8.2 26 57 (nI 1)).bind fun v10 => (f_X12_weighsMatches_L48 v1 qF (v10 - (nI 1)) e8.2).bind fun e39 => some (e39.2)
set_option maxRecDepth 20000 in
set_option maxHeartbeats 4000000 in
theorem a_X12_weighsMatches {G : qG}  {M : qM} {J : qJ} {M' : qM} (h : f_X12_weighsMatches  M = some (M')) : QM G 6 0 0 YX12_weighsMatches [.ref 25] SH M J (none, SH, M', J) := by
  refine ⟨Nat.le_of_ble_eq_true rfl, rfl, ?_⟩
  show QW G (qrm 6 0 0) YX12_weighsMatches 0 0 0 [some (.ref 25), none, none, none, none, none, none] [] SH M J _
  unfold f_X12_weighsMatches at h
  refine q_aload_n (pc := 0) dX12_weighsMatches_0 rfl ?_
  refine q_getf (pc := 1) (f := 0) (v := .ref 26) dX12_weighsMatches_1 sh_25 cl_11 inX12 rfl (by decide) lk_X12_7 rfl ?_
  refine q_iconst (pc := 4) (v := nI 2) dX12_weighsMatches_4 (by decide) ?_
  obtain ⟨v1, h2, h⟩ := Option.bind_eq_some_iff.mp h
  refine q_iald (pc := 5) dX12_weighsMatches_5 sh_26 h2 ?_
  refine q_istore_n (pc := 6) (ls' := [some (.ref 25), some (.int v1), none, none, none, none, none]) dX12_weighsMatches_6 (by decide) rfl rfl ?_
  refine q_iconst (pc := 7) (v := nI 0) dX12_weighsMatches_7 (by decide) ?_
  refine q_istore_n (pc := 8) (ls' := [some (.ref 25), some (.int v1), some (.int (nI 0)), none, none, none, none]) dX12_weighsMatches_8 (by decide) rfl rfl ?_
  obtain ⟨⟨e8_2, M9⟩, h42, h⟩ := Option.bind_eq_some_iff.mp h
  try dsimp only at h
  refine l_X12_weighsMatches_L9 v1 J qF (nI 0) M _ h42 (fun x hx => ?_)
  subst hx
  show QW G (qrm 6 0 0) YX12_weighsMatches 0 0 39 [some (.ref 25), some (.int v1), none, none, none, none, none] [] SH M9 J _
  refine q_aload_n (pc := 39) dX12_weighsMatches_39 rfl ?_
  refine q_getf (pc := 40) (f := 0) (v := .ref 26) dX12_weighsMatches_40 sh_25 cl_11 inX12 rfl (by decide) lk_X12_7 rfl ?_
  refine q_iconst (pc := 43) (v := nI 1) dX12_weighsMatches_43 (by decide) ?_
  obtain ⟨v10, h11, h⟩ := Option.bind_eq_some_iff.mp h
  refine q_iald (pc := 44) dX12_weighsMatches_44 sh_26 h11 ?_
  refine q_iconst (pc := 45) (v := nI 1) dX12_weighsMatches_45 (by decide) ?_
  refine q_isub (pc := 46) dX12_weighsMatches_46 ?_
  refine q_istore_n (pc := 47) (ls' := [some (.ref 25), some (.int v1), some (.int (v10 - (nI 1))), none, none, none, none]) dX12_weighsMatches_47 (by decide) rfl rfl ?_
  obtain ⟨⟨e39_2, M40⟩, h41, h⟩ := Option.bind_eq_some_iff.mp h
  try dsimp only at h
  refine l_X12_weighsMatches_L48 v1 J qF (v10 - (nI 1)) M9 _ h41 (fun x hx => ?_)
  subst hx
  show QW G (qrm 6 0 0) YX12_weighsMatches 0 0 182 [none, none, none, none, none, none, none] [] SH M40 J _
  obtain rfl := Option.some.inj h
  exact q_vret (pc := 182) dX12_weighsMatches_182 rfl rfl rfl
def f_X12_matched_L18 (x1 : Int32) (x2 : Int32) (x4 : Int32) (M : qM) : Nat → Int32 → Int32 → Option (Int32 × Int32)
  | 0, _, _ => none
  | n + 1, c3, c5 =>
  (qrd M 26 57 (nI 2)).bind fun v2 => if v2 ≤ c5 then some (c3, c5)
    else if c3 = (-1 : Int32) then (f_X12_can x4 M).bind fun r8 => (f_X12_has (r8 &&& (x2 ^^^ (-1 : Int32))) c5 M).bind fun b11 => if b11 = true then (f_X12_strengthOn_at25_28 c5 x4 M).bind fun r15 => (qrd M 36 448 (((nI 64) * (x4 + (nI 1))) + (x2 ||| ((nI 1) <<< (c5 &&& 31))))).bind fun v16 => (qrd M 36 448 (((nI 64) * x4) + x2)).bind fun v18 => if (((nI 10000) + r15) + v16) = v18 then f_X12_matched_L18 x1 x2 x4 M n c5 (c5 + nI 1)
    else f_X12_matched_L18 x1 x2 x4 M n (-1 : Int32) (c5 + nI 1)
    else f_X12_matched_L18 x1 x2 x4 M n (-1 : Int32) (c5 + nI 1)
    else some (c3, c5)
set_option maxRecDepth 20000 in
set_option maxHeartbeats 4000000 in
theorem l_X12_matched_L18 {G : qG} {ρ : qR} (x1 : Int32) (x2 : Int32) (x4 : Int32) (M : qM) (J : qJ) : ∀ (n : Nat) (c3 : Int32) (c5 : Int32) (res : Int32 × Int32), f_X12_matched_L18 x1 x2 x4 M n c3 c5 = some res → (∀ x : Int32 × Int32, res = x → QW G (qrm 6 0 0) YX12_matched 0 0 132 [some (.ref 25), some (.int x1), some (.int x2), some (.int x.1), some (.int x4), none, none, none] [] SH M J ρ) → QW G (qrm 6 0 0) YX12_matched 0 0 18 [some (.ref 25), some (.int x1), some (.int x2), some (.int c3), some (.int x4), some (.int c5), none, none] [] SH M J ρ
  | 0, _, _, _, h, _ => by simp [f_X12_matched_L18] at h
  | n + 1, c3, c5, res, h, hk => by
    rw [f_X12_matched_L18] at h
    refine q_iload (pc := 18) dX12_matched_18 rfl ?_
    refine q_aload_n (pc := 20) dX12_matched_20 rfl ?_
    refine q_getf (pc := 21) (f := 0) (v := .ref 26) dX12_matched_21 sh_25 cl_11 inX12 rfl (by decide) lk_X12_7 rfl ?_
    refine q_iconst (pc := 24) (v := nI 2) dX12_matched_24 (by decide) ?_
    obtain ⟨v2, h3, h⟩ := Option.bind_eq_some_iff.mp h
    refine q_iald (pc := 25) dX12_matched_25 sh_26 h3 ?_
    by_cases k4 : v2 ≤ c5
    · rw [if_pos k4] at h
      refine q_icmp_ge_t (pc := 26) (tgt := 132) dX12_matched_26 (by decide) k4 ?_
      refine q_weak (ls' := [some (.ref 25), some (.int x1), some (.int x2), some (.int c3), some (.int x4), none, none, none]) ⟨rfl, ⟨rfl, ⟨rfl, ⟨rfl, ⟨rfl, trivial⟩⟩⟩⟩⟩ ?_
      obtain rfl := Option.some.inj h
      exact hk (c3, c5) rfl
    · rw [if_neg k4] at h
      refine q_icmp_ge_f (pc := 26) (tgt := 132) dX12_matched_26 (by decide) k4 ?_
      refine q_iload_n (pc := 29) dX12_matched_29 rfl ?_
      refine q_iconst (pc := 30) (v := (-1 : Int32)) dX12_matched_30 (by decide) ?_
      by_cases k5 : c3 = (-1 : Int32)
      · rw [if_pos k5] at h
        refine q_icmp_ne_f (pc := 31) (tgt := 132) dX12_matched_31 (by decide) k5 ?_
        refine q_aload_n (pc := 34) dX12_matched_34 rfl ?_
        refine q_iload (pc := 35) dX12_matched_35 rfl ?_
        obtain ⟨r8, h7, h⟩ := Option.bind_eq_some_iff.mp h
        refine q_callv (pc := 37) (st := []) (a_X12_can h7) okX12_can rfl dX12_matched_37 lk_X12_158 sh_25 cl_11 rfl (by decide) (by decide) (Nat.le_of_ble_eq_true rfl) ⟨Nat.le_of_ble_eq_true rfl, Nat.le_of_ble_eq_true rfl⟩ rfl ?_
        show QW G (qrm 6 0 0) YX12_matched 0 0 40 [some (.ref 25), some (.int x1), some (.int x2), some (.int c3), some (.int x4), some (.int c5), none, none] [.int r8] SH M J _
        refine q_iload_n (pc := 40) dX12_matched_40 rfl ?_
        refine q_iconst (pc := 41) (v := (-1 : Int32)) dX12_matched_41 (by decide) ?_
        refine q_ixor (pc := 42) dX12_matched_42 ?_
        refine q_iand (pc := 43) dX12_matched_43 ?_
        refine q_iload (pc := 44) dX12_matched_44 rfl ?_
        obtain ⟨b11, h10, h⟩ := Option.bind_eq_some_iff.mp h
        refine q_calls (pc := 46) (st := []) (a_X12_has h10) okX12_has rfl dX12_matched_46 lk_X12_132 rfl (by decide) (by decide) (Nat.le_of_ble_eq_true rfl) ⟨Nat.le_of_ble_eq_true rfl, Nat.le_of_ble_eq_true rfl⟩ rfl ?_
        show QW G (qrm 6 0 0) YX12_matched 0 0 49 [some (.ref 25), some (.int x1), some (.int x2), some (.int c3), some (.int x4), some (.int c5), none, none] [.int (qb b11)] SH M J _
        refine q_istore (pc := 49) (ls' := [some (.ref 25), some (.int x1), some (.int x2), some (.int c3), some (.int x4), some (.int c5), some (.int (qb b11)), none]) dX12_matched_49 (by decide) rfl rfl ?_
        refine q_iload (pc := 51) dX12_matched_51 rfl ?_
        by_cases k12 : b11 = true
        · rw [if_pos k12] at h
          refine q_if_eq_f (pc := 53) (tgt := 111) dX12_matched_53 (by decide) (qb_t k12) ?_
          refine q_sipush (pc := 56) (v := nI 10000) dX12_matched_56 (by decide) ?_
          refine q_aload_n (pc := 59) dX12_matched_59 rfl ?_
          refine q_aload_n (pc := 60) dX12_matched_60 rfl ?_
          refine q_getf (pc := 61) (f := 2) (v := .ref 28) dX12_matched_61 sh_25 cl_11 inX12 rfl (by decide) lk_X12_16 rfl ?_
          refine q_iload (pc := 64) dX12_matched_64 rfl ?_
          refine q_iload (pc := 66) dX12_matched_66 rfl ?_
          obtain ⟨r15, h14, h⟩ := Option.bind_eq_some_iff.mp h
          refine q_callv (pc := 68) (st := [.int (nI 10000)]) (a_X12_strengthOn_at25_28 h14) okX12_strengthOn rfl dX12_matched_68 lk_X12_144 sh_25 cl_11 rfl (by decide) (by decide) (Nat.le_of_ble_eq_true rfl) ⟨Nat.le_of_ble_eq_true rfl, Nat.le_of_ble_eq_true rfl⟩ rfl ?_
          show QW G (qrm 6 0 0) YX12_matched 0 0 71 [some (.ref 25), some (.int x1), some (.int x2), some (.int c3), some (.int x4), some (.int c5), some (.int (qb b11)), none] [.int r15, .int (nI 10000)] SH M J _
          refine q_iadd (pc := 71) dX12_matched_71 ?_
          refine q_aload_n (pc := 72) dX12_matched_72 rfl ?_
          refine q_getf (pc := 73) (f := 22) (v := .ref 36) dX12_matched_73 sh_25 cl_11 inX12 rfl (by decide) lk_X12_45 rfl ?_
          refine q_bipush (pc := 76) (v := nI 64) dX12_matched_76 (by decide) ?_
          refine q_iload (pc := 78) dX12_matched_78 rfl ?_
          refine q_iconst (pc := 80) (v := nI 1) dX12_matched_80 (by decide) ?_
          refine q_iadd (pc := 81) dX12_matched_81 ?_
          refine q_imul (pc := 82) dX12_matched_82 ?_
          refine q_iload_n (pc := 83) dX12_matched_83 rfl ?_
          refine q_iconst (pc := 84) (v := nI 1) dX12_matched_84 (by decide) ?_
          refine q_iload (pc := 85) dX12_matched_85 rfl ?_
          refine q_ishl (pc := 87) dX12_matched_87 ?_
          refine q_ior (pc := 88) dX12_matched_88 ?_
          refine q_iadd (pc := 89) dX12_matched_89 ?_
          obtain ⟨v16, h17, h⟩ := Option.bind_eq_some_iff.mp h
          refine q_iald (pc := 90) dX12_matched_90 sh_36 h17 ?_
          refine q_iadd (pc := 91) dX12_matched_91 ?_
          refine q_aload_n (pc := 92) dX12_matched_92 rfl ?_
          refine q_getf (pc := 93) (f := 22) (v := .ref 36) dX12_matched_93 sh_25 cl_11 inX12 rfl (by decide) lk_X12_45 rfl ?_
          refine q_bipush (pc := 96) (v := nI 64) dX12_matched_96 (by decide) ?_
          refine q_iload (pc := 98) dX12_matched_98 rfl ?_
          refine q_imul (pc := 100) dX12_matched_100 ?_
          refine q_iload_n (pc := 101) dX12_matched_101 rfl ?_
          refine q_iadd (pc := 102) dX12_matched_102 ?_
          obtain ⟨v18, h19, h⟩ := Option.bind_eq_some_iff.mp h
          refine q_iald (pc := 103) dX12_matched_103 sh_36 h19 ?_
          by_cases k20 : (((nI 10000) + r15) + v16) = v18
          · rw [if_pos k20] at h
            refine q_icmp_ne_f (pc := 104) (tgt := 111) dX12_matched_104 (by decide) k20 ?_
            refine q_iconst (pc := 107) (v := nI 1) dX12_matched_107 (by decide) ?_
            refine q_goto (pc := 108) (tgt := 112) dX12_matched_108 (by decide) ?_
            refine q_istore (pc := 112) (ls' := [some (.ref 25), some (.int x1), some (.int x2), some (.int c3), some (.int x4), some (.int c5), some (.int (qb b11)), some (.int (nI 1))]) dX12_matched_112 (by decide) rfl rfl ?_
            refine q_iload (pc := 114) dX12_matched_114 rfl ?_
            refine q_if_eq_f (pc := 116) (tgt := 124) dX12_matched_116 (by decide) (by decide) ?_
            refine q_iload (pc := 119) dX12_matched_119 rfl ?_
            refine q_goto (pc := 121) (tgt := 125) dX12_matched_121 (by decide) ?_
            refine q_istore_n (pc := 125) (ls' := [some (.ref 25), some (.int x1), some (.int x2), some (.int c5), some (.int x4), some (.int c5), some (.int (qb b11)), some (.int (nI 1))]) dX12_matched_125 (by decide) rfl rfl ?_
            refine q_iincW (pc := 126) (w := nI 1) (ls' := [some (.ref 25), some (.int x1), some (.int x2), some (.int c5), some (.int x4), some (.int (c5 + nI 1)), some (.int (qb b11)), some (.int (nI 1))]) dX12_matched_126 rfl (by decide) (by decide) rfl rfl ?_
            refine q_goto (pc := 129) (tgt := 18) dX12_matched_129 (by decide) ?_
            refine q_weak (ls' := [some (.ref 25), some (.int x1), some (.int x2), some (.int c5), some (.int x4), some (.int (c5 + nI 1)), none, none]) ⟨rfl, ⟨rfl, ⟨rfl, ⟨rfl, ⟨rfl, ⟨rfl, trivial⟩⟩⟩⟩⟩⟩ ?_
            exact l_X12_matched_L18 x1 x2 x4 M J n c5 (c5 + nI 1) res h hk
          · rw [if_neg k20] at h
            refine q_icmp_ne_t (pc := 104) (tgt := 111) dX12_matched_104 (by decide) k20 ?_
            refine q_iconst (pc := 111) (v := nI 0) dX12_matched_111 (by decide) ?_
            refine q_istore (pc := 112) (ls' := [some (.ref 25), some (.int x1), some (.int x2), some (.int c3), some (.int x4), some (.int c5), some (.int (qb b11)), some (.int (nI 0))]) dX12_matched_112 (by decide) rfl rfl ?_
            refine q_iload (pc := 114) dX12_matched_114 rfl ?_
            refine q_if_eq_t (pc := 116) (tgt := 124) dX12_matched_116 (by decide) (by decide) ?_
            refine q_iconst (pc := 124) (v := (-1 : Int32)) dX12_matched_124 (by decide) ?_
            refine q_istore_n (pc := 125) (ls' := [some (.ref 25), some (.int x1), some (.int x2), some (.int (-1 : Int32)), some (.int x4), some (.int c5), some (.int (qb b11)), some (.int (nI 0))]) dX12_matched_125 (by decide) rfl rfl ?_
            refine q_iincW (pc := 126) (w := nI 1) (ls' := [some (.ref 25), some (.int x1), some (.int x2), some (.int (-1 : Int32)), some (.int x4), some (.int (c5 + nI 1)), some (.int (qb b11)), some (.int (nI 0))]) dX12_matched_126 rfl (by decide) (by decide) rfl rfl ?_
            refine q_goto (pc := 129) (tgt := 18) dX12_matched_129 (by decide) ?_
            refine q_weak (ls' := [some (.ref 25), some (.int x1), some (.int x2), some (.int (-1 : Int32)), some (.int x4), some (.int (c5 + nI 1)), none, none]) ⟨rfl, ⟨rfl, ⟨rfl, ⟨rfl, ⟨rfl, ⟨rfl, trivial⟩⟩⟩⟩⟩⟩ ?_
            exact l_X12_matched_L18 x1 x2 x4 M J n (-1 : Int32) (c5 + nI 1) res h hk
        · rw [if_neg k12] at h
          refine q_if_eq_t (pc := 53) (tgt := 111) dX12_matched_53 (by decide) (qb_f k12) ?_
          refine q_iconst (pc := 111) (v := nI 0) dX12_matched_111 (by decide) ?_
          refine q_istore (pc := 112) (ls' := [some (.ref 25), some (.int x1), some (.int x2), some (.int c3), some (.int x4), some (.int c5), some (.int (qb b11)), some (.int (nI 0))]) dX12_matched_112 (by decide) rfl rfl ?_
          refine q_iload (pc := 114) dX12_matched_114 rfl ?_
          refine q_if_eq_t (pc := 116) (tgt := 124) dX12_matched_116 (by decide) (by decide) ?_
          refine q_iconst (pc := 124) (v := (-1 : Int32)) dX12_matched_124 (by decide) ?_
          refine q_istore_n (pc := 125) (ls' := [some (.ref 25), some (.int x1), some (.int x2), some (.int (-1 : Int32)), some (.int x4), some (.int c5), some (.int (qb b11)), some (.int (nI 0))]) dX12_matched_125 (by decide) rfl rfl ?_
          refine q_iincW (pc := 126) (w := nI 1) (ls' := [some (.ref 25), some (.int x1), some (.int x2), some (.int (-1 : Int32)), some (.int x4), some (.int (c5 + nI 1)), some (.int (qb b11)), some (.int (nI 0))]) dX12_matched_126 rfl (by decide) (by decide) rfl rfl ?_
          refine q_goto (pc := 129) (tgt := 18) dX12_matched_129 (by decide) ?_
          refine q_weak (ls' := [some (.ref 25), some (.int x1), some (.int x2), some (.int (-1 : Int32)), some (.int x4), some (.int (c5 + nI 1)), none, none]) ⟨rfl, ⟨rfl, ⟨rfl, ⟨rfl, ⟨rfl, ⟨rfl, trivial⟩⟩⟩⟩⟩⟩ ?_
          exact l_X12_matched_L18 x1 x2 x4 M J n (-1 : Int32) (c5 + nI 1) res h hk
      · rw [if_neg k5] at h
        refine q_icmp_ne_t (pc := 31) (tgt := 132) dX12_matched_31 (by decide) k5 ?_
        refine q_weak (ls' := [some (.ref 25), some (.int x1), some (.int x2), some (.int c3), some (.int x4), none, none, none]) ⟨rfl, ⟨rfl, ⟨rfl, ⟨rfl, ⟨rfl, trivial⟩⟩⟩⟩⟩ ?_
        obtain rfl := Option.some.inj h
        exact hk (c3, c5) rfl
def f_X12_matched_L7 (x1 : Int32) (M : qM) : Nat → Int32 → Int32 → Int32 → Option (Int32 × Int32 × Int32)
  | 0, _, _, _ => none
  | n + 1, c2, c3, c4 =>
  if x1 < c4 then some (c2, c3, c4)
    else (f_X12_matched_L18 x1 c2 c4 M qF (-1 : Int32) (nI 0)).bind fun e21 => if e21.1 = (-1 : Int32) then f_X12_matched_L7 x1 M n (c2 ||| (nI 0)) e21.1 (c4 + nI 1)
    else f_X12_matched_L7 x1 M n (c2 ||| ((nI 1) <<< (e21.1 &&& 31))) e21.1 (c4 + nI 1)
set_option maxRecDepth 20000 in
set_option maxHeartbeats 4000000 in
theorem l_X12_matched_L7 {G : qG} {ρ : qR} (x1 : Int32) (M : qM) (J : qJ) : ∀ (n : Nat) (c2 : Int32) (c3 : Int32) (c4 : Int32) (res : Int32 × Int32 × Int32), f_X12_matched_L7 x1 M n c2 c3 c4 = some res → (∀ x : Int32 × Int32 × Int32, res = x → QW G (qrm 6 0 0) YX12_matched 0 0 153 [none, none, none, some (.int x.2.1), none, none, none, none] [] SH M J ρ) → QW G (qrm 6 0 0) YX12_matched 0 0 7 [some (.ref 25), some (.int x1), some (.int c2), some (.int c3), some (.int c4), none, none, none] [] SH M J ρ
  | 0, _, _, _, _, h, _ => by simp [f_X12_matched_L7] at h
  | n + 1, c2, c3, c4, res, h, hk => by
    rw [f_X12_matched_L7] at h
    refine q_iload (pc := 7) dX12_matched_7 rfl ?_
    refine q_iload_n (pc := 9) dX12_matched_9 rfl ?_
    by_cases k1 : x1 < c4
    · rw [if_pos k1] at h
      refine q_icmp_gt_t (pc := 10) (tgt := 153) dX12_matched_10 (by decide) k1 ?_
      refine q_weak (ls' := [none, none, none, some (.int c3), none, none, none, none]) ⟨rfl, trivial⟩ ?_
      obtain rfl := Option.some.inj h
      exact hk (c2, c3, c4) rfl
    · rw [if_neg k1] at h
      refine q_icmp_gt_f (pc := 10) (tgt := 153) dX12_matched_10 (by decide) k1 ?_
      refine q_iconst (pc := 13) (v := (-1 : Int32)) dX12_matched_13 (by decide) ?_
      refine q_istore_n (pc := 14) (ls' := [some (.ref 25), some (.int x1), some (.int c2), some (.int (-1 : Int32)), some (.int c4), none, none, none]) dX12_matched_14 (by decide) rfl rfl ?_
      refine q_iconst (pc := 15) (v := nI 0) dX12_matched_15 (by decide) ?_
      refine q_istore (pc := 16) (ls' := [some (.ref 25), some (.int x1), some (.int c2), some (.int (-1 : Int32)), some (.int c4), some (.int (nI 0)), none, none]) dX12_matched_16 (by decide) rfl rfl ?_
      obtain ⟨⟨e21_3, e21_5⟩, h23, h⟩ := Option.bind_eq_some_iff.mp h
      try dsimp only at h
      refine l_X12_matched_L18 x1 c2 c4 M J qF (-1 : Int32) (nI 0) _ h23 (fun x hx => ?_)
      subst hx
      show QW G (qrm 6 0 0) YX12_matched 0 0 132 [some (.ref 25), some (.int x1), some (.int c2), some (.int e21_3), some (.int c4), none, none, none] [] SH M J _
      refine q_iload_n (pc := 132) dX12_matched_132 rfl ?_
      refine q_iload_n (pc := 133) dX12_matched_133 rfl ?_
      refine q_iconst (pc := 134) (v := (-1 : Int32)) dX12_matched_134 (by decide) ?_
      by_cases k22 : e21_3 = (-1 : Int32)
      · rw [if_pos k22] at h
        refine q_icmp_ne_f (pc := 135) (tgt := 142) dX12_matched_135 (by decide) k22 ?_
        refine q_iconst (pc := 138) (v := nI 0) dX12_matched_138 (by decide) ?_
        refine q_goto (pc := 139) (tgt := 145) dX12_matched_139 (by decide) ?_
        refine q_ior (pc := 145) dX12_matched_145 ?_
        refine q_istore_n (pc := 146) (ls' := [some (.ref 25), some (.int x1), some (.int (c2 ||| (nI 0))), some (.int e21_3), some (.int c4), none, none, none]) dX12_matched_146 (by decide) rfl rfl ?_
        refine q_iincW (pc := 147) (w := nI 1) (ls' := [some (.ref 25), some (.int x1), some (.int (c2 ||| (nI 0))), some (.int e21_3), some (.int (c4 + nI 1)), none, none, none]) dX12_matched_147 rfl (by decide) (by decide) rfl rfl ?_
        refine q_goto (pc := 150) (tgt := 7) dX12_matched_150 (by decide) ?_
        exact l_X12_matched_L7 x1 M J n (c2 ||| (nI 0)) e21_3 (c4 + nI 1) res h hk
      · rw [if_neg k22] at h
        refine q_icmp_ne_t (pc := 135) (tgt := 142) dX12_matched_135 (by decide) k22 ?_
        refine q_iconst (pc := 142) (v := nI 1) dX12_matched_142 (by decide) ?_
        refine q_iload_n (pc := 143) dX12_matched_143 rfl ?_
        refine q_ishl (pc := 144) dX12_matched_144 ?_
        refine q_ior (pc := 145) dX12_matched_145 ?_
        refine q_istore_n (pc := 146) (ls' := [some (.ref 25), some (.int x1), some (.int (c2 ||| ((nI 1) <<< (e21_3 &&& 31)))), some (.int e21_3), some (.int c4), none, none, none]) dX12_matched_146 (by decide) rfl rfl ?_
        refine q_iincW (pc := 147) (w := nI 1) (ls' := [some (.ref 25), some (.int x1), some (.int (c2 ||| ((nI 1) <<< (e21_3 &&& 31)))), some (.int e21_3), some (.int (c4 + nI 1)), none, none, none]) dX12_matched_147 rfl (by decide) (by decide) rfl rfl ?_
        refine q_goto (pc := 150) (tgt := 7) dX12_matched_150 (by decide) ?_
        exact l_X12_matched_L7 x1 M J n (c2 ||| ((nI 1) <<< (e21_3 &&& 31))) e21_3 (c4 + nI 1) res h hk
def f_X12_matched (a1 : Int32) (M : qM) : Option Int32 :=
  (f_X12_matched_L7 a1 M qF (nI 0) (-1 : Int32) (nI 0)).bind fun e24 => some (e24.2.1)
set_option maxRecDepth 20000 in
set_option maxHeartbeats 4000000 in
theorem a_X12_matched {G : qG} {a1 : Int32} {M : qM} {J : qJ} {r : Int32} (h : f_X12_matched a1 M = some (r)) : QM G 6 0 0 YX12_matched [.ref 25, .int a1] SH M J (some (.int r), SH, M, J) := by
  refine ⟨Nat.le_of_ble_eq_true rfl, Or.inl rfl, ?_⟩
  show QW G (qrm 6 0 0) YX12_matched 0 0 0 [some (.ref 25), some (.int a1), none, none, none, none, none, none] [] SH M J _
  unfold f_X12_matched at h
  refine q_iconst (pc := 0) (v := nI 0) dX12_matched_0 (by decide) ?_
  refine q_istore_n (pc := 1) (ls' := [some (.ref 25), some (.int a1), some (.int (nI 0)), none, none, none, none, none]) dX12_matched_1 (by decide) rfl rfl ?_
  refine q_iconst (pc := 2) (v := (-1 : Int32)) dX12_matched_2 (by decide) ?_
  refine q_istore_n (pc := 3) (ls' := [some (.ref 25), some (.int a1), some (.int (nI 0)), some (.int (-1 : Int32)), none, none, none, none]) dX12_matched_3 (by decide) rfl rfl ?_
  refine q_iconst (pc := 4) (v := nI 0) dX12_matched_4 (by decide) ?_
  refine q_istore (pc := 5) (ls' := [some (.ref 25), some (.int a1), some (.int (nI 0)), some (.int (-1 : Int32)), some (.int (nI 0)), none, none, none]) dX12_matched_5 (by decide) rfl rfl ?_
  obtain ⟨⟨e24_2, e24_3, e24_4⟩, h25, h⟩ := Option.bind_eq_some_iff.mp h
  try dsimp only at h
  refine l_X12_matched_L7 a1 M J qF (nI 0) (-1 : Int32) (nI 0) _ h25 (fun x hx => ?_)
  subst hx
  show QW G (qrm 6 0 0) YX12_matched 0 0 153 [none, none, none, some (.int e24_3), none, none, none, none] [] SH M J _
  refine q_iload_n (pc := 153) dX12_matched_153 rfl ?_
  obtain rfl := Option.some.inj h
  exact q_iret (pc := 154) dX12_matched_154 rfl rfl rfl
def f_X12_match (a1 : Int32) (M : qM) : Option (Int32 × qM) :=
  (qrd M 26 57 (nI 1)).bind fun v1 => (f_X12_in a1.toInt64 (-2 : Int64) ((v1 - (nI 1)).toInt64) M).bind fun b5 => if b5 = true then (f_X12_weighsMatches M).bind fun M9 => if a1 = (-1 : Int32) then (qrd M9 36 448 (nI 0)).bind fun v11 => (qdiv v11 (nI 10000)).bind fun v13 => some (v13, M9)
    else if a1 = (-2 : Int32) then (qrd M9 36 448 (nI 0)).bind fun v16 => (qrem v16 (nI 10000)).bind fun v18 => some (v18, M9)
    else (f_X12_matched a1 M9).bind fun r22 => some (r22, M9)
    else some ((-1000000001 : Int32), M)
set_option maxRecDepth 20000 in
set_option maxHeartbeats 4000000 in
theorem a_X12_match {G : qG} {a1 : Int32} {M : qM} {J : qJ} {r : Int32} {M' : qM} (h : f_X12_match a1 M = some (r, M')) : QM G 7 0 0 YX12_match [.ref 25, .int a1] SH M J (some (.int r), SH, M', J) := by
  refine ⟨Nat.le_of_ble_eq_true rfl, Or.inl rfl, ?_⟩
  show QW G (qrm 7 0 0) YX12_match 0 0 0 [some (.ref 25), some (.int a1)] [] SH M J _
  unfold f_X12_match at h
  refine q_iload_n (pc := 0) dX12_match_0 rfl ?_
  refine q_i2l (pc := 1) dX12_match_1 ?_
  refine q_ldc2 (pc := 2) (v := (-2 : Int64)) dX12_match_2 lk_X12_242 ?_
  refine q_aload_n (pc := 5) dX12_match_5 rfl ?_
  refine q_getf (pc := 6) (f := 0) (v := .ref 26) dX12_match_6 sh_25 cl_11 inX12 rfl (by decide) lk_X12_7 rfl ?_
  refine q_iconst (pc := 9) (v := nI 1) dX12_match_9 (by decide) ?_
  obtain ⟨v1, h2, h⟩ := Option.bind_eq_some_iff.mp h
  refine q_iald (pc := 10) dX12_match_10 sh_26 h2 ?_
  refine q_iconst (pc := 11) (v := nI 1) dX12_match_11 (by decide) ?_
  refine q_isub (pc := 12) dX12_match_12 ?_
  refine q_i2l (pc := 13) dX12_match_13 ?_
  obtain ⟨b5, h4, h⟩ := Option.bind_eq_some_iff.mp h
  refine q_calls (pc := 14) (st := []) (a_X12_in h4) okX12_in rfl dX12_match_14 lk_X12_58 rfl (by decide) (by decide) (Nat.le_of_ble_eq_true rfl) ⟨Nat.le_of_ble_eq_true rfl, Nat.le_of_ble_eq_true rfl⟩ rfl ?_
  show QW G (qrm 7 0 0) YX12_match 0 0 17 [some (.ref 25), some (.int a1)] [.int (qb b5)] SH M J _
  by_cases k6 : b5 = true
  · rw [if_pos k6] at h
    refine q_if_ne_t (pc := 17) (tgt := 23) dX12_match_17 (by decide) (qb_t k6) ?_
    refine q_aload_n (pc := 23) dX12_match_23 rfl ?_
    obtain ⟨M9, h8, h⟩ := Option.bind_eq_some_iff.mp h
    refine q_callv (pc := 24) (st := []) (a_X12_weighsMatches h8) okX12_weighsMatches rfl dX12_match_24 lk_X12_244 sh_25 cl_11 rfl (by decide) (by decide) (Nat.le_of_ble_eq_true rfl) ⟨Nat.le_of_ble_eq_true rfl, Nat.le_of_ble_eq_true rfl⟩ rfl ?_
    show QW G (qrm 7 0 0) YX12_match 0 0 27 [some (.ref 25), some (.int a1)] [] SH M9 J _
    refine q_iload_n (pc := 27) dX12_match_27 rfl ?_
    refine q_iconst (pc := 28) (v := (-1 : Int32)) dX12_match_28 (by decide) ?_
    by_cases k10 : a1 = (-1 : Int32)
    · rw [if_pos k10] at h
      refine q_icmp_ne_f (pc := 29) (tgt := 45) dX12_match_29 (by decide) k10 ?_
      refine q_aload_n (pc := 32) dX12_match_32 rfl ?_
      refine q_getf (pc := 33) (f := 22) (v := .ref 36) dX12_match_33 sh_25 cl_11 inX12 rfl (by decide) lk_X12_45 rfl ?_
      refine q_iconst (pc := 36) (v := nI 0) dX12_match_36 (by decide) ?_
      obtain ⟨v11, h12, h⟩ := Option.bind_eq_some_iff.mp h
      refine q_iald (pc := 37) dX12_match_37 sh_36 h12 ?_
      refine q_sipush (pc := 38) (v := nI 10000) dX12_match_38 (by decide) ?_
      obtain ⟨v13, h14, h⟩ := Option.bind_eq_some_iff.mp h
      refine q_idiv (pc := 41) dX12_match_41 h14 ?_
      refine q_goto (pc := 42) (tgt := 69) dX12_match_42 (by decide) ?_
      have h := Option.some.inj h
      obtain ⟨rfl, rfl⟩ := Prod.mk.inj h
      exact q_iret (pc := 69) dX12_match_69 rfl rfl rfl
    · rw [if_neg k10] at h
      refine q_icmp_ne_t (pc := 29) (tgt := 45) dX12_match_29 (by decide) k10 ?_
      refine q_iload_n (pc := 45) dX12_match_45 rfl ?_
      refine q_bipush (pc := 46) (v := (-2 : Int32)) dX12_match_46 (by decide) ?_
      by_cases k15 : a1 = (-2 : Int32)
      · rw [if_pos k15] at h
        refine q_icmp_ne_f (pc := 48) (tgt := 64) dX12_match_48 (by decide) k15 ?_
        refine q_aload_n (pc := 51) dX12_match_51 rfl ?_
        refine q_getf (pc := 52) (f := 22) (v := .ref 36) dX12_match_52 sh_25 cl_11 inX12 rfl (by decide) lk_X12_45 rfl ?_
        refine q_iconst (pc := 55) (v := nI 0) dX12_match_55 (by decide) ?_
        obtain ⟨v16, h17, h⟩ := Option.bind_eq_some_iff.mp h
        refine q_iald (pc := 56) dX12_match_56 sh_36 h17 ?_
        refine q_sipush (pc := 57) (v := nI 10000) dX12_match_57 (by decide) ?_
        obtain ⟨v18, h19, h⟩ := Option.bind_eq_some_iff.mp h
        refine q_irem (pc := 60) dX12_match_60 h19 ?_
        refine q_goto (pc := 61) (tgt := 69) dX12_match_61 (by decide) ?_
        have h := Option.some.inj h
        obtain ⟨rfl, rfl⟩ := Prod.mk.inj h
        exact q_iret (pc := 69) dX12_match_69 rfl rfl rfl
      · rw [if_neg k15] at h
        refine q_icmp_ne_t (pc := 48) (tgt := 64) dX12_match_48 (by decide) k15 ?_
        refine q_aload_n (pc := 64) dX12_match_64 rfl ?_
        refine q_iload_n (pc := 65) dX12_match_65 rfl ?_
        obtain ⟨r22, h21, h⟩ := Option.bind_eq_some_iff.mp h
        refine q_callv (pc := 66) (st := []) (a_X12_matched h21) okX12_matched rfl dX12_match_66 lk_X12_247 sh_25 cl_11 rfl (by decide) (by decide) (Nat.le_of_ble_eq_true rfl) ⟨Nat.le_of_ble_eq_true rfl, Nat.le_of_ble_eq_true rfl⟩ rfl ?_
        show QW G (qrm 7 0 0) YX12_match 0 0 69 [some (.ref 25), some (.int a1)] [.int r22] SH M9 J _
        have h := Option.some.inj h
        obtain ⟨rfl, rfl⟩ := Prod.mk.inj h
        exact q_iret (pc := 69) dX12_match_69 rfl rfl rfl
  · rw [if_neg k6] at h
    refine q_if_ne_f (pc := 17) (tgt := 23) dX12_match_17 (by decide) (qb_f k6) ?_
    refine q_ldc (pc := 20) (v := (-1000000001 : Int32)) dX12_match_20 lk_X12_176 ?_
    have h := Option.some.inj h
    obtain ⟨rfl, rfl⟩ := Prod.mk.inj h
    exact q_iret (pc := 22) dX12_match_22 rfl rfl rfl
def f_X12_nextOrder_L4 (x1 : Int32) (M : qM) : Nat → Int32 → Option (Int32)
  | 0, _ => none
  | n + 1, c2 =>
  if c2 < 0 then some (c2)
    else (qrd M 37 6 c2).bind fun v2 => (qrd M 37 6 (c2 + (nI 1))).bind fun v4 => if v2 ≤ v4 then some (c2)
    else f_X12_nextOrder_L4 x1 M n (c2 + (-1 : Int32))
set_option maxRecDepth 20000 in
set_option maxHeartbeats 4000000 in
theorem l_X12_nextOrder_L4 {G : qG} {ρ : qR} (x1 : Int32) (M : qM) (J : qJ) : ∀ (n : Nat) (c2 : Int32) (res : Int32), f_X12_nextOrder_L4 x1 M n c2 = some res → (∀ x : Int32, res = x → QW G (qrm 0 0 0) YX12_nextOrder 0 0 31 [some (.ref 25), some (.int x1), some (.int x), none, none, none, none] [] SH M J ρ) → QW G (qrm 0 0 0) YX12_nextOrder 0 0 4 [some (.ref 25), some (.int x1), some (.int c2), none, none, none, none] [] SH M J ρ
  | 0, _, _, h, _ => by simp [f_X12_nextOrder_L4] at h
  | n + 1, c2, res, h, hk => by
    rw [f_X12_nextOrder_L4] at h
    refine q_iload_n (pc := 4) dX12_nextOrder_4 rfl ?_
    by_cases k1 : c2 < 0
    · rw [if_pos k1] at h
      refine q_if_lt_t (pc := 5) (tgt := 31) dX12_nextOrder_5 (by decide) k1 ?_
      obtain rfl := Option.some.inj h
      exact hk (c2) rfl
    · rw [if_neg k1] at h
      refine q_if_lt_f (pc := 5) (tgt := 31) dX12_nextOrder_5 (by decide) k1 ?_
      refine q_aload_n (pc := 8) dX12_nextOrder_8 rfl ?_
      refine q_getf (pc := 9) (f := 23) (v := .ref 37) dX12_nextOrder_9 sh_25 cl_11 inX12 rfl (by decide) lk_X12_48 rfl ?_
      refine q_iload_n (pc := 12) dX12_nextOrder_12 rfl ?_
      obtain ⟨v2, h3, h⟩ := Option.bind_eq_some_iff.mp h
      refine q_iald (pc := 13) dX12_nextOrder_13 sh_37 h3 ?_
      refine q_aload_n (pc := 14) dX12_nextOrder_14 rfl ?_
      refine q_getf (pc := 15) (f := 23) (v := .ref 37) dX12_nextOrder_15 sh_25 cl_11 inX12 rfl (by decide) lk_X12_48 rfl ?_
      refine q_iload_n (pc := 18) dX12_nextOrder_18 rfl ?_
      refine q_iconst (pc := 19) (v := nI 1) dX12_nextOrder_19 (by decide) ?_
      refine q_iadd (pc := 20) dX12_nextOrder_20 ?_
      obtain ⟨v4, h5, h⟩ := Option.bind_eq_some_iff.mp h
      refine q_iald (pc := 21) dX12_nextOrder_21 sh_37 h5 ?_
      by_cases k6 : v2 ≤ v4
      · rw [if_pos k6] at h
        refine q_icmp_le_t (pc := 22) (tgt := 31) dX12_nextOrder_22 (by decide) k6 ?_
        obtain rfl := Option.some.inj h
        exact hk (c2) rfl
      · rw [if_neg k6] at h
        refine q_icmp_le_f (pc := 22) (tgt := 31) dX12_nextOrder_22 (by decide) k6 ?_
        refine q_iincW (pc := 25) (w := (-1 : Int32)) (ls' := [some (.ref 25), some (.int x1), some (.int (c2 + (-1 : Int32))), none, none, none, none]) dX12_nextOrder_25 rfl (by decide) (by decide) rfl rfl ?_
        refine q_goto (pc := 28) (tgt := 4) dX12_nextOrder_28 (by decide) ?_
        exact l_X12_nextOrder_L4 x1 M J n (c2 + (-1 : Int32)) res h hk
def f_X12_nextOrder_L41 (x1 : Int32) (x2 : Int32) (M : qM) : Nat → Int32 → Option (Int32)
  | 0, _ => none
  | n + 1, c3 =>
  (qrd M 37 6 c3).bind fun v9 => (qrd M 37 6 x2).bind fun v11 => if v11 ≤ v9 then some (c3)
    else f_X12_nextOrder_L41 x1 x2 M n (c3 + (-1 : Int32))
set_option maxRecDepth 20000 in
set_option maxHeartbeats 4000000 in
theorem l_X12_nextOrder_L41 {G : qG} {ρ : qR} (x1 : Int32) (x2 : Int32) (M : qM) (J : qJ) : ∀ (n : Nat) (c3 : Int32) (res : Int32), f_X12_nextOrder_L41 x1 x2 M n c3 = some res → (∀ x : Int32, res = x → QW G (qrm 0 0 0) YX12_nextOrder 0 0 62 [some (.ref 25), some (.int x1), some (.int x2), some (.int x), none, none, none] [] SH M J ρ) → QW G (qrm 0 0 0) YX12_nextOrder 0 0 41 [some (.ref 25), some (.int x1), some (.int x2), some (.int c3), none, none, none] [] SH M J ρ
  | 0, _, _, h, _ => by simp [f_X12_nextOrder_L41] at h
  | n + 1, c3, res, h, hk => by
    rw [f_X12_nextOrder_L41] at h
    refine q_aload_n (pc := 41) dX12_nextOrder_41 rfl ?_
    refine q_getf (pc := 42) (f := 23) (v := .ref 37) dX12_nextOrder_42 sh_25 cl_11 inX12 rfl (by decide) lk_X12_48 rfl ?_
    refine q_iload_n (pc := 45) dX12_nextOrder_45 rfl ?_
    obtain ⟨v9, h10, h⟩ := Option.bind_eq_some_iff.mp h
    refine q_iald (pc := 46) dX12_nextOrder_46 sh_37 h10 ?_
    refine q_aload_n (pc := 47) dX12_nextOrder_47 rfl ?_
    refine q_getf (pc := 48) (f := 23) (v := .ref 37) dX12_nextOrder_48 sh_25 cl_11 inX12 rfl (by decide) lk_X12_48 rfl ?_
    refine q_iload_n (pc := 51) dX12_nextOrder_51 rfl ?_
    obtain ⟨v11, h12, h⟩ := Option.bind_eq_some_iff.mp h
    refine q_iald (pc := 52) dX12_nextOrder_52 sh_37 h12 ?_
    by_cases k13 : v11 ≤ v9
    · rw [if_pos k13] at h
      refine q_icmp_ge_t (pc := 53) (tgt := 62) dX12_nextOrder_53 (by decide) k13 ?_
      obtain rfl := Option.some.inj h
      exact hk (c3) rfl
    · rw [if_neg k13] at h
      refine q_icmp_ge_f (pc := 53) (tgt := 62) dX12_nextOrder_53 (by decide) k13 ?_
      refine q_iincW (pc := 56) (w := (-1 : Int32)) (ls' := [some (.ref 25), some (.int x1), some (.int x2), some (.int (c3 + (-1 : Int32))), none, none, none]) dX12_nextOrder_56 rfl (by decide) (by decide) rfl rfl ?_
      refine q_goto (pc := 59) (tgt := 41) dX12_nextOrder_59 (by decide) ?_
      exact l_X12_nextOrder_L41 x1 x2 M J n (c3 + (-1 : Int32)) res h hk
def f_X12_nextOrder_L100  : Nat → Int32 → Int32 → qM → Option (Int32 × Int32 × qM)
  | 0, _, _, _ => none
  | n + 1, c5, c6, M =>
  if c6 ≤ c5 then some (c5, c6, M)
    else (qrd M 37 6 c5).bind fun v24 => (qrd M 37 6 c6).bind fun v26 => (qwr M 37 6 c5 v26).bind fun M28 => (qwr M28 37 6 c6 v24).bind fun M30 => f_X12_nextOrder_L100  n (c5 + nI 1) (c6 + (-1 : Int32)) M30
set_option maxRecDepth 20000 in
set_option maxHeartbeats 4000000 in
theorem l_X12_nextOrder_L100 {G : qG} {ρ : qR}  (J : qJ) : ∀ (n : Nat) (c5 : Int32) (c6 : Int32) (M : qM) (res : Int32 × Int32 × qM), f_X12_nextOrder_L100  n c5 c6 M = some res → (∀ x : Int32 × Int32 × qM, res = x → QW G (qrm 0 0 0) YX12_nextOrder 0 0 148 [none, none, none, none, none, none, none] [] SH x.2.2 J ρ) → QW G (qrm 0 0 0) YX12_nextOrder 0 0 100 [some (.ref 25), none, none, none, none, some (.int c5), some (.int c6)] [] SH M J ρ
  | 0, _, _, _, _, h, _ => by simp [f_X12_nextOrder_L100] at h
  | n + 1, c5, c6, M, res, h, hk => by
    rw [f_X12_nextOrder_L100] at h
    refine q_iload (pc := 100) dX12_nextOrder_100 rfl ?_
    refine q_iload (pc := 102) dX12_nextOrder_102 rfl ?_
    by_cases k23 : c6 ≤ c5
    · rw [if_pos k23] at h
      refine q_icmp_ge_t (pc := 104) (tgt := 148) dX12_nextOrder_104 (by decide) k23 ?_
      refine q_weak (ls' := [none, none, none, none, none, none, none]) trivial ?_
      obtain rfl := Option.some.inj h
      exact hk (c5, c6, M) rfl
    · rw [if_neg k23] at h
      refine q_icmp_ge_f (pc := 104) (tgt := 148) dX12_nextOrder_104 (by decide) k23 ?_
      refine q_aload_n (pc := 107) dX12_nextOrder_107 rfl ?_
      refine q_getf (pc := 108) (f := 23) (v := .ref 37) dX12_nextOrder_108 sh_25 cl_11 inX12 rfl (by decide) lk_X12_48 rfl ?_
      refine q_iload (pc := 111) dX12_nextOrder_111 rfl ?_
      obtain ⟨v24, h25, h⟩ := Option.bind_eq_some_iff.mp h
      refine q_iald (pc := 113) dX12_nextOrder_113 sh_37 h25 ?_
      refine q_istore (pc := 114) (ls' := [some (.ref 25), none, none, none, some (.int v24), some (.int c5), some (.int c6)]) dX12_nextOrder_114 (by decide) rfl rfl ?_
      refine q_aload_n (pc := 116) dX12_nextOrder_116 rfl ?_
      refine q_getf (pc := 117) (f := 23) (v := .ref 37) dX12_nextOrder_117 sh_25 cl_11 inX12 rfl (by decide) lk_X12_48 rfl ?_
      refine q_iload (pc := 120) dX12_nextOrder_120 rfl ?_
      refine q_aload_n (pc := 122) dX12_nextOrder_122 rfl ?_
      refine q_getf (pc := 123) (f := 23) (v := .ref 37) dX12_nextOrder_123 sh_25 cl_11 inX12 rfl (by decide) lk_X12_48 rfl ?_
      refine q_iload (pc := 126) dX12_nextOrder_126 rfl ?_
      obtain ⟨v26, h27, h⟩ := Option.bind_eq_some_iff.mp h
      refine q_iald (pc := 128) dX12_nextOrder_128 sh_37 h27 ?_
      obtain ⟨M28, h29, h⟩ := Option.bind_eq_some_iff.mp h
      refine q_iast (pc := 129) dX12_nextOrder_129 sh_37 h29 ?_
      refine q_aload_n (pc := 130) dX12_nextOrder_130 rfl ?_
      refine q_getf (pc := 131) (f := 23) (v := .ref 37) dX12_nextOrder_131 sh_25 cl_11 inX12 rfl (by decide) lk_X12_48 rfl ?_
      refine q_iload (pc := 134) dX12_nextOrder_134 rfl ?_
      refine q_iload (pc := 136) dX12_nextOrder_136 rfl ?_
      obtain ⟨M30, h31, h⟩ := Option.bind_eq_some_iff.mp h
      refine q_iast (pc := 138) dX12_nextOrder_138 sh_37 h31 ?_
      refine q_iincW (pc := 139) (w := nI 1) (ls' := [some (.ref 25), none, none, none, some (.int v24), some (.int (c5 + nI 1)), some (.int c6)]) dX12_nextOrder_139 rfl (by decide) (by decide) rfl rfl ?_
      refine q_iincW (pc := 142) (w := (-1 : Int32)) (ls' := [some (.ref 25), none, none, none, some (.int v24), some (.int (c5 + nI 1)), some (.int (c6 + (-1 : Int32)))]) dX12_nextOrder_142 rfl (by decide) (by decide) rfl rfl ?_
      refine q_goto (pc := 145) (tgt := 100) dX12_nextOrder_145 (by decide) ?_
      refine q_weak (ls' := [some (.ref 25), none, none, none, none, some (.int (c5 + nI 1)), some (.int (c6 + (-1 : Int32)))]) ⟨rfl, ⟨rfl, ⟨rfl, trivial⟩⟩⟩ ?_
      exact l_X12_nextOrder_L100  J n (c5 + nI 1) (c6 + (-1 : Int32)) M30 res h hk
def f_X12_nextOrder (a1 : Int32) (M : qM) : Option (Bool × qM) :=
  (f_X12_nextOrder_L4 a1 M qF (a1 - (nI 2))).bind fun e7 => if 0 ≤ e7 then (f_X12_nextOrder_L41 a1 e7 M qF (a1 - (nI 1))).bind fun e14 => (qrd M 37 6 e7).bind fun v15 => (qrd M 37 6 e14).bind fun v17 => (qwr M 37 6 e7 v17).bind fun M19 => (qwr M19 37 6 e14 v15).bind fun M21 => (f_X12_nextOrder_L100  qF (e7 + (nI 1)) (a1 - (nI 1)) M21).bind fun e32 => some (true, e32.2.2)
    else some (false, M)
set_option maxRecDepth 20000 in
set_option maxHeartbeats 4000000 in
theorem a_X12_nextOrder {G : qG} {a1 : Int32} {M : qM} {J : qJ} {r : Bool} {M' : qM} (h : f_X12_nextOrder a1 M = some (r, M')) : QM G 0 0 0 YX12_nextOrder [.ref 25, .int a1] SH M J (some (.int (qb r)), SH, M', J) := by
  refine ⟨Nat.le_of_ble_eq_true rfl, Or.inr ⟨rfl, _, rfl⟩, ?_⟩
  show QW G (qrm 0 0 0) YX12_nextOrder 0 0 0 [some (.ref 25), some (.int a1), none, none, none, none, none] [] SH M J _
  unfold f_X12_nextOrder at h
  refine q_iload_n (pc := 0) dX12_nextOrder_0 rfl ?_
  refine q_iconst (pc := 1) (v := nI 2) dX12_nextOrder_1 (by decide) ?_
  refine q_isub (pc := 2) dX12_nextOrder_2 ?_
  refine q_istore_n (pc := 3) (ls' := [some (.ref 25), some (.int a1), some (.int (a1 - (nI 2))), none, none, none, none]) dX12_nextOrder_3 (by decide) rfl rfl ?_
  obtain ⟨e7_2, h36, h⟩ := Option.bind_eq_some_iff.mp h
  try dsimp only at h
  refine l_X12_nextOrder_L4 a1 M J qF (a1 - (nI 2)) _ h36 (fun x hx => ?_)
  subst hx
  show QW G (qrm 0 0 0) YX12_nextOrder 0 0 31 [some (.ref 25), some (.int a1), some (.int e7_2), none, none, none, none] [] SH M J _
  refine q_iload_n (pc := 31) dX12_nextOrder_31 rfl ?_
  by_cases k8 : 0 ≤ e7_2
  · rw [if_pos k8] at h
    refine q_if_ge_t (pc := 32) (tgt := 37) dX12_nextOrder_32 (by decide) k8 ?_
    refine q_iload_n (pc := 37) dX12_nextOrder_37 rfl ?_
    refine q_iconst (pc := 38) (v := nI 1) dX12_nextOrder_38 (by decide) ?_
    refine q_isub (pc := 39) dX12_nextOrder_39 ?_
    refine q_istore_n (pc := 40) (ls' := [some (.ref 25), some (.int a1), some (.int e7_2), some (.int (a1 - (nI 1))), none, none, none]) dX12_nextOrder_40 (by decide) rfl rfl ?_
    obtain ⟨e14_3, h35, h⟩ := Option.bind_eq_some_iff.mp h
    try dsimp only at h
    refine l_X12_nextOrder_L41 a1 e7_2 M J qF (a1 - (nI 1)) _ h35 (fun x hx => ?_)
    subst hx
    show QW G (qrm 0 0 0) YX12_nextOrder 0 0 62 [some (.ref 25), some (.int a1), some (.int e7_2), some (.int e14_3), none, none, none] [] SH M J _
    refine q_aload_n (pc := 62) dX12_nextOrder_62 rfl ?_
    refine q_getf (pc := 63) (f := 23) (v := .ref 37) dX12_nextOrder_63 sh_25 cl_11 inX12 rfl (by decide) lk_X12_48 rfl ?_
    refine q_iload_n (pc := 66) dX12_nextOrder_66 rfl ?_
    obtain ⟨v15, h16, h⟩ := Option.bind_eq_some_iff.mp h
    refine q_iald (pc := 67) dX12_nextOrder_67 sh_37 h16 ?_
    refine q_istore (pc := 68) (ls' := [some (.ref 25), some (.int a1), some (.int e7_2), some (.int e14_3), some (.int v15), none, none]) dX12_nextOrder_68 (by decide) rfl rfl ?_
    refine q_aload_n (pc := 70) dX12_nextOrder_70 rfl ?_
    refine q_getf (pc := 71) (f := 23) (v := .ref 37) dX12_nextOrder_71 sh_25 cl_11 inX12 rfl (by decide) lk_X12_48 rfl ?_
    refine q_iload_n (pc := 74) dX12_nextOrder_74 rfl ?_
    refine q_aload_n (pc := 75) dX12_nextOrder_75 rfl ?_
    refine q_getf (pc := 76) (f := 23) (v := .ref 37) dX12_nextOrder_76 sh_25 cl_11 inX12 rfl (by decide) lk_X12_48 rfl ?_
    refine q_iload_n (pc := 79) dX12_nextOrder_79 rfl ?_
    obtain ⟨v17, h18, h⟩ := Option.bind_eq_some_iff.mp h
    refine q_iald (pc := 80) dX12_nextOrder_80 sh_37 h18 ?_
    obtain ⟨M19, h20, h⟩ := Option.bind_eq_some_iff.mp h
    refine q_iast (pc := 81) dX12_nextOrder_81 sh_37 h20 ?_
    refine q_aload_n (pc := 82) dX12_nextOrder_82 rfl ?_
    refine q_getf (pc := 83) (f := 23) (v := .ref 37) dX12_nextOrder_83 sh_25 cl_11 inX12 rfl (by decide) lk_X12_48 rfl ?_
    refine q_iload_n (pc := 86) dX12_nextOrder_86 rfl ?_
    refine q_iload (pc := 87) dX12_nextOrder_87 rfl ?_
    obtain ⟨M21, h22, h⟩ := Option.bind_eq_some_iff.mp h
    refine q_iast (pc := 89) dX12_nextOrder_89 sh_37 h22 ?_
    refine q_iload_n (pc := 90) dX12_nextOrder_90 rfl ?_
    refine q_iconst (pc := 91) (v := nI 1) dX12_nextOrder_91 (by decide) ?_
    refine q_iadd (pc := 92) dX12_nextOrder_92 ?_
    refine q_istore (pc := 93) (ls' := [some (.ref 25), some (.int a1), some (.int e7_2), some (.int e14_3), some (.int v15), some (.int (e7_2 + (nI 1))), none]) dX12_nextOrder_93 (by decide) rfl rfl ?_
    refine q_iload_n (pc := 95) dX12_nextOrder_95 rfl ?_
    refine q_iconst (pc := 96) (v := nI 1) dX12_nextOrder_96 (by decide) ?_
    refine q_isub (pc := 97) dX12_nextOrder_97 ?_
    refine q_istore (pc := 98) (ls' := [some (.ref 25), some (.int a1), some (.int e7_2), some (.int e14_3), some (.int v15), some (.int (e7_2 + (nI 1))), some (.int (a1 - (nI 1)))]) dX12_nextOrder_98 (by decide) rfl rfl ?_
    refine q_weak (ls' := [some (.ref 25), none, none, none, none, some (.int (e7_2 + (nI 1))), some (.int (a1 - (nI 1)))]) ⟨rfl, ⟨rfl, ⟨rfl, trivial⟩⟩⟩ ?_
    obtain ⟨⟨e32_5, e32_6, M33⟩, h34, h⟩ := Option.bind_eq_some_iff.mp h
    try dsimp only at h
    refine l_X12_nextOrder_L100  J qF (e7_2 + (nI 1)) (a1 - (nI 1)) M21 _ h34 (fun x hx => ?_)
    subst hx
    show QW G (qrm 0 0 0) YX12_nextOrder 0 0 148 [none, none, none, none, none, none, none] [] SH M33 J _
    refine q_iconst (pc := 148) (v := nI 1) dX12_nextOrder_148 (by decide) ?_
    have h := Option.some.inj h
    obtain ⟨rfl, rfl⟩ := Prod.mk.inj h
    exact q_iret (pc := 149) dX12_nextOrder_149 rfl rfl rfl
  · rw [if_neg k8] at h
    refine q_if_ge_f (pc := 32) (tgt := 37) dX12_nextOrder_32 (by decide) k8 ?_
    refine q_iconst (pc := 35) (v := nI 0) dX12_nextOrder_35 (by decide) ?_
    have h := Option.some.inj h
    obtain ⟨rfl, rfl⟩ := Prod.mk.inj h
    exact q_iret (pc := 36) dX12_nextOrder_36 rfl rfl rfl
