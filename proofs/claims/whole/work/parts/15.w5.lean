def f_X12_in (a0 : Int64) (a1 : Int64) (a2 : Int64) (M : qM) : Option Bool :=
  if (lg_cmp a0 a1) < 0 then some (false)
    else if 0 < (lg_cmp a0 a2) then some (false)
    else some (true)
set_option maxRecDepth 20000 in
set_option maxHeartbeats 4000000 in
theorem a_X12_in {G : qG} {a0 : Int64} {a1 : Int64} {a2 : Int64} {M : qM} {J : qJ} {r : Bool} (h : f_X12_in a0 a1 a2 M = some (r)) : QM G 0 0 0 YX12_in [.long a0, .long a1, .long a2] SH M J (some (.int (qb r)), SH, M, J) := by
  refine ⟨Nat.le_of_ble_eq_true rfl, Or.inr ⟨rfl, _, rfl⟩, ?_⟩
  show QW G (qrm 0 0 0) YX12_in 0 0 0 [some (.long a0), none, some (.long a1), none, some (.long a2), none] [] SH M J _
  unfold f_X12_in at h
  refine q_lload_n (pc := 0) dX12_in_0 rfl ?_
  refine q_lload_n (pc := 1) dX12_in_1 rfl ?_
  refine q_lcmp (pc := 2) dX12_in_2 ?_
  by_cases k1 : (lg_cmp a0 a1) < 0
  · rw [if_pos k1] at h
    refine q_if_lt_t (pc := 3) (tgt := 17) dX12_in_3 (by decide) k1 ?_
    refine q_iconst (pc := 17) (v := nI 0) dX12_in_17 (by decide) ?_
    obtain rfl := Option.some.inj h
    exact q_iret (pc := 18) dX12_in_18 rfl rfl rfl
  · rw [if_neg k1] at h
    refine q_if_lt_f (pc := 3) (tgt := 17) dX12_in_3 (by decide) k1 ?_
    refine q_lload_n (pc := 6) dX12_in_6 rfl ?_
    refine q_lload (pc := 7) dX12_in_7 rfl ?_
    refine q_lcmp (pc := 9) dX12_in_9 ?_
    by_cases k2 : 0 < (lg_cmp a0 a2)
    · rw [if_pos k2] at h
      refine q_if_gt_t (pc := 10) (tgt := 17) dX12_in_10 (by decide) k2 ?_
      refine q_iconst (pc := 17) (v := nI 0) dX12_in_17 (by decide) ?_
      obtain rfl := Option.some.inj h
      exact q_iret (pc := 18) dX12_in_18 rfl rfl rfl
    · rw [if_neg k2] at h
      refine q_if_gt_f (pc := 10) (tgt := 17) dX12_in_10 (by decide) k2 ?_
      refine q_iconst (pc := 13) (v := nI 1) dX12_in_13 (by decide) ?_
      refine q_goto (pc := 14) (tgt := 18) dX12_in_14 (by decide) ?_
      obtain rfl := Option.some.inj h
      exact q_iret (pc := 18) dX12_in_18 rfl rfl rfl
def f_X12_feed (a1 : Int32) (M : qM) : Option (Int32 × qM) :=
  (f_X12_in a1.toInt64 (lN 0) (lN 255) M).bind fun b3 => if b3 = true then if (M 25 10) = (nI 240) then some ((-1000000004 : Int32), M)
    else (qwr M 33 240 (M 25 10) a1).bind fun M6 => (qpu M6 25 10 ((M6 25 10) + (nI 1))).bind fun M8 => some (M8 25 10, M8)
    else some ((-1000000002 : Int32), M)
set_option maxRecDepth 20000 in
set_option maxHeartbeats 4000000 in
theorem a_X12_feed {G : qG} {a1 : Int32} {M : qM} {J : qJ} {r : Int32} {M' : qM} (h : f_X12_feed a1 M = some (r, M')) : QM G 1 0 0 YX12_feed [.ref 25, .int a1] SH M J (some (.int r), SH, M', J) := by
  refine ⟨Nat.le_of_ble_eq_true rfl, Or.inl rfl, ?_⟩
  show QW G (qrm 1 0 0) YX12_feed 0 0 0 [some (.ref 25), some (.int a1)] [] SH M J _
  unfold f_X12_feed at h
  refine q_iload_n (pc := 0) dX12_feed_0 rfl ?_
  refine q_i2l (pc := 1) dX12_feed_1 ?_
  refine q_lconst (pc := 2) (v := lN 0) dX12_feed_2 rfl ?_
  refine q_ldc2 (pc := 3) (v := lN 255) dX12_feed_3 lk_X12_75 ?_
  obtain ⟨b3, h2, h⟩ := Option.bind_eq_some_iff.mp h
  refine q_calls (pc := 6) (st := []) (a_X12_in h2) okX12_in rfl dX12_feed_6 lk_X12_58 rfl (by decide) (by decide) (Nat.le_of_ble_eq_true rfl) ⟨Nat.le_of_ble_eq_true rfl, Nat.le_of_ble_eq_true rfl⟩ rfl ?_
  show QW G (qrm 1 0 0) YX12_feed 0 0 9 [some (.ref 25), some (.int a1)] [.int (qb b3)] SH M J _
  by_cases k4 : b3 = true
  · rw [if_pos k4] at h
    refine q_if_ne_t (pc := 9) (tgt := 15) dX12_feed_9 (by decide) (qb_t k4) ?_
    refine q_aload_n (pc := 15) dX12_feed_15 rfl ?_
    refine q_getf (pc := 16) (f := 10) (v := .int (M 25 10)) dX12_feed_16 sh_25 cl_11 inX12 rfl (by decide) lk_X12_78 rfl ?_
    refine q_sipush (pc := 19) (v := nI 240) dX12_feed_19 (by decide) ?_
    by_cases k5 : (M 25 10) = (nI 240)
    · rw [if_pos k5] at h
      refine q_icmp_ne_f (pc := 22) (tgt := 28) dX12_feed_22 (by decide) k5 ?_
      refine q_ldc (pc := 25) (v := (-1000000004 : Int32)) dX12_feed_25 lk_X12_81 ?_
      have h := Option.some.inj h
      obtain ⟨rfl, rfl⟩ := Prod.mk.inj h
      exact q_iret (pc := 27) dX12_feed_27 rfl rfl rfl
    · rw [if_neg k5] at h
      refine q_icmp_ne_t (pc := 22) (tgt := 28) dX12_feed_22 (by decide) k5 ?_
      refine q_aload_n (pc := 28) dX12_feed_28 rfl ?_
      refine q_getf (pc := 29) (f := 9) (v := .ref 33) dX12_feed_29 sh_25 cl_11 inX12 rfl (by decide) lk_X12_32 rfl ?_
      refine q_aload_n (pc := 32) dX12_feed_32 rfl ?_
      refine q_getf (pc := 33) (f := 10) (v := .int (M 25 10)) dX12_feed_33 sh_25 cl_11 inX12 rfl (by decide) lk_X12_78 rfl ?_
      refine q_iload_n (pc := 36) dX12_feed_36 rfl ?_
      obtain ⟨M6, h7, h⟩ := Option.bind_eq_some_iff.mp h
      refine q_iast (pc := 37) dX12_feed_37 sh_33 h7 ?_
      refine q_aload_n (pc := 38) dX12_feed_38 rfl ?_
      refine q_dup (pc := 39) dX12_feed_39 rfl ?_
      refine q_getf (pc := 40) (f := 10) (v := .int (M6 25 10)) dX12_feed_40 sh_25 cl_11 inX12 rfl (by decide) lk_X12_78 rfl ?_
      refine q_iconst (pc := 43) (v := nI 1) dX12_feed_43 (by decide) ?_
      refine q_iadd (pc := 44) dX12_feed_44 ?_
      obtain ⟨M8, h9, h⟩ := Option.bind_eq_some_iff.mp h
      refine q_putI (pc := 45) (f := 10) tyX12 dX12_feed_45 sh_25 cl_11 inX12 tyX12_ok nmX12 rfl (by decide) lk_X12_78 rfl rfl rfl h9 ?_
      refine q_aload_n (pc := 48) dX12_feed_48 rfl ?_
      refine q_getf (pc := 49) (f := 10) (v := .int (M8 25 10)) dX12_feed_49 sh_25 cl_11 inX12 rfl (by decide) lk_X12_78 rfl ?_
      have h := Option.some.inj h
      obtain ⟨rfl, rfl⟩ := Prod.mk.inj h
      exact q_iret (pc := 52) dX12_feed_52 rfl rfl rfl
  · rw [if_neg k4] at h
    refine q_if_ne_f (pc := 9) (tgt := 15) dX12_feed_9 (by decide) (qb_f k4) ?_
    refine q_ldc (pc := 12) (v := (-1000000002 : Int32)) dX12_feed_12 lk_X12_77 ?_
    have h := Option.some.inj h
    obtain ⟨rfl, rfl⟩ := Prod.mk.inj h
    exact q_iret (pc := 14) dX12_feed_14 rfl rfl rfl
def f_X12_here  (M : qM) : Option Int32 :=
  if (M 25 10) ≤ (M 25 16) then some ((-1 : Int32))
    else (qrd M 33 240 (M 25 16)).bind fun v2 => some (v2)
set_option maxRecDepth 20000 in
set_option maxHeartbeats 4000000 in
theorem a_X12_here {G : qG}  {M : qM} {J : qJ} {r : Int32} (h : f_X12_here  M = some (r)) : QM G 0 0 0 YX12_here [.ref 25] SH M J (some (.int r), SH, M, J) := by
  refine ⟨Nat.le_of_ble_eq_true rfl, Or.inl rfl, ?_⟩
  show QW G (qrm 0 0 0) YX12_here 0 0 0 [some (.ref 25)] [] SH M J _
  unfold f_X12_here at h
  refine q_aload_n (pc := 0) dX12_here_0 rfl ?_
  refine q_getf (pc := 1) (f := 16) (v := .int (M 25 16)) dX12_here_1 sh_25 cl_11 inX12 rfl (by decide) lk_X12_82 rfl ?_
  refine q_aload_n (pc := 4) dX12_here_4 rfl ?_
  refine q_getf (pc := 5) (f := 10) (v := .int (M 25 10)) dX12_here_5 sh_25 cl_11 inX12 rfl (by decide) lk_X12_78 rfl ?_
  by_cases k1 : (M 25 10) ≤ (M 25 16)
  · rw [if_pos k1] at h
    refine q_icmp_ge_t (pc := 8) (tgt := 23) dX12_here_8 (by decide) k1 ?_
    refine q_iconst (pc := 23) (v := (-1 : Int32)) dX12_here_23 (by decide) ?_
    obtain rfl := Option.some.inj h
    exact q_iret (pc := 24) dX12_here_24 rfl rfl rfl
  · rw [if_neg k1] at h
    refine q_icmp_ge_f (pc := 8) (tgt := 23) dX12_here_8 (by decide) k1 ?_
    refine q_aload_n (pc := 11) dX12_here_11 rfl ?_
    refine q_getf (pc := 12) (f := 9) (v := .ref 33) dX12_here_12 sh_25 cl_11 inX12 rfl (by decide) lk_X12_32 rfl ?_
    refine q_aload_n (pc := 15) dX12_here_15 rfl ?_
    refine q_getf (pc := 16) (f := 16) (v := .int (M 25 16)) dX12_here_16 sh_25 cl_11 inX12 rfl (by decide) lk_X12_82 rfl ?_
    obtain ⟨v2, h3, h⟩ := Option.bind_eq_some_iff.mp h
    refine q_iald (pc := 19) dX12_here_19 sh_33 h3 ?_
    refine q_goto (pc := 20) (tgt := 24) dX12_here_20 (by decide) ?_
    obtain rfl := Option.some.inj h
    exact q_iret (pc := 24) dX12_here_24 rfl rfl rfl
def f_X12_step_L0  : Nat → qM → Option (qM)
  | 0, _ => none
  | n + 1, M =>
  (f_X12_here M).bind fun r3 => if r3 = (nI 32) then (qpu M 25 16 ((M 25 16) + (nI 1))).bind fun M5 => f_X12_step_L0  n M5
    else some (M)
set_option maxRecDepth 20000 in
set_option maxHeartbeats 4000000 in
theorem l_X12_step_L0 {G : qG} {ρ : qR}  (J : qJ) : ∀ (n : Nat) (M : qM) (res : qM), f_X12_step_L0  n M = some res → (∀ x : qM, res = x → QW G (qrm 1 0 0) YX12_step 0 0 22 [some (.ref 25)] [] SH x J ρ) → QW G (qrm 1 0 0) YX12_step 0 0 0 [some (.ref 25)] [] SH M J ρ
  | 0, _, _, h, _ => by simp [f_X12_step_L0] at h
  | n + 1, M, res, h, hk => by
    rw [f_X12_step_L0] at h
    refine q_aload_n (pc := 0) dX12_step_0 rfl ?_
    obtain ⟨r3, h2, h⟩ := Option.bind_eq_some_iff.mp h
    refine q_callv (pc := 1) (st := []) (a_X12_here h2) okX12_here rfl dX12_step_1 lk_X12_85 sh_25 cl_11 rfl (by decide) (by decide) (Nat.le_of_ble_eq_true rfl) ⟨Nat.le_of_ble_eq_true rfl, Nat.le_of_ble_eq_true rfl⟩ rfl ?_
    show QW G (qrm 1 0 0) YX12_step 0 0 4 [some (.ref 25)] [.int r3] SH M J _
    refine q_bipush (pc := 4) (v := nI 32) dX12_step_4 (by decide) ?_
    by_cases k4 : r3 = (nI 32)
    · rw [if_pos k4] at h
      refine q_icmp_ne_f (pc := 6) (tgt := 22) dX12_step_6 (by decide) k4 ?_
      refine q_aload_n (pc := 9) dX12_step_9 rfl ?_
      refine q_dup (pc := 10) dX12_step_10 rfl ?_
      refine q_getf (pc := 11) (f := 16) (v := .int (M 25 16)) dX12_step_11 sh_25 cl_11 inX12 rfl (by decide) lk_X12_82 rfl ?_
      refine q_iconst (pc := 14) (v := nI 1) dX12_step_14 (by decide) ?_
      refine q_iadd (pc := 15) dX12_step_15 ?_
      obtain ⟨M5, h6, h⟩ := Option.bind_eq_some_iff.mp h
      refine q_putI (pc := 16) (f := 16) tyX12 dX12_step_16 sh_25 cl_11 inX12 tyX12_ok nmX12 rfl (by decide) lk_X12_82 rfl rfl rfl h6 ?_
      refine q_goto (pc := 19) (tgt := 0) dX12_step_19 (by decide) ?_
      exact l_X12_step_L0  J n M5 res h hk
    · rw [if_neg k4] at h
      refine q_icmp_ne_t (pc := 6) (tgt := 22) dX12_step_6 (by decide) k4 ?_
      obtain rfl := Option.some.inj h
      exact hk (M) rfl
def f_X12_step_L93  : Nat → qM → Option (qM)
  | 0, _ => none
  | n + 1, M =>
  (f_X12_here M).bind fun r28 => (f_X12_in r28.toInt64 (lN 48) (lN 57) M).bind fun b31 => if b31 = true then if (nI 3) ≤ (M 25 19) then (qpu M 25 20 (M 25 20)).bind fun M34 => (qpu M34 25 19 ((M34 25 19) + (nI 1))).bind fun M36 => (qpu M36 25 16 ((M36 25 16) + (nI 1))).bind fun M38 => f_X12_step_L93  n M38
    else (f_X12_here M).bind fun r42 => (qpu M 25 20 ((((nI 10) * (M 25 20)) + r42) - (nI 48))).bind fun M43 => (qpu M43 25 19 ((M43 25 19) + (nI 1))).bind fun M45 => (qpu M45 25 16 ((M45 25 16) + (nI 1))).bind fun M47 => f_X12_step_L93  n M47
    else some (M)
set_option maxRecDepth 20000 in
set_option maxHeartbeats 4000000 in
theorem l_X12_step_L93 {G : qG} {ρ : qR}  (J : qJ) : ∀ (n : Nat) (M : qM) (res : qM), f_X12_step_L93  n M = some res → (∀ x : qM, res = x → QW G (qrm 1 0 0) YX12_step 0 0 167 [none] [] SH x J ρ) → QW G (qrm 1 0 0) YX12_step 0 0 93 [some (.ref 25)] [] SH M J ρ
  | 0, _, _, h, _ => by simp [f_X12_step_L93] at h
  | n + 1, M, res, h, hk => by
    rw [f_X12_step_L93] at h
    refine q_aload_n (pc := 93) dX12_step_93 rfl ?_
    obtain ⟨r28, h27, h⟩ := Option.bind_eq_some_iff.mp h
    refine q_callv (pc := 94) (st := []) (a_X12_here h27) okX12_here rfl dX12_step_94 lk_X12_85 sh_25 cl_11 rfl (by decide) (by decide) (Nat.le_of_ble_eq_true rfl) ⟨Nat.le_of_ble_eq_true rfl, Nat.le_of_ble_eq_true rfl⟩ rfl ?_
    show QW G (qrm 1 0 0) YX12_step 0 0 97 [some (.ref 25)] [.int r28] SH M J _
    refine q_i2l (pc := 97) dX12_step_97 ?_
    refine q_ldc2 (pc := 98) (v := lN 48) dX12_step_98 lk_X12_101 ?_
    refine q_ldc2 (pc := 101) (v := lN 57) dX12_step_101 lk_X12_103 ?_
    obtain ⟨b31, h30, h⟩ := Option.bind_eq_some_iff.mp h
    refine q_calls (pc := 104) (st := []) (a_X12_in h30) okX12_in rfl dX12_step_104 lk_X12_58 rfl (by decide) (by decide) (Nat.le_of_ble_eq_true rfl) ⟨Nat.le_of_ble_eq_true rfl, Nat.le_of_ble_eq_true rfl⟩ rfl ?_
    show QW G (qrm 1 0 0) YX12_step 0 0 107 [some (.ref 25)] [.int (qb b31)] SH M J _
    by_cases k32 : b31 = true
    · rw [if_pos k32] at h
      refine q_if_eq_f (pc := 107) (tgt := 167) dX12_step_107 (by decide) (qb_t k32) ?_
      refine q_aload_n (pc := 110) dX12_step_110 rfl ?_
      refine q_aload_n (pc := 111) dX12_step_111 rfl ?_
      refine q_getf (pc := 112) (f := 19) (v := .int (M 25 19)) dX12_step_112 sh_25 cl_11 inX12 rfl (by decide) lk_X12_95 rfl ?_
      refine q_iconst (pc := 115) (v := nI 3) dX12_step_115 (by decide) ?_
      by_cases k33 : (nI 3) ≤ (M 25 19)
      · rw [if_pos k33] at h
        refine q_icmp_ge_t (pc := 116) (tgt := 137) dX12_step_116 (by decide) k33 ?_
        refine q_aload_n (pc := 137) dX12_step_137 rfl ?_
        refine q_getf (pc := 138) (f := 20) (v := .int (M 25 20)) dX12_step_138 sh_25 cl_11 inX12 rfl (by decide) lk_X12_98 rfl ?_
        obtain ⟨M34, h35, h⟩ := Option.bind_eq_some_iff.mp h
        refine q_putI (pc := 141) (f := 20) tyX12 dX12_step_141 sh_25 cl_11 inX12 tyX12_ok nmX12 rfl (by decide) lk_X12_98 rfl rfl rfl h35 ?_
        refine q_aload_n (pc := 144) dX12_step_144 rfl ?_
        refine q_dup (pc := 145) dX12_step_145 rfl ?_
        refine q_getf (pc := 146) (f := 19) (v := .int (M34 25 19)) dX12_step_146 sh_25 cl_11 inX12 rfl (by decide) lk_X12_95 rfl ?_
        refine q_iconst (pc := 149) (v := nI 1) dX12_step_149 (by decide) ?_
        refine q_iadd (pc := 150) dX12_step_150 ?_
        obtain ⟨M36, h37, h⟩ := Option.bind_eq_some_iff.mp h
        refine q_putI (pc := 151) (f := 19) tyX12 dX12_step_151 sh_25 cl_11 inX12 tyX12_ok nmX12 rfl (by decide) lk_X12_95 rfl rfl rfl h37 ?_
        refine q_aload_n (pc := 154) dX12_step_154 rfl ?_
        refine q_dup (pc := 155) dX12_step_155 rfl ?_
        refine q_getf (pc := 156) (f := 16) (v := .int (M36 25 16)) dX12_step_156 sh_25 cl_11 inX12 rfl (by decide) lk_X12_82 rfl ?_
        refine q_iconst (pc := 159) (v := nI 1) dX12_step_159 (by decide) ?_
        refine q_iadd (pc := 160) dX12_step_160 ?_
        obtain ⟨M38, h39, h⟩ := Option.bind_eq_some_iff.mp h
        refine q_putI (pc := 161) (f := 16) tyX12 dX12_step_161 sh_25 cl_11 inX12 tyX12_ok nmX12 rfl (by decide) lk_X12_82 rfl rfl rfl h39 ?_
        refine q_goto (pc := 164) (tgt := 93) dX12_step_164 (by decide) ?_
        exact l_X12_step_L93  J n M38 res h hk
      · rw [if_neg k33] at h
        refine q_icmp_ge_f (pc := 116) (tgt := 137) dX12_step_116 (by decide) k33 ?_
        refine q_bipush (pc := 119) (v := nI 10) dX12_step_119 (by decide) ?_
        refine q_aload_n (pc := 121) dX12_step_121 rfl ?_
        refine q_getf (pc := 122) (f := 20) (v := .int (M 25 20)) dX12_step_122 sh_25 cl_11 inX12 rfl (by decide) lk_X12_98 rfl ?_
        refine q_imul (pc := 125) dX12_step_125 ?_
        refine q_aload_n (pc := 126) dX12_step_126 rfl ?_
        obtain ⟨r42, h41, h⟩ := Option.bind_eq_some_iff.mp h
        refine q_callv (pc := 127) (st := [.int ((nI 10) * (M 25 20)), .ref 25]) (a_X12_here h41) okX12_here rfl dX12_step_127 lk_X12_85 sh_25 cl_11 rfl (by decide) (by decide) (Nat.le_of_ble_eq_true rfl) ⟨Nat.le_of_ble_eq_true rfl, Nat.le_of_ble_eq_true rfl⟩ rfl ?_
        show QW G (qrm 1 0 0) YX12_step 0 0 130 [some (.ref 25)] [.int r42, .int ((nI 10) * (M 25 20)), .ref 25] SH M J _
        refine q_iadd (pc := 130) dX12_step_130 ?_
        refine q_bipush (pc := 131) (v := nI 48) dX12_step_131 (by decide) ?_
        refine q_isub (pc := 133) dX12_step_133 ?_
        refine q_goto (pc := 134) (tgt := 141) dX12_step_134 (by decide) ?_
        obtain ⟨M43, h44, h⟩ := Option.bind_eq_some_iff.mp h
        refine q_putI (pc := 141) (f := 20) tyX12 dX12_step_141 sh_25 cl_11 inX12 tyX12_ok nmX12 rfl (by decide) lk_X12_98 rfl rfl rfl h44 ?_
        refine q_aload_n (pc := 144) dX12_step_144 rfl ?_
        refine q_dup (pc := 145) dX12_step_145 rfl ?_
        refine q_getf (pc := 146) (f := 19) (v := .int (M43 25 19)) dX12_step_146 sh_25 cl_11 inX12 rfl (by decide) lk_X12_95 rfl ?_
        refine q_iconst (pc := 149) (v := nI 1) dX12_step_149 (by decide) ?_
        refine q_iadd (pc := 150) dX12_step_150 ?_
        obtain ⟨M45, h46, h⟩ := Option.bind_eq_some_iff.mp h
        refine q_putI (pc := 151) (f := 19) tyX12 dX12_step_151 sh_25 cl_11 inX12 tyX12_ok nmX12 rfl (by decide) lk_X12_95 rfl rfl rfl h46 ?_
        refine q_aload_n (pc := 154) dX12_step_154 rfl ?_
        refine q_dup (pc := 155) dX12_step_155 rfl ?_
        refine q_getf (pc := 156) (f := 16) (v := .int (M45 25 16)) dX12_step_156 sh_25 cl_11 inX12 rfl (by decide) lk_X12_82 rfl ?_
        refine q_iconst (pc := 159) (v := nI 1) dX12_step_159 (by decide) ?_
        refine q_iadd (pc := 160) dX12_step_160 ?_
        obtain ⟨M47, h48, h⟩ := Option.bind_eq_some_iff.mp h
        refine q_putI (pc := 161) (f := 16) tyX12 dX12_step_161 sh_25 cl_11 inX12 tyX12_ok nmX12 rfl (by decide) lk_X12_82 rfl rfl rfl h48 ?_
        refine q_goto (pc := 164) (tgt := 93) dX12_step_164 (by decide) ?_
        exact l_X12_step_L93  J n M47 res h hk
    · rw [if_neg k32] at h
      refine q_if_eq_t (pc := 107) (tgt := 167) dX12_step_107 (by decide) (qb_f k32) ?_
      refine q_weak (ls' := [none]) trivial ?_
      obtain rfl := Option.some.inj h
      exact hk (M) rfl
def f_X12_step  (M : qM) : Option qM :=
  (f_X12_step_L0  qF M).bind fun e7 => (qpu e7 25 17 (e7 25 16)).bind fun M9 => (f_X12_here M9).bind fun r13 => (qpu M9 25 18 r13).bind fun M14 => (qpu M14 25 19 (nI 0)).bind fun M16 => (qpu M16 25 20 (nI 0)).bind fun M18 => (f_X12_in ((M18 25 18).toInt64) (lN 48) (lN 57) M18).bind fun b22 => if b22 = true then (qpu M18 25 18 (nI 48)).bind fun M24 => (f_X12_step_L93  qF M24).bind fun e49 => some (e49)
    else if 0 ≤ (M18 25 18) then (qpu M18 25 16 ((M18 25 16) + (nI 1))).bind fun M53 => some (M53)
    else (qpu M18 25 16 ((M18 25 16) + (nI 0))).bind fun M55 => some (M55)
set_option maxRecDepth 20000 in
set_option maxHeartbeats 4000000 in
theorem a_X12_step {G : qG}  {M : qM} {J : qJ} {M' : qM} (h : f_X12_step  M = some (M')) : QM G 1 0 0 YX12_step [.ref 25] SH M J (none, SH, M', J) := by
  refine ⟨Nat.le_of_ble_eq_true rfl, rfl, ?_⟩
  show QW G (qrm 1 0 0) YX12_step 0 0 0 [some (.ref 25)] [] SH M J _
  unfold f_X12_step at h
  obtain ⟨M8, h57, h⟩ := Option.bind_eq_some_iff.mp h
  try dsimp only at h
  refine l_X12_step_L0  J qF M _ h57 (fun x hx => ?_)
  subst hx
  show QW G (qrm 1 0 0) YX12_step 0 0 22 [some (.ref 25)] [] SH M8 J _
  refine q_aload_n (pc := 22) dX12_step_22 rfl ?_
  refine q_aload_n (pc := 23) dX12_step_23 rfl ?_
  refine q_getf (pc := 24) (f := 16) (v := .int (M8 25 16)) dX12_step_24 sh_25 cl_11 inX12 rfl (by decide) lk_X12_82 rfl ?_
  obtain ⟨M9, h10, h⟩ := Option.bind_eq_some_iff.mp h
  refine q_putI (pc := 27) (f := 17) tyX12 dX12_step_27 sh_25 cl_11 inX12 tyX12_ok nmX12 rfl (by decide) lk_X12_89 rfl rfl rfl h10 ?_
  refine q_aload_n (pc := 30) dX12_step_30 rfl ?_
  refine q_aload_n (pc := 31) dX12_step_31 rfl ?_
  obtain ⟨r13, h12, h⟩ := Option.bind_eq_some_iff.mp h
  refine q_callv (pc := 32) (st := [.ref 25]) (a_X12_here h12) okX12_here rfl dX12_step_32 lk_X12_85 sh_25 cl_11 rfl (by decide) (by decide) (Nat.le_of_ble_eq_true rfl) ⟨Nat.le_of_ble_eq_true rfl, Nat.le_of_ble_eq_true rfl⟩ rfl ?_
  show QW G (qrm 1 0 0) YX12_step 0 0 35 [some (.ref 25)] [.int r13, .ref 25] SH M9 J _
  obtain ⟨M14, h15, h⟩ := Option.bind_eq_some_iff.mp h
  refine q_putI (pc := 35) (f := 18) tyX12 dX12_step_35 sh_25 cl_11 inX12 tyX12_ok nmX12 rfl (by decide) lk_X12_92 rfl rfl rfl h15 ?_
  refine q_aload_n (pc := 38) dX12_step_38 rfl ?_
  refine q_iconst (pc := 39) (v := nI 0) dX12_step_39 (by decide) ?_
  obtain ⟨M16, h17, h⟩ := Option.bind_eq_some_iff.mp h
  refine q_putI (pc := 40) (f := 19) tyX12 dX12_step_40 sh_25 cl_11 inX12 tyX12_ok nmX12 rfl (by decide) lk_X12_95 rfl rfl rfl h17 ?_
  refine q_aload_n (pc := 43) dX12_step_43 rfl ?_
  refine q_iconst (pc := 44) (v := nI 0) dX12_step_44 (by decide) ?_
  obtain ⟨M18, h19, h⟩ := Option.bind_eq_some_iff.mp h
  refine q_putI (pc := 45) (f := 20) tyX12 dX12_step_45 sh_25 cl_11 inX12 tyX12_ok nmX12 rfl (by decide) lk_X12_98 rfl rfl rfl h19 ?_
  refine q_aload_n (pc := 48) dX12_step_48 rfl ?_
  refine q_getf (pc := 49) (f := 18) (v := .int (M18 25 18)) dX12_step_49 sh_25 cl_11 inX12 rfl (by decide) lk_X12_92 rfl ?_
  refine q_i2l (pc := 52) dX12_step_52 ?_
  refine q_ldc2 (pc := 53) (v := lN 48) dX12_step_53 lk_X12_101 ?_
  refine q_ldc2 (pc := 56) (v := lN 57) dX12_step_56 lk_X12_103 ?_
  obtain ⟨b22, h21, h⟩ := Option.bind_eq_some_iff.mp h
  refine q_calls (pc := 59) (st := []) (a_X12_in h21) okX12_in rfl dX12_step_59 lk_X12_58 rfl (by decide) (by decide) (Nat.le_of_ble_eq_true rfl) ⟨Nat.le_of_ble_eq_true rfl, Nat.le_of_ble_eq_true rfl⟩ rfl ?_
  show QW G (qrm 1 0 0) YX12_step 0 0 62 [some (.ref 25)] [.int (qb b22)] SH M18 J _
  by_cases k23 : b22 = true
  · rw [if_pos k23] at h
    refine q_if_ne_t (pc := 62) (tgt := 87) dX12_step_62 (by decide) (qb_t k23) ?_
    refine q_aload_n (pc := 87) dX12_step_87 rfl ?_
    refine q_bipush (pc := 88) (v := nI 48) dX12_step_88 (by decide) ?_
    obtain ⟨M24, h25, h⟩ := Option.bind_eq_some_iff.mp h
    refine q_putI (pc := 90) (f := 18) tyX12 dX12_step_90 sh_25 cl_11 inX12 tyX12_ok nmX12 rfl (by decide) lk_X12_92 rfl rfl rfl h25 ?_
    obtain ⟨M50, h51, h⟩ := Option.bind_eq_some_iff.mp h
    try dsimp only at h
    refine l_X12_step_L93  J qF M24 _ h51 (fun x hx => ?_)
    subst hx
    show QW G (qrm 1 0 0) YX12_step 0 0 167 [none] [] SH M50 J _
    obtain rfl := Option.some.inj h
    exact q_vret (pc := 167) dX12_step_167 rfl rfl rfl
  · rw [if_neg k23] at h
    refine q_if_ne_f (pc := 62) (tgt := 87) dX12_step_62 (by decide) (qb_f k23) ?_
    refine q_aload_n (pc := 65) dX12_step_65 rfl ?_
    refine q_dup (pc := 66) dX12_step_66 rfl ?_
    refine q_getf (pc := 67) (f := 16) (v := .int (M18 25 16)) dX12_step_67 sh_25 cl_11 inX12 rfl (by decide) lk_X12_82 rfl ?_
    refine q_aload_n (pc := 70) dX12_step_70 rfl ?_
    refine q_getf (pc := 71) (f := 18) (v := .int (M18 25 18)) dX12_step_71 sh_25 cl_11 inX12 rfl (by decide) lk_X12_92 rfl ?_
    by_cases k52 : 0 ≤ (M18 25 18)
    · rw [if_pos k52] at h
      refine q_if_ge_t (pc := 74) (tgt := 81) dX12_step_74 (by decide) k52 ?_
      refine q_iconst (pc := 81) (v := nI 1) dX12_step_81 (by decide) ?_
      refine q_iadd (pc := 82) dX12_step_82 ?_
      obtain ⟨M53, h54, h⟩ := Option.bind_eq_some_iff.mp h
      refine q_putI (pc := 83) (f := 16) tyX12 dX12_step_83 sh_25 cl_11 inX12 tyX12_ok nmX12 rfl (by decide) lk_X12_82 rfl rfl rfl h54 ?_
      obtain rfl := Option.some.inj h
      exact q_vret (pc := 86) dX12_step_86 rfl rfl rfl
    · rw [if_neg k52] at h
      refine q_if_ge_f (pc := 74) (tgt := 81) dX12_step_74 (by decide) k52 ?_
      refine q_iconst (pc := 77) (v := nI 0) dX12_step_77 (by decide) ?_
      refine q_goto (pc := 78) (tgt := 82) dX12_step_78 (by decide) ?_
      refine q_iadd (pc := 82) dX12_step_82 ?_
      obtain ⟨M55, h56, h⟩ := Option.bind_eq_some_iff.mp h
      refine q_putI (pc := 83) (f := 16) tyX12 dX12_step_83 sh_25 cl_11 inX12 tyX12_ok nmX12 rfl (by decide) lk_X12_82 rfl rfl rfl h56 ?_
      obtain rfl := Option.some.inj h
      exact q_vret (pc := 86) dX12_step_86 rfl rfl rfl
def f_X12_fails (a1 : Int32) (M : qM) : Option (Bool × qM) :=
  (qpu M 25 21 a1).bind fun M1 => some (false, M1)
set_option maxRecDepth 20000 in
set_option maxHeartbeats 4000000 in
theorem a_X12_fails {G : qG} {a1 : Int32} {M : qM} {J : qJ} {r : Bool} {M' : qM} (h : f_X12_fails a1 M = some (r, M')) : QM G 0 0 0 YX12_fails [.ref 25, .int a1] SH M J (some (.int (qb r)), SH, M', J) := by
  refine ⟨Nat.le_of_ble_eq_true rfl, Or.inr ⟨rfl, _, rfl⟩, ?_⟩
  show QW G (qrm 0 0 0) YX12_fails 0 0 0 [some (.ref 25), some (.int a1)] [] SH M J _
  unfold f_X12_fails at h
  refine q_aload_n (pc := 0) dX12_fails_0 rfl ?_
  refine q_iload_n (pc := 1) dX12_fails_1 rfl ?_
  obtain ⟨M1, h2, h⟩ := Option.bind_eq_some_iff.mp h
  refine q_putI (pc := 2) (f := 21) tyX12 dX12_fails_2 sh_25 cl_11 inX12 tyX12_ok nmX12 rfl (by decide) lk_X12_105 rfl rfl rfl h2 ?_
  refine q_iconst (pc := 5) (v := nI 0) dX12_fails_5 (by decide) ?_
  have h := Option.some.inj h
  obtain ⟨rfl, rfl⟩ := Prod.mk.inj h
  exact q_iret (pc := 6) dX12_fails_6 rfl rfl rfl
def f_X12_number (a1 : Int32) (a2 : Int32) (a3 : Int32) (M : qM) : Option (Bool × qM) :=
  (f_X12_step M).bind fun M3 => if (M3 25 18) = (nI 48) then if (nI 3) < (M3 25 19) then (f_X12_fails (nI 2) M3).bind fun p6 => some (p6.1, p6.2)
    else (f_X12_in ((M3 25 20).toInt64) a2.toInt64 a3.toInt64 M3).bind fun b12 => if b12 = true then (qwr M3 27 57 a1 (M3 25 20)).bind fun M14 => some (true, M14)
    else (f_X12_fails (nI 2) M3).bind fun p16 => some (p16.1, p16.2)
    else (f_X12_fails (nI 1) M3).bind fun p20 => some (p20.1, p20.2)
set_option maxRecDepth 20000 in
set_option maxHeartbeats 4000000 in
theorem a_X12_number {G : qG} {a1 : Int32} {a2 : Int32} {a3 : Int32} {M : qM} {J : qJ} {r : Bool} {M' : qM} (h : f_X12_number a1 a2 a3 M = some (r, M')) : QM G 2 0 0 YX12_number [.ref 25, .int a1, .int a2, .int a3] SH M J (some (.int (qb r)), SH, M', J) := by
  refine ⟨Nat.le_of_ble_eq_true rfl, Or.inr ⟨rfl, _, rfl⟩, ?_⟩
  show QW G (qrm 2 0 0) YX12_number 0 0 0 [some (.ref 25), some (.int a1), some (.int a2), some (.int a3)] [] SH M J _
  unfold f_X12_number at h
  refine q_aload_n (pc := 0) dX12_number_0 rfl ?_
  obtain ⟨M3, h2, h⟩ := Option.bind_eq_some_iff.mp h
  refine q_callv (pc := 1) (st := []) (a_X12_step h2) okX12_step rfl dX12_number_1 lk_X12_108 sh_25 cl_11 rfl (by decide) (by decide) (Nat.le_of_ble_eq_true rfl) ⟨Nat.le_of_ble_eq_true rfl, Nat.le_of_ble_eq_true rfl⟩ rfl ?_
  show QW G (qrm 2 0 0) YX12_number 0 0 4 [some (.ref 25), some (.int a1), some (.int a2), some (.int a3)] [] SH M3 J _
  refine q_aload_n (pc := 4) dX12_number_4 rfl ?_
  refine q_getf (pc := 5) (f := 18) (v := .int (M3 25 18)) dX12_number_5 sh_25 cl_11 inX12 rfl (by decide) lk_X12_92 rfl ?_
  refine q_bipush (pc := 8) (v := nI 48) dX12_number_8 (by decide) ?_
  by_cases k4 : (M3 25 18) = (nI 48)
  · rw [if_pos k4] at h
    refine q_icmp_eq_t (pc := 10) (tgt := 19) dX12_number_10 (by decide) k4 ?_
    refine q_aload_n (pc := 19) dX12_number_19 rfl ?_
    refine q_getf (pc := 20) (f := 19) (v := .int (M3 25 19)) dX12_number_20 sh_25 cl_11 inX12 rfl (by decide) lk_X12_95 rfl ?_
    refine q_iconst (pc := 23) (v := nI 3) dX12_number_23 (by decide) ?_
    by_cases k5 : (nI 3) < (M3 25 19)
    · rw [if_pos k5] at h
      refine q_icmp_gt_t (pc := 24) (tgt := 42) dX12_number_24 (by decide) k5 ?_
      refine q_aload_n (pc := 42) dX12_number_42 rfl ?_
      refine q_iconst (pc := 43) (v := nI 2) dX12_number_43 (by decide) ?_
      obtain ⟨⟨b8, M9⟩, h7, h⟩ := Option.bind_eq_some_iff.mp h
      try dsimp only at h
      refine q_callv (pc := 44) (st := []) (a_X12_fails h7) okX12_fails rfl dX12_number_44 lk_X12_111 sh_25 cl_11 rfl (by decide) (by decide) (Nat.le_of_ble_eq_true rfl) ⟨Nat.le_of_ble_eq_true rfl, Nat.le_of_ble_eq_true rfl⟩ rfl ?_
      show QW G (qrm 2 0 0) YX12_number 0 0 47 [some (.ref 25), some (.int a1), some (.int a2), some (.int a3)] [.int (qb b8)] SH M9 J _
      have h := Option.some.inj h
      obtain ⟨rfl, rfl⟩ := Prod.mk.inj h
      exact q_iret (pc := 47) dX12_number_47 rfl rfl rfl
    · rw [if_neg k5] at h
      refine q_icmp_gt_f (pc := 24) (tgt := 42) dX12_number_24 (by decide) k5 ?_
      refine q_aload_n (pc := 27) dX12_number_27 rfl ?_
      refine q_getf (pc := 28) (f := 20) (v := .int (M3 25 20)) dX12_number_28 sh_25 cl_11 inX12 rfl (by decide) lk_X12_98 rfl ?_
      refine q_i2l (pc := 31) dX12_number_31 ?_
      refine q_iload_n (pc := 32) dX12_number_32 rfl ?_
      refine q_i2l (pc := 33) dX12_number_33 ?_
      refine q_iload_n (pc := 34) dX12_number_34 rfl ?_
      refine q_i2l (pc := 35) dX12_number_35 ?_
      obtain ⟨b12, h11, h⟩ := Option.bind_eq_some_iff.mp h
      refine q_calls (pc := 36) (st := []) (a_X12_in h11) okX12_in rfl dX12_number_36 lk_X12_58 rfl (by decide) (by decide) (Nat.le_of_ble_eq_true rfl) ⟨Nat.le_of_ble_eq_true rfl, Nat.le_of_ble_eq_true rfl⟩ rfl ?_
      show QW G (qrm 2 0 0) YX12_number 0 0 39 [some (.ref 25), some (.int a1), some (.int a2), some (.int a3)] [.int (qb b12)] SH M3 J _
      by_cases k13 : b12 = true
      · rw [if_pos k13] at h
        refine q_if_ne_t (pc := 39) (tgt := 48) dX12_number_39 (by decide) (qb_t k13) ?_
        refine q_aload_n (pc := 48) dX12_number_48 rfl ?_
        refine q_getf (pc := 49) (f := 1) (v := .ref 27) dX12_number_49 sh_25 cl_11 inX12 rfl (by decide) lk_X12_13 rfl ?_
        refine q_iload_n (pc := 52) dX12_number_52 rfl ?_
        refine q_aload_n (pc := 53) dX12_number_53 rfl ?_
        refine q_getf (pc := 54) (f := 20) (v := .int (M3 25 20)) dX12_number_54 sh_25 cl_11 inX12 rfl (by decide) lk_X12_98 rfl ?_
        obtain ⟨M14, h15, h⟩ := Option.bind_eq_some_iff.mp h
        refine q_iast (pc := 57) dX12_number_57 sh_27 h15 ?_
        refine q_iconst (pc := 58) (v := nI 1) dX12_number_58 (by decide) ?_
        have h := Option.some.inj h
        obtain ⟨rfl, rfl⟩ := Prod.mk.inj h
        exact q_iret (pc := 59) dX12_number_59 rfl rfl rfl
      · rw [if_neg k13] at h
        refine q_if_ne_f (pc := 39) (tgt := 48) dX12_number_39 (by decide) (qb_f k13) ?_
        refine q_aload_n (pc := 42) dX12_number_42 rfl ?_
        refine q_iconst (pc := 43) (v := nI 2) dX12_number_43 (by decide) ?_
        obtain ⟨⟨b18, M19⟩, h17, h⟩ := Option.bind_eq_some_iff.mp h
        try dsimp only at h
        refine q_callv (pc := 44) (st := []) (a_X12_fails h17) okX12_fails rfl dX12_number_44 lk_X12_111 sh_25 cl_11 rfl (by decide) (by decide) (Nat.le_of_ble_eq_true rfl) ⟨Nat.le_of_ble_eq_true rfl, Nat.le_of_ble_eq_true rfl⟩ rfl ?_
        show QW G (qrm 2 0 0) YX12_number 0 0 47 [some (.ref 25), some (.int a1), some (.int a2), some (.int a3)] [.int (qb b18)] SH M19 J _
        have h := Option.some.inj h
        obtain ⟨rfl, rfl⟩ := Prod.mk.inj h
        exact q_iret (pc := 47) dX12_number_47 rfl rfl rfl
  · rw [if_neg k4] at h
    refine q_icmp_eq_f (pc := 10) (tgt := 19) dX12_number_10 (by decide) k4 ?_
    refine q_aload_n (pc := 13) dX12_number_13 rfl ?_
    refine q_iconst (pc := 14) (v := nI 1) dX12_number_14 (by decide) ?_
    obtain ⟨⟨b22, M23⟩, h21, h⟩ := Option.bind_eq_some_iff.mp h
    try dsimp only at h
    refine q_callv (pc := 15) (st := []) (a_X12_fails h21) okX12_fails rfl dX12_number_15 lk_X12_111 sh_25 cl_11 rfl (by decide) (by decide) (Nat.le_of_ble_eq_true rfl) ⟨Nat.le_of_ble_eq_true rfl, Nat.le_of_ble_eq_true rfl⟩ rfl ?_
    show QW G (qrm 2 0 0) YX12_number 0 0 18 [some (.ref 25), some (.int a1), some (.int a2), some (.int a3)] [.int (qb b22)] SH M23 J _
    have h := Option.some.inj h
    obtain ⟨rfl, rfl⟩ := Prod.mk.inj h
    exact q_iret (pc := 18) dX12_number_18 rfl rfl rfl
def f_X12_ends  (M : qM) : Option (Bool × qM) :=
  (f_X12_step M).bind fun M3 => if (M3 25 18) = (nI 59) then some (true, M3)
    else (f_X12_fails (nI 1) M3).bind fun p5 => if p5.1 = true then some (true, p5.2)
    else some (false, p5.2)
set_option maxRecDepth 20000 in
set_option maxHeartbeats 4000000 in
theorem a_X12_ends {G : qG}  {M : qM} {J : qJ} {r : Bool} {M' : qM} (h : f_X12_ends  M = some (r, M')) : QM G 2 0 0 YX12_ends [.ref 25] SH M J (some (.int (qb r)), SH, M', J) := by
  refine ⟨Nat.le_of_ble_eq_true rfl, Or.inr ⟨rfl, _, rfl⟩, ?_⟩
  show QW G (qrm 2 0 0) YX12_ends 0 0 0 [some (.ref 25)] [] SH M J _
  unfold f_X12_ends at h
  refine q_aload_n (pc := 0) dX12_ends_0 rfl ?_
  obtain ⟨M3, h2, h⟩ := Option.bind_eq_some_iff.mp h
  refine q_callv (pc := 1) (st := []) (a_X12_step h2) okX12_step rfl dX12_ends_1 lk_X12_108 sh_25 cl_11 rfl (by decide) (by decide) (Nat.le_of_ble_eq_true rfl) ⟨Nat.le_of_ble_eq_true rfl, Nat.le_of_ble_eq_true rfl⟩ rfl ?_
  show QW G (qrm 2 0 0) YX12_ends 0 0 4 [some (.ref 25)] [] SH M3 J _
  refine q_aload_n (pc := 4) dX12_ends_4 rfl ?_
  refine q_getf (pc := 5) (f := 18) (v := .int (M3 25 18)) dX12_ends_5 sh_25 cl_11 inX12 rfl (by decide) lk_X12_92 rfl ?_
  refine q_bipush (pc := 8) (v := nI 59) dX12_ends_8 (by decide) ?_
  by_cases k4 : (M3 25 18) = (nI 59)
  · rw [if_pos k4] at h
    refine q_icmp_eq_t (pc := 10) (tgt := 21) dX12_ends_10 (by decide) k4 ?_
    refine q_iconst (pc := 21) (v := nI 1) dX12_ends_21 (by decide) ?_
    refine q_goto (pc := 22) (tgt := 26) dX12_ends_22 (by decide) ?_
    have h := Option.some.inj h
    obtain ⟨rfl, rfl⟩ := Prod.mk.inj h
    exact q_iret (pc := 26) dX12_ends_26 rfl rfl rfl
  · rw [if_neg k4] at h
    refine q_icmp_eq_f (pc := 10) (tgt := 21) dX12_ends_10 (by decide) k4 ?_
    refine q_aload_n (pc := 13) dX12_ends_13 rfl ?_
    refine q_iconst (pc := 14) (v := nI 1) dX12_ends_14 (by decide) ?_
    obtain ⟨⟨b7, M8⟩, h6, h⟩ := Option.bind_eq_some_iff.mp h
    try dsimp only at h
    refine q_callv (pc := 15) (st := []) (a_X12_fails h6) okX12_fails rfl dX12_ends_15 lk_X12_111 sh_25 cl_11 rfl (by decide) (by decide) (Nat.le_of_ble_eq_true rfl) ⟨Nat.le_of_ble_eq_true rfl, Nat.le_of_ble_eq_true rfl⟩ rfl ?_
    show QW G (qrm 2 0 0) YX12_ends 0 0 18 [some (.ref 25)] [.int (qb b7)] SH M8 J _
    by_cases k9 : b7 = true
    · rw [if_pos k9] at h
      refine q_if_eq_f (pc := 18) (tgt := 25) dX12_ends_18 (by decide) (qb_t k9) ?_
      refine q_iconst (pc := 21) (v := nI 1) dX12_ends_21 (by decide) ?_
      refine q_goto (pc := 22) (tgt := 26) dX12_ends_22 (by decide) ?_
      have h := Option.some.inj h
      obtain ⟨rfl, rfl⟩ := Prod.mk.inj h
      exact q_iret (pc := 26) dX12_ends_26 rfl rfl rfl
    · rw [if_neg k9] at h
      refine q_if_eq_t (pc := 18) (tgt := 25) dX12_ends_18 (by decide) (qb_f k9) ?_
      refine q_iconst (pc := 25) (v := nI 0) dX12_ends_25 (by decide) ?_
      have h := Option.some.inj h
      obtain ⟨rfl, rfl⟩ := Prod.mk.inj h
      exact q_iret (pc := 26) dX12_ends_26 rfl rfl rfl
def f_X12_readsCouple_L46 (x1 : Int32) : Nat → Int32 → qM → Option ((Bool × qM) ⊕ (Int32 × qM))
  | 0, _, _ => none
  | n + 1, c2, M =>
  if (nI 5) ≤ c2 then some (.inr (c2, M))
    else if c2 ≤ 0 then (f_X12_number (((nI 9) + ((nI 5) * x1)) + c2) (nI 0) (nI 20) M).bind fun p19 => if p19.1 = true then f_X12_readsCouple_L46 x1 n (c2 + nI 1) p19.2
    else some (.inl (false, p19.2))
    else (f_X12_step M).bind fun M26 => if (M26 25 18) = (nI 44) then (f_X12_number (((nI 9) + ((nI 5) * x1)) + c2) (nI 0) (nI 20) M26).bind fun p28 => if p28.1 = true then f_X12_readsCouple_L46 x1 n (c2 + nI 1) p28.2
    else some (.inl (false, p28.2))
    else (f_X12_fails (nI 1) M26).bind fun p33 => some (.inl (p33.1, p33.2))
set_option maxRecDepth 20000 in
set_option maxHeartbeats 4000000 in
theorem l_X12_readsCouple_L46 {G : qG} {ρ : qR} (x1 : Int32) (J : qJ) : ∀ (n : Nat) (c2 : Int32) (M : qM) (res : (Bool × qM) ⊕ (Int32 × qM)), f_X12_readsCouple_L46 x1 n c2 M = some res → (∀ x : Int32 × qM, res = .inr x → QW G (qrm 3 0 0) YX12_readsCouple 0 0 100 [some (.ref 25), none, none] [] SH x.2 J ρ) → (∀ r : Bool × qM, res = .inl r → (some (.int (qb r.1)), SH, r.2, J) = ρ) → QW G (qrm 3 0 0) YX12_readsCouple 0 0 46 [some (.ref 25), some (.int x1), some (.int c2)] [] SH M J ρ
  | 0, _, _, _, h, _, _ => by simp [f_X12_readsCouple_L46] at h
  | n + 1, c2, M, res, h, hk, hr => by
    rw [f_X12_readsCouple_L46] at h
    refine q_iload_n (pc := 46) dX12_readsCouple_46 rfl ?_
    refine q_iconst (pc := 47) (v := nI 5) dX12_readsCouple_47 (by decide) ?_
    by_cases k17 : (nI 5) ≤ c2
    · rw [if_pos k17] at h
      refine q_icmp_ge_t (pc := 48) (tgt := 100) dX12_readsCouple_48 (by decide) k17 ?_
      refine q_weak (ls' := [some (.ref 25), none, none]) ⟨rfl, trivial⟩ ?_
      obtain rfl := Option.some.inj h
      exact hk (c2, M) rfl
    · rw [if_neg k17] at h
      refine q_icmp_ge_f (pc := 48) (tgt := 100) dX12_readsCouple_48 (by decide) k17 ?_
      refine q_iload_n (pc := 51) dX12_readsCouple_51 rfl ?_
      by_cases k18 : c2 ≤ 0
      · rw [if_pos k18] at h
        refine q_if_le_t (pc := 52) (tgt := 74) dX12_readsCouple_52 (by decide) k18 ?_
        refine q_aload_n (pc := 74) dX12_readsCouple_74 rfl ?_
        refine q_bipush (pc := 75) (v := nI 9) dX12_readsCouple_75 (by decide) ?_
        refine q_iconst (pc := 77) (v := nI 5) dX12_readsCouple_77 (by decide) ?_
        refine q_iload_n (pc := 78) dX12_readsCouple_78 rfl ?_
        refine q_imul (pc := 79) dX12_readsCouple_79 ?_
        refine q_iadd (pc := 80) dX12_readsCouple_80 ?_
        refine q_iload_n (pc := 81) dX12_readsCouple_81 rfl ?_
        refine q_iadd (pc := 82) dX12_readsCouple_82 ?_
        refine q_iconst (pc := 83) (v := nI 0) dX12_readsCouple_83 (by decide) ?_
        refine q_bipush (pc := 84) (v := nI 20) dX12_readsCouple_84 (by decide) ?_
        obtain ⟨⟨b21, M22⟩, h20, h⟩ := Option.bind_eq_some_iff.mp h
        try dsimp only at h
        refine q_callv (pc := 86) (st := []) (a_X12_number h20) okX12_number rfl dX12_readsCouple_86 lk_X12_115 sh_25 cl_11 rfl (by decide) (by decide) (Nat.le_of_ble_eq_true rfl) ⟨Nat.le_of_ble_eq_true rfl, Nat.le_of_ble_eq_true rfl⟩ rfl ?_
        show QW G (qrm 3 0 0) YX12_readsCouple 0 0 89 [some (.ref 25), some (.int x1), some (.int c2)] [.int (qb b21)] SH M22 J _
        by_cases k23 : b21 = true
        · rw [if_pos k23] at h
          refine q_if_ne_t (pc := 89) (tgt := 94) dX12_readsCouple_89 (by decide) (qb_t k23) ?_
          refine q_iincW (pc := 94) (w := nI 1) (ls' := [some (.ref 25), some (.int x1), some (.int (c2 + nI 1))]) dX12_readsCouple_94 rfl (by decide) (by decide) rfl rfl ?_
          refine q_goto (pc := 97) (tgt := 46) dX12_readsCouple_97 (by decide) ?_
          exact l_X12_readsCouple_L46 x1 J n (c2 + nI 1) M22 res h hk hr
        · rw [if_neg k23] at h
          refine q_if_ne_f (pc := 89) (tgt := 94) dX12_readsCouple_89 (by decide) (qb_f k23) ?_
          refine q_iconst (pc := 92) (v := nI 0) dX12_readsCouple_92 (by decide) ?_
          obtain rfl := Option.some.inj h
          exact q_iret (pc := 93) dX12_readsCouple_93 rfl rfl (hr (false, M22) rfl)
      · rw [if_neg k18] at h
        refine q_if_le_f (pc := 52) (tgt := 74) dX12_readsCouple_52 (by decide) k18 ?_
        refine q_aload_n (pc := 55) dX12_readsCouple_55 rfl ?_
        obtain ⟨M26, h25, h⟩ := Option.bind_eq_some_iff.mp h
        refine q_callv (pc := 56) (st := []) (a_X12_step h25) okX12_step rfl dX12_readsCouple_56 lk_X12_108 sh_25 cl_11 rfl (by decide) (by decide) (Nat.le_of_ble_eq_true rfl) ⟨Nat.le_of_ble_eq_true rfl, Nat.le_of_ble_eq_true rfl⟩ rfl ?_
        show QW G (qrm 3 0 0) YX12_readsCouple 0 0 59 [some (.ref 25), some (.int x1), some (.int c2)] [] SH M26 J _
        refine q_aload_n (pc := 59) dX12_readsCouple_59 rfl ?_
        refine q_getf (pc := 60) (f := 18) (v := .int (M26 25 18)) dX12_readsCouple_60 sh_25 cl_11 inX12 rfl (by decide) lk_X12_92 rfl ?_
        refine q_bipush (pc := 63) (v := nI 44) dX12_readsCouple_63 (by decide) ?_
        by_cases k27 : (M26 25 18) = (nI 44)
        · rw [if_pos k27] at h
          refine q_icmp_eq_t (pc := 65) (tgt := 74) dX12_readsCouple_65 (by decide) k27 ?_
          refine q_aload_n (pc := 74) dX12_readsCouple_74 rfl ?_
          refine q_bipush (pc := 75) (v := nI 9) dX12_readsCouple_75 (by decide) ?_
          refine q_iconst (pc := 77) (v := nI 5) dX12_readsCouple_77 (by decide) ?_
          refine q_iload_n (pc := 78) dX12_readsCouple_78 rfl ?_
          refine q_imul (pc := 79) dX12_readsCouple_79 ?_
          refine q_iadd (pc := 80) dX12_readsCouple_80 ?_
          refine q_iload_n (pc := 81) dX12_readsCouple_81 rfl ?_
          refine q_iadd (pc := 82) dX12_readsCouple_82 ?_
          refine q_iconst (pc := 83) (v := nI 0) dX12_readsCouple_83 (by decide) ?_
          refine q_bipush (pc := 84) (v := nI 20) dX12_readsCouple_84 (by decide) ?_
          obtain ⟨⟨b30, M31⟩, h29, h⟩ := Option.bind_eq_some_iff.mp h
          try dsimp only at h
          refine q_callv (pc := 86) (st := []) (a_X12_number h29) okX12_number rfl dX12_readsCouple_86 lk_X12_115 sh_25 cl_11 rfl (by decide) (by decide) (Nat.le_of_ble_eq_true rfl) ⟨Nat.le_of_ble_eq_true rfl, Nat.le_of_ble_eq_true rfl⟩ rfl ?_
          show QW G (qrm 3 0 0) YX12_readsCouple 0 0 89 [some (.ref 25), some (.int x1), some (.int c2)] [.int (qb b30)] SH M31 J _
          by_cases k32 : b30 = true
          · rw [if_pos k32] at h
            refine q_if_ne_t (pc := 89) (tgt := 94) dX12_readsCouple_89 (by decide) (qb_t k32) ?_
            refine q_iincW (pc := 94) (w := nI 1) (ls' := [some (.ref 25), some (.int x1), some (.int (c2 + nI 1))]) dX12_readsCouple_94 rfl (by decide) (by decide) rfl rfl ?_
            refine q_goto (pc := 97) (tgt := 46) dX12_readsCouple_97 (by decide) ?_
            exact l_X12_readsCouple_L46 x1 J n (c2 + nI 1) M31 res h hk hr
          · rw [if_neg k32] at h
            refine q_if_ne_f (pc := 89) (tgt := 94) dX12_readsCouple_89 (by decide) (qb_f k32) ?_
            refine q_iconst (pc := 92) (v := nI 0) dX12_readsCouple_92 (by decide) ?_
            obtain rfl := Option.some.inj h
            exact q_iret (pc := 93) dX12_readsCouple_93 rfl rfl (hr (false, M31) rfl)
        · rw [if_neg k27] at h
          refine q_icmp_eq_f (pc := 65) (tgt := 74) dX12_readsCouple_65 (by decide) k27 ?_
          refine q_aload_n (pc := 68) dX12_readsCouple_68 rfl ?_
          refine q_iconst (pc := 69) (v := nI 1) dX12_readsCouple_69 (by decide) ?_
          obtain ⟨⟨b35, M36⟩, h34, h⟩ := Option.bind_eq_some_iff.mp h
          try dsimp only at h
          refine q_callv (pc := 70) (st := []) (a_X12_fails h34) okX12_fails rfl dX12_readsCouple_70 lk_X12_111 sh_25 cl_11 rfl (by decide) (by decide) (Nat.le_of_ble_eq_true rfl) ⟨Nat.le_of_ble_eq_true rfl, Nat.le_of_ble_eq_true rfl⟩ rfl ?_
          show QW G (qrm 3 0 0) YX12_readsCouple 0 0 73 [some (.ref 25), some (.int x1), some (.int c2)] [.int (qb b35)] SH M36 J _
          obtain rfl := Option.some.inj h
          exact q_iret (pc := 73) dX12_readsCouple_73 rfl rfl (hr (b35, M36) rfl)
def f_X12_readsCouple  (M : qM) : Option (Bool × qM) :=
  (qrd M 27 57 (nI 1)).bind fun v1 => if v1 = (nI 6) then (f_X12_fails (nI 3) M).bind fun p4 => some (p4.1, p4.2)
    else (qrd M 27 57 (nI 1)).bind fun v8 => (qwr M 27 57 (nI 1) (v8 + (nI 1))).bind fun M10 => (f_X12_number ((nI 3) + v1) (nI 0) (nI 60) M10).bind fun p12 => if p12.1 = true then (f_X12_readsCouple_L46 v1 qF (nI 0) p12.2).bind fun e37 => Sum.elim some (fun e37 => (f_X12_ends e37.2).bind fun p39 => some (p39.1, p39.2)) e37
    else some (false, p12.2)
set_option maxRecDepth 20000 in
set_option maxHeartbeats 4000000 in
theorem a_X12_readsCouple {G : qG}  {M : qM} {J : qJ} {r : Bool} {M' : qM} (h : f_X12_readsCouple  M = some (r, M')) : QM G 3 0 0 YX12_readsCouple [.ref 25] SH M J (some (.int (qb r)), SH, M', J) := by
  refine ⟨Nat.le_of_ble_eq_true rfl, Or.inr ⟨rfl, _, rfl⟩, ?_⟩
  show QW G (qrm 3 0 0) YX12_readsCouple 0 0 0 [some (.ref 25), none, none] [] SH M J _
  unfold f_X12_readsCouple at h
  refine q_aload_n (pc := 0) dX12_readsCouple_0 rfl ?_
  refine q_getf (pc := 1) (f := 1) (v := .ref 27) dX12_readsCouple_1 sh_25 cl_11 inX12 rfl (by decide) lk_X12_13 rfl ?_
  refine q_iconst (pc := 4) (v := nI 1) dX12_readsCouple_4 (by decide) ?_
  obtain ⟨v1, h2, h⟩ := Option.bind_eq_some_iff.mp h
  refine q_iald (pc := 5) dX12_readsCouple_5 sh_27 h2 ?_
  refine q_istore_n (pc := 6) (ls' := [some (.ref 25), some (.int v1), none]) dX12_readsCouple_6 (by decide) rfl rfl ?_
  refine q_iload_n (pc := 7) dX12_readsCouple_7 rfl ?_
  refine q_bipush (pc := 8) (v := nI 6) dX12_readsCouple_8 (by decide) ?_
  by_cases k3 : v1 = (nI 6)
  · rw [if_pos k3] at h
    refine q_icmp_ne_f (pc := 10) (tgt := 19) dX12_readsCouple_10 (by decide) k3 ?_
    refine q_aload_n (pc := 13) dX12_readsCouple_13 rfl ?_
    refine q_iconst (pc := 14) (v := nI 3) dX12_readsCouple_14 (by decide) ?_
    obtain ⟨⟨b6, M7⟩, h5, h⟩ := Option.bind_eq_some_iff.mp h
    try dsimp only at h
    refine q_callv (pc := 15) (st := []) (a_X12_fails h5) okX12_fails rfl dX12_readsCouple_15 lk_X12_111 sh_25 cl_11 rfl (by decide) (by decide) (Nat.le_of_ble_eq_true rfl) ⟨Nat.le_of_ble_eq_true rfl, Nat.le_of_ble_eq_true rfl⟩ rfl ?_
    show QW G (qrm 3 0 0) YX12_readsCouple 0 0 18 [some (.ref 25), some (.int v1), none] [.int (qb b6)] SH M7 J _
    have h := Option.some.inj h
    obtain ⟨rfl, rfl⟩ := Prod.mk.inj h
    exact q_iret (pc := 18) dX12_readsCouple_18 rfl rfl rfl
  · rw [if_neg k3] at h
    refine q_icmp_ne_t (pc := 10) (tgt := 19) dX12_readsCouple_10 (by decide) k3 ?_
    refine q_aload_n (pc := 19) dX12_readsCouple_19 rfl ?_
    refine q_getf (pc := 20) (f := 1) (v := .ref 27) dX12_readsCouple_20 sh_25 cl_11 inX12 rfl (by decide) lk_X12_13 rfl ?_
    refine q_iconst (pc := 23) (v := nI 1) dX12_readsCouple_23 (by decide) ?_
    refine q_dup2 (pc := 24) dX12_readsCouple_24 rfl rfl ?_
    obtain ⟨v8, h9, h⟩ := Option.bind_eq_some_iff.mp h
    refine q_iald (pc := 25) dX12_readsCouple_25 sh_27 h9 ?_
    refine q_iconst (pc := 26) (v := nI 1) dX12_readsCouple_26 (by decide) ?_
    refine q_iadd (pc := 27) dX12_readsCouple_27 ?_
    obtain ⟨M10, h11, h⟩ := Option.bind_eq_some_iff.mp h
    refine q_iast (pc := 28) dX12_readsCouple_28 sh_27 h11 ?_
    refine q_aload_n (pc := 29) dX12_readsCouple_29 rfl ?_
    refine q_iconst (pc := 30) (v := nI 3) dX12_readsCouple_30 (by decide) ?_
    refine q_iload_n (pc := 31) dX12_readsCouple_31 rfl ?_
    refine q_iadd (pc := 32) dX12_readsCouple_32 ?_
    refine q_iconst (pc := 33) (v := nI 0) dX12_readsCouple_33 (by decide) ?_
    refine q_bipush (pc := 34) (v := nI 60) dX12_readsCouple_34 (by decide) ?_
    obtain ⟨⟨b14, M15⟩, h13, h⟩ := Option.bind_eq_some_iff.mp h
    try dsimp only at h
    refine q_callv (pc := 36) (st := []) (a_X12_number h13) okX12_number rfl dX12_readsCouple_36 lk_X12_115 sh_25 cl_11 rfl (by decide) (by decide) (Nat.le_of_ble_eq_true rfl) ⟨Nat.le_of_ble_eq_true rfl, Nat.le_of_ble_eq_true rfl⟩ rfl ?_
    show QW G (qrm 3 0 0) YX12_readsCouple 0 0 39 [some (.ref 25), some (.int v1), none] [.int (qb b14)] SH M15 J _
    by_cases k16 : b14 = true
    · rw [if_pos k16] at h
      refine q_if_ne_t (pc := 39) (tgt := 44) dX12_readsCouple_39 (by decide) (qb_t k16) ?_
      refine q_iconst (pc := 44) (v := nI 0) dX12_readsCouple_44 (by decide) ?_
      refine q_istore_n (pc := 45) (ls' := [some (.ref 25), some (.int v1), some (.int (nI 0))]) dX12_readsCouple_45 (by decide) rfl rfl ?_
      obtain ⟨e37, h43, h⟩ := Option.bind_eq_some_iff.mp h
      rcases e37 with r | ⟨e37_2, M38⟩
      · simp only [Sum.elim_inl] at h
        obtain rfl := Option.some.inj h
        exact l_X12_readsCouple_L46 v1 J qF (nI 0) M15 _ h43 (fun x hx => by cases hx) (fun r2 hx => by have hx := Sum.inl.inj hx; subst hx; rfl)
      · simp only [Sum.elim_inr] at h
        refine l_X12_readsCouple_L46 v1 J qF (nI 0) M15 _ h43 (fun x hx => ?_) (fun r hx => by cases hx)
        have hx := Sum.inr.inj hx
        subst hx
        show QW G (qrm 3 0 0) YX12_readsCouple 0 0 100 [some (.ref 25), none, none] [] SH M38 J _
        refine q_aload_n (pc := 100) dX12_readsCouple_100 rfl ?_
        obtain ⟨⟨b41, M42⟩, h40, h⟩ := Option.bind_eq_some_iff.mp h
        try dsimp only at h
        refine q_callv (pc := 101) (st := []) (a_X12_ends h40) okX12_ends rfl dX12_readsCouple_101 lk_X12_119 sh_25 cl_11 rfl (by decide) (by decide) (Nat.le_of_ble_eq_true rfl) ⟨Nat.le_of_ble_eq_true rfl, Nat.le_of_ble_eq_true rfl⟩ rfl ?_
        show QW G (qrm 3 0 0) YX12_readsCouple 0 0 104 [some (.ref 25), none, none] [.int (qb b41)] SH M42 J _
        have h := Option.some.inj h
        obtain ⟨rfl, rfl⟩ := Prod.mk.inj h
        exact q_iret (pc := 104) dX12_readsCouple_104 rfl rfl rfl
    · rw [if_neg k16] at h
      refine q_if_ne_f (pc := 39) (tgt := 44) dX12_readsCouple_39 (by decide) (qb_f k16) ?_
      refine q_iconst (pc := 42) (v := nI 0) dX12_readsCouple_42 (by decide) ?_
      have h := Option.some.inj h
      obtain ⟨rfl, rfl⟩ := Prod.mk.inj h
      exact q_iret (pc := 43) dX12_readsCouple_43 rfl rfl rfl
def f_X12_readsObjector  (M : qM) : Option (Bool × qM) :=
  (qrd M 27 57 (nI 2)).bind fun v1 => if v1 = (nI 6) then (f_X12_fails (nI 3) M).bind fun p4 => some (p4.1, p4.2)
    else (qrd M 27 57 (nI 2)).bind fun v8 => (qwr M 27 57 (nI 2) (v8 + (nI 1))).bind fun M10 => (f_X12_number ((nI 39) + v1) (nI 0) (nI 3) M10).bind fun p12 => if p12.1 = true then (f_X12_number ((nI 45) + v1) (nI 0) (nI 20) p12.2).bind fun p17 => if p17.1 = true then (f_X12_number ((nI 51) + v1) (nI 0) (nI 31) p17.2).bind fun p22 => if p22.1 = true then (f_X12_ends p22.2).bind fun p27 => if p27.1 = true then some (true, p27.2)
    else some (false, p27.2)
    else some (false, p22.2)
    else some (false, p17.2)
    else some (false, p12.2)
set_option maxRecDepth 20000 in
set_option maxHeartbeats 4000000 in
theorem a_X12_readsObjector {G : qG}  {M : qM} {J : qJ} {r : Bool} {M' : qM} (h : f_X12_readsObjector  M = some (r, M')) : QM G 3 0 0 YX12_readsObjector [.ref 25] SH M J (some (.int (qb r)), SH, M', J) := by
  refine ⟨Nat.le_of_ble_eq_true rfl, Or.inr ⟨rfl, _, rfl⟩, ?_⟩
  show QW G (qrm 3 0 0) YX12_readsObjector 0 0 0 [some (.ref 25), none] [] SH M J _
  unfold f_X12_readsObjector at h
  refine q_aload_n (pc := 0) dX12_readsObjector_0 rfl ?_
  refine q_getf (pc := 1) (f := 1) (v := .ref 27) dX12_readsObjector_1 sh_25 cl_11 inX12 rfl (by decide) lk_X12_13 rfl ?_
  refine q_iconst (pc := 4) (v := nI 2) dX12_readsObjector_4 (by decide) ?_
  obtain ⟨v1, h2, h⟩ := Option.bind_eq_some_iff.mp h
  refine q_iald (pc := 5) dX12_readsObjector_5 sh_27 h2 ?_
  refine q_istore_n (pc := 6) (ls' := [some (.ref 25), some (.int v1)]) dX12_readsObjector_6 (by decide) rfl rfl ?_
  refine q_iload_n (pc := 7) dX12_readsObjector_7 rfl ?_
  refine q_bipush (pc := 8) (v := nI 6) dX12_readsObjector_8 (by decide) ?_
  by_cases k3 : v1 = (nI 6)
  · rw [if_pos k3] at h
    refine q_icmp_ne_f (pc := 10) (tgt := 19) dX12_readsObjector_10 (by decide) k3 ?_
    refine q_aload_n (pc := 13) dX12_readsObjector_13 rfl ?_
    refine q_iconst (pc := 14) (v := nI 3) dX12_readsObjector_14 (by decide) ?_
    obtain ⟨⟨b6, M7⟩, h5, h⟩ := Option.bind_eq_some_iff.mp h
    try dsimp only at h
    refine q_callv (pc := 15) (st := []) (a_X12_fails h5) okX12_fails rfl dX12_readsObjector_15 lk_X12_111 sh_25 cl_11 rfl (by decide) (by decide) (Nat.le_of_ble_eq_true rfl) ⟨Nat.le_of_ble_eq_true rfl, Nat.le_of_ble_eq_true rfl⟩ rfl ?_
    show QW G (qrm 3 0 0) YX12_readsObjector 0 0 18 [some (.ref 25), some (.int v1)] [.int (qb b6)] SH M7 J _
    have h := Option.some.inj h
    obtain ⟨rfl, rfl⟩ := Prod.mk.inj h
    exact q_iret (pc := 18) dX12_readsObjector_18 rfl rfl rfl
  · rw [if_neg k3] at h
    refine q_icmp_ne_t (pc := 10) (tgt := 19) dX12_readsObjector_10 (by decide) k3 ?_
    refine q_aload_n (pc := 19) dX12_readsObjector_19 rfl ?_
    refine q_getf (pc := 20) (f := 1) (v := .ref 27) dX12_readsObjector_20 sh_25 cl_11 inX12 rfl (by decide) lk_X12_13 rfl ?_
    refine q_iconst (pc := 23) (v := nI 2) dX12_readsObjector_23 (by decide) ?_
    refine q_dup2 (pc := 24) dX12_readsObjector_24 rfl rfl ?_
    obtain ⟨v8, h9, h⟩ := Option.bind_eq_some_iff.mp h
    refine q_iald (pc := 25) dX12_readsObjector_25 sh_27 h9 ?_
    refine q_iconst (pc := 26) (v := nI 1) dX12_readsObjector_26 (by decide) ?_
    refine q_iadd (pc := 27) dX12_readsObjector_27 ?_
    obtain ⟨M10, h11, h⟩ := Option.bind_eq_some_iff.mp h
    refine q_iast (pc := 28) dX12_readsObjector_28 sh_27 h11 ?_
    refine q_aload_n (pc := 29) dX12_readsObjector_29 rfl ?_
    refine q_bipush (pc := 30) (v := nI 39) dX12_readsObjector_30 (by decide) ?_
    refine q_iload_n (pc := 32) dX12_readsObjector_32 rfl ?_
    refine q_iadd (pc := 33) dX12_readsObjector_33 ?_
    refine q_iconst (pc := 34) (v := nI 0) dX12_readsObjector_34 (by decide) ?_
    refine q_iconst (pc := 35) (v := nI 3) dX12_readsObjector_35 (by decide) ?_
    obtain ⟨⟨b14, M15⟩, h13, h⟩ := Option.bind_eq_some_iff.mp h
    try dsimp only at h
    refine q_callv (pc := 36) (st := []) (a_X12_number h13) okX12_number rfl dX12_readsObjector_36 lk_X12_115 sh_25 cl_11 rfl (by decide) (by decide) (Nat.le_of_ble_eq_true rfl) ⟨Nat.le_of_ble_eq_true rfl, Nat.le_of_ble_eq_true rfl⟩ rfl ?_
    show QW G (qrm 3 0 0) YX12_readsObjector 0 0 39 [some (.ref 25), some (.int v1)] [.int (qb b14)] SH M15 J _
    by_cases k16 : b14 = true
    · rw [if_pos k16] at h
      refine q_if_eq_f (pc := 39) (tgt := 81) dX12_readsObjector_39 (by decide) (qb_t k16) ?_
      refine q_aload_n (pc := 42) dX12_readsObjector_42 rfl ?_
      refine q_bipush (pc := 43) (v := nI 45) dX12_readsObjector_43 (by decide) ?_
      refine q_iload_n (pc := 45) dX12_readsObjector_45 rfl ?_
      refine q_iadd (pc := 46) dX12_readsObjector_46 ?_
      refine q_iconst (pc := 47) (v := nI 0) dX12_readsObjector_47 (by decide) ?_
      refine q_bipush (pc := 48) (v := nI 20) dX12_readsObjector_48 (by decide) ?_
      obtain ⟨⟨b19, M20⟩, h18, h⟩ := Option.bind_eq_some_iff.mp h
      try dsimp only at h
      refine q_callv (pc := 50) (st := []) (a_X12_number h18) okX12_number rfl dX12_readsObjector_50 lk_X12_115 sh_25 cl_11 rfl (by decide) (by decide) (Nat.le_of_ble_eq_true rfl) ⟨Nat.le_of_ble_eq_true rfl, Nat.le_of_ble_eq_true rfl⟩ rfl ?_
      show QW G (qrm 3 0 0) YX12_readsObjector 0 0 53 [some (.ref 25), some (.int v1)] [.int (qb b19)] SH M20 J _
      by_cases k21 : b19 = true
      · rw [if_pos k21] at h
        refine q_if_eq_f (pc := 53) (tgt := 81) dX12_readsObjector_53 (by decide) (qb_t k21) ?_
        refine q_aload_n (pc := 56) dX12_readsObjector_56 rfl ?_
        refine q_bipush (pc := 57) (v := nI 51) dX12_readsObjector_57 (by decide) ?_
        refine q_iload_n (pc := 59) dX12_readsObjector_59 rfl ?_
        refine q_iadd (pc := 60) dX12_readsObjector_60 ?_
        refine q_iconst (pc := 61) (v := nI 0) dX12_readsObjector_61 (by decide) ?_
        refine q_bipush (pc := 62) (v := nI 31) dX12_readsObjector_62 (by decide) ?_
        obtain ⟨⟨b24, M25⟩, h23, h⟩ := Option.bind_eq_some_iff.mp h
        try dsimp only at h
        refine q_callv (pc := 64) (st := []) (a_X12_number h23) okX12_number rfl dX12_readsObjector_64 lk_X12_115 sh_25 cl_11 rfl (by decide) (by decide) (Nat.le_of_ble_eq_true rfl) ⟨Nat.le_of_ble_eq_true rfl, Nat.le_of_ble_eq_true rfl⟩ rfl ?_
        show QW G (qrm 3 0 0) YX12_readsObjector 0 0 67 [some (.ref 25), some (.int v1)] [.int (qb b24)] SH M25 J _
        by_cases k26 : b24 = true
        · rw [if_pos k26] at h
          refine q_if_eq_f (pc := 67) (tgt := 81) dX12_readsObjector_67 (by decide) (qb_t k26) ?_
          refine q_aload_n (pc := 70) dX12_readsObjector_70 rfl ?_
          obtain ⟨⟨b29, M30⟩, h28, h⟩ := Option.bind_eq_some_iff.mp h
          try dsimp only at h
          refine q_callv (pc := 71) (st := []) (a_X12_ends h28) okX12_ends rfl dX12_readsObjector_71 lk_X12_119 sh_25 cl_11 rfl (by decide) (by decide) (Nat.le_of_ble_eq_true rfl) ⟨Nat.le_of_ble_eq_true rfl, Nat.le_of_ble_eq_true rfl⟩ rfl ?_
          show QW G (qrm 3 0 0) YX12_readsObjector 0 0 74 [some (.ref 25), some (.int v1)] [.int (qb b29)] SH M30 J _
          by_cases k31 : b29 = true
          · rw [if_pos k31] at h
            refine q_if_eq_f (pc := 74) (tgt := 81) dX12_readsObjector_74 (by decide) (qb_t k31) ?_
            refine q_iconst (pc := 77) (v := nI 1) dX12_readsObjector_77 (by decide) ?_
            refine q_goto (pc := 78) (tgt := 82) dX12_readsObjector_78 (by decide) ?_
            have h := Option.some.inj h
            obtain ⟨rfl, rfl⟩ := Prod.mk.inj h
            exact q_iret (pc := 82) dX12_readsObjector_82 rfl rfl rfl
          · rw [if_neg k31] at h
            refine q_if_eq_t (pc := 74) (tgt := 81) dX12_readsObjector_74 (by decide) (qb_f k31) ?_
            refine q_iconst (pc := 81) (v := nI 0) dX12_readsObjector_81 (by decide) ?_
            have h := Option.some.inj h
            obtain ⟨rfl, rfl⟩ := Prod.mk.inj h
            exact q_iret (pc := 82) dX12_readsObjector_82 rfl rfl rfl
        · rw [if_neg k26] at h
          refine q_if_eq_t (pc := 67) (tgt := 81) dX12_readsObjector_67 (by decide) (qb_f k26) ?_
          refine q_iconst (pc := 81) (v := nI 0) dX12_readsObjector_81 (by decide) ?_
          have h := Option.some.inj h
          obtain ⟨rfl, rfl⟩ := Prod.mk.inj h
          exact q_iret (pc := 82) dX12_readsObjector_82 rfl rfl rfl
      · rw [if_neg k21] at h
        refine q_if_eq_t (pc := 53) (tgt := 81) dX12_readsObjector_53 (by decide) (qb_f k21) ?_
        refine q_iconst (pc := 81) (v := nI 0) dX12_readsObjector_81 (by decide) ?_
        have h := Option.some.inj h
        obtain ⟨rfl, rfl⟩ := Prod.mk.inj h
        exact q_iret (pc := 82) dX12_readsObjector_82 rfl rfl rfl
    · rw [if_neg k16] at h
      refine q_if_eq_t (pc := 39) (tgt := 81) dX12_readsObjector_39 (by decide) (qb_f k16) ?_
      refine q_iconst (pc := 81) (v := nI 0) dX12_readsObjector_81 (by decide) ?_
      have h := Option.some.inj h
      obtain ⟨rfl, rfl⟩ := Prod.mk.inj h
      exact q_iret (pc := 82) dX12_readsObjector_82 rfl rfl rfl
def f_X12_readsClause  (M : qM) : Option (Bool × qM) :=
  if (M 25 18) = (nI 100) then (qrd M 27 57 (nI 0)).bind fun v2 => if v2 ≤ 0 then (f_X12_number (nI 0) (nI 1) (nI 20) M).bind fun p5 => if p5.1 = true then (f_X12_ends p5.2).bind fun p10 => if p10.1 = true then some (true, p10.2)
    else some (false, p10.2)
    else some (false, p5.2)
    else (f_X12_fails (nI 3) M).bind fun p15 => some (p15.1, p15.2)
    else (qrd M 27 57 (nI 0)).bind fun v19 => if v19 = 0 then (f_X12_fails (nI 1) M).bind fun p22 => some (p22.1, p22.2)
    else if (M 25 18) = nI 99 then (f_X12_readsCouple M).bind fun p27 => some (p27.1, p27.2)
    else if (M 25 18) = nI 111 then (f_X12_readsObjector M).bind fun p32 => some (p32.1, p32.2)
    else (f_X12_fails (nI 1) M).bind fun p36 => some (p36.1, p36.2)
set_option maxRecDepth 20000 in
set_option maxHeartbeats 4000000 in
theorem a_X12_readsClause {G : qG}  {M : qM} {J : qJ} {r : Bool} {M' : qM} (h : f_X12_readsClause  M = some (r, M')) : QM G 4 0 0 YX12_readsClause [.ref 25] SH M J (some (.int (qb r)), SH, M', J) := by
  refine ⟨Nat.le_of_ble_eq_true rfl, Or.inr ⟨rfl, _, rfl⟩, ?_⟩
  show QW G (qrm 4 0 0) YX12_readsClause 0 0 0 [some (.ref 25)] [] SH M J _
  unfold f_X12_readsClause at h
  refine q_aload_n (pc := 0) dX12_readsClause_0 rfl ?_
  refine q_getf (pc := 1) (f := 18) (v := .int (M 25 18)) dX12_readsClause_1 sh_25 cl_11 inX12 rfl (by decide) lk_X12_92 rfl ?_
  refine q_bipush (pc := 4) (v := nI 100) dX12_readsClause_4 (by decide) ?_
  by_cases k1 : (M 25 18) = (nI 100)
  · rw [if_pos k1] at h
    refine q_icmp_ne_f (pc := 6) (tgt := 50) dX12_readsClause_6 (by decide) k1 ?_
    refine q_aload_n (pc := 9) dX12_readsClause_9 rfl ?_
    refine q_getf (pc := 10) (f := 1) (v := .ref 27) dX12_readsClause_10 sh_25 cl_11 inX12 rfl (by decide) lk_X12_13 rfl ?_
    refine q_iconst (pc := 13) (v := nI 0) dX12_readsClause_13 (by decide) ?_
    obtain ⟨v2, h3, h⟩ := Option.bind_eq_some_iff.mp h
    refine q_iald (pc := 14) dX12_readsClause_14 sh_27 h3 ?_
    by_cases k4 : v2 ≤ 0
    · rw [if_pos k4] at h
      refine q_if_le_t (pc := 15) (tgt := 26) dX12_readsClause_15 (by decide) k4 ?_
      refine q_aload_n (pc := 26) dX12_readsClause_26 rfl ?_
      refine q_iconst (pc := 27) (v := nI 0) dX12_readsClause_27 (by decide) ?_
      refine q_iconst (pc := 28) (v := nI 1) dX12_readsClause_28 (by decide) ?_
      refine q_bipush (pc := 29) (v := nI 20) dX12_readsClause_29 (by decide) ?_
      obtain ⟨⟨b7, M8⟩, h6, h⟩ := Option.bind_eq_some_iff.mp h
      try dsimp only at h
      refine q_callv (pc := 31) (st := []) (a_X12_number h6) okX12_number rfl dX12_readsClause_31 lk_X12_115 sh_25 cl_11 rfl (by decide) (by decide) (Nat.le_of_ble_eq_true rfl) ⟨Nat.le_of_ble_eq_true rfl, Nat.le_of_ble_eq_true rfl⟩ rfl ?_
      show QW G (qrm 4 0 0) YX12_readsClause 0 0 34 [some (.ref 25)] [.int (qb b7)] SH M8 J _
      by_cases k9 : b7 = true
      · rw [if_pos k9] at h
        refine q_if_eq_f (pc := 34) (tgt := 48) dX12_readsClause_34 (by decide) (qb_t k9) ?_
        refine q_aload_n (pc := 37) dX12_readsClause_37 rfl ?_
        obtain ⟨⟨b12, M13⟩, h11, h⟩ := Option.bind_eq_some_iff.mp h
        try dsimp only at h
        refine q_callv (pc := 38) (st := []) (a_X12_ends h11) okX12_ends rfl dX12_readsClause_38 lk_X12_119 sh_25 cl_11 rfl (by decide) (by decide) (Nat.le_of_ble_eq_true rfl) ⟨Nat.le_of_ble_eq_true rfl, Nat.le_of_ble_eq_true rfl⟩ rfl ?_
        show QW G (qrm 4 0 0) YX12_readsClause 0 0 41 [some (.ref 25)] [.int (qb b12)] SH M13 J _
        by_cases k14 : b12 = true
        · rw [if_pos k14] at h
          refine q_if_eq_f (pc := 41) (tgt := 48) dX12_readsClause_41 (by decide) (qb_t k14) ?_
          refine q_iconst (pc := 44) (v := nI 1) dX12_readsClause_44 (by decide) ?_
          refine q_goto (pc := 45) (tgt := 49) dX12_readsClause_45 (by decide) ?_
          have h := Option.some.inj h
          obtain ⟨rfl, rfl⟩ := Prod.mk.inj h
          exact q_iret (pc := 49) dX12_readsClause_49 rfl rfl rfl
        · rw [if_neg k14] at h
          refine q_if_eq_t (pc := 41) (tgt := 48) dX12_readsClause_41 (by decide) (qb_f k14) ?_
          refine q_iconst (pc := 48) (v := nI 0) dX12_readsClause_48 (by decide) ?_
          have h := Option.some.inj h
          obtain ⟨rfl, rfl⟩ := Prod.mk.inj h
          exact q_iret (pc := 49) dX12_readsClause_49 rfl rfl rfl
      · rw [if_neg k9] at h
        refine q_if_eq_t (pc := 34) (tgt := 48) dX12_readsClause_34 (by decide) (qb_f k9) ?_
        refine q_iconst (pc := 48) (v := nI 0) dX12_readsClause_48 (by decide) ?_
        have h := Option.some.inj h
        obtain ⟨rfl, rfl⟩ := Prod.mk.inj h
        exact q_iret (pc := 49) dX12_readsClause_49 rfl rfl rfl
    · rw [if_neg k4] at h
      refine q_if_le_f (pc := 15) (tgt := 26) dX12_readsClause_15 (by decide) k4 ?_
      refine q_aload_n (pc := 18) dX12_readsClause_18 rfl ?_
      refine q_iconst (pc := 19) (v := nI 3) dX12_readsClause_19 (by decide) ?_
      obtain ⟨⟨b17, M18⟩, h16, h⟩ := Option.bind_eq_some_iff.mp h
      try dsimp only at h
      refine q_callv (pc := 20) (st := []) (a_X12_fails h16) okX12_fails rfl dX12_readsClause_20 lk_X12_111 sh_25 cl_11 rfl (by decide) (by decide) (Nat.le_of_ble_eq_true rfl) ⟨Nat.le_of_ble_eq_true rfl, Nat.le_of_ble_eq_true rfl⟩ rfl ?_
      show QW G (qrm 4 0 0) YX12_readsClause 0 0 23 [some (.ref 25)] [.int (qb b17)] SH M18 J _
      refine q_goto (pc := 23) (tgt := 49) dX12_readsClause_23 (by decide) ?_
      have h := Option.some.inj h
      obtain ⟨rfl, rfl⟩ := Prod.mk.inj h
      exact q_iret (pc := 49) dX12_readsClause_49 rfl rfl rfl
  · rw [if_neg k1] at h
    refine q_icmp_ne_t (pc := 6) (tgt := 50) dX12_readsClause_6 (by decide) k1 ?_
    refine q_aload_n (pc := 50) dX12_readsClause_50 rfl ?_
    refine q_getf (pc := 51) (f := 1) (v := .ref 27) dX12_readsClause_51 sh_25 cl_11 inX12 rfl (by decide) lk_X12_13 rfl ?_
    refine q_iconst (pc := 54) (v := nI 0) dX12_readsClause_54 (by decide) ?_
    obtain ⟨v19, h20, h⟩ := Option.bind_eq_some_iff.mp h
    refine q_iald (pc := 55) dX12_readsClause_55 sh_27 h20 ?_
    by_cases k21 : v19 = 0
    · rw [if_pos k21] at h
      refine q_if_ne_f (pc := 56) (tgt := 65) dX12_readsClause_56 (by decide) k21 ?_
      refine q_aload_n (pc := 59) dX12_readsClause_59 rfl ?_
      refine q_iconst (pc := 60) (v := nI 1) dX12_readsClause_60 (by decide) ?_
      obtain ⟨⟨b24, M25⟩, h23, h⟩ := Option.bind_eq_some_iff.mp h
      try dsimp only at h
      refine q_callv (pc := 61) (st := []) (a_X12_fails h23) okX12_fails rfl dX12_readsClause_61 lk_X12_111 sh_25 cl_11 rfl (by decide) (by decide) (Nat.le_of_ble_eq_true rfl) ⟨Nat.le_of_ble_eq_true rfl, Nat.le_of_ble_eq_true rfl⟩ rfl ?_
      show QW G (qrm 4 0 0) YX12_readsClause 0 0 64 [some (.ref 25)] [.int (qb b24)] SH M25 J _
      have h := Option.some.inj h
      obtain ⟨rfl, rfl⟩ := Prod.mk.inj h
      exact q_iret (pc := 64) dX12_readsClause_64 rfl rfl rfl
    · rw [if_neg k21] at h
      refine q_if_ne_t (pc := 56) (tgt := 65) dX12_readsClause_56 (by decide) k21 ?_
      refine q_aload_n (pc := 65) dX12_readsClause_65 rfl ?_
      refine q_getf (pc := 66) (f := 18) (v := .int (M 25 18)) dX12_readsClause_66 sh_25 cl_11 inX12 rfl (by decide) lk_X12_92 rfl ?_
      by_cases k26 : (M 25 18) = nI 99
      · rw [if_pos k26] at h
        refine q_look (pc := 69) (tgt := 96) (off := 27) dX12_readsClause_69 (by decide) (by rw [k26]; rfl) (by decide) ?_
        refine q_aload_n (pc := 96) dX12_readsClause_96 rfl ?_
        obtain ⟨⟨b29, M30⟩, h28, h⟩ := Option.bind_eq_some_iff.mp h
        try dsimp only at h
        refine q_callv (pc := 97) (st := []) (a_X12_readsCouple h28) okX12_readsCouple rfl dX12_readsClause_97 lk_X12_123 sh_25 cl_11 rfl (by decide) (by decide) (Nat.le_of_ble_eq_true rfl) ⟨Nat.le_of_ble_eq_true rfl, Nat.le_of_ble_eq_true rfl⟩ rfl ?_
        show QW G (qrm 4 0 0) YX12_readsClause 0 0 100 [some (.ref 25)] [.int (qb b29)] SH M30 J _
        have h := Option.some.inj h
        obtain ⟨rfl, rfl⟩ := Prod.mk.inj h
        exact q_iret (pc := 100) dX12_readsClause_100 rfl rfl rfl
      · rw [if_neg k26] at h
        by_cases k31 : (M 25 18) = nI 111
        · rw [if_pos k31] at h
          refine q_look (pc := 69) (tgt := 101) (off := 32) dX12_readsClause_69 (by decide) (by rw [k31]; rfl) (by decide) ?_
          refine q_aload_n (pc := 101) dX12_readsClause_101 rfl ?_
          obtain ⟨⟨b34, M35⟩, h33, h⟩ := Option.bind_eq_some_iff.mp h
          try dsimp only at h
          refine q_callv (pc := 102) (st := []) (a_X12_readsObjector h33) okX12_readsObjector rfl dX12_readsClause_102 lk_X12_126 sh_25 cl_11 rfl (by decide) (by decide) (Nat.le_of_ble_eq_true rfl) ⟨Nat.le_of_ble_eq_true rfl, Nat.le_of_ble_eq_true rfl⟩ rfl ?_
          show QW G (qrm 4 0 0) YX12_readsClause 0 0 105 [some (.ref 25)] [.int (qb b34)] SH M35 J _
          have h := Option.some.inj h
          obtain ⟨rfl, rfl⟩ := Prod.mk.inj h
          exact q_iret (pc := 105) dX12_readsClause_105 rfl rfl rfl
        · rw [if_neg k31] at h
          refine q_look (pc := 69) (tgt := 106) (off := 37) dX12_readsClause_69 (by decide) (by show Op.lookupswitch.offset [(99, 27), (111, 32)] 37 (M 25 18).toInt = _; rw [lv_osw k26 (show (nI 99).toInt = 99 from rfl), lv_osw k31 (show (nI 111).toInt = 111 from rfl)]; rfl) (by decide) ?_
          refine q_aload_n (pc := 106) dX12_readsClause_106 rfl ?_
          refine q_iconst (pc := 107) (v := nI 1) dX12_readsClause_107 (by decide) ?_
          obtain ⟨⟨b38, M39⟩, h37, h⟩ := Option.bind_eq_some_iff.mp h
          try dsimp only at h
          refine q_callv (pc := 108) (st := []) (a_X12_fails h37) okX12_fails rfl dX12_readsClause_108 lk_X12_111 sh_25 cl_11 rfl (by decide) (by decide) (Nat.le_of_ble_eq_true rfl) ⟨Nat.le_of_ble_eq_true rfl, Nat.le_of_ble_eq_true rfl⟩ rfl ?_
          show QW G (qrm 4 0 0) YX12_readsClause 0 0 111 [some (.ref 25)] [.int (qb b38)] SH M39 J _
          have h := Option.some.inj h
          obtain ⟨rfl, rfl⟩ := Prod.mk.inj h
          exact q_iret (pc := 111) dX12_readsClause_111 rfl rfl rfl
def f_X12_copies_at27_26_L3 (x1 : Int32) (x3 : Int32) (x4 : Int32) : Nat → Int32 → qM → Option (Int32 × qM)
  | 0, _, _ => none
  | n + 1, c5, M =>
  if x4 ≤ c5 then some (c5, M)
    else (qrd M 27 57 (x1 + c5)).bind fun v2 => (qwr M 26 57 (x3 + c5) v2).bind fun M4 => f_X12_copies_at27_26_L3 x1 x3 x4 n (c5 + nI 1) M4
set_option maxRecDepth 20000 in
set_option maxHeartbeats 4000000 in
theorem l_X12_copies_at27_26_L3 {G : qG} {ρ : qR} (x1 : Int32) (x3 : Int32) (x4 : Int32) (J : qJ) : ∀ (n : Nat) (c5 : Int32) (M : qM) (res : Int32 × qM), f_X12_copies_at27_26_L3 x1 x3 x4 n c5 M = some res → (∀ x : Int32 × qM, res = x → QW G (qrm 0 0 0) YX12_copies 0 0 28 [none, none, none, none, none, none] [] SH x.2 J ρ) → QW G (qrm 0 0 0) YX12_copies 0 0 3 [some (.ref 27), some (.int x1), some (.ref 26), some (.int x3), some (.int x4), some (.int c5)] [] SH M J ρ
  | 0, _, _, _, h, _ => by simp [f_X12_copies_at27_26_L3] at h
  | n + 1, c5, M, res, h, hk => by
    rw [f_X12_copies_at27_26_L3] at h
    refine q_iload (pc := 3) dX12_copies_3 rfl ?_
    refine q_iload (pc := 5) dX12_copies_5 rfl ?_
    by_cases k1 : x4 ≤ c5
    · rw [if_pos k1] at h
      refine q_icmp_ge_t (pc := 7) (tgt := 28) dX12_copies_7 (by decide) k1 ?_
      refine q_weak (ls' := [none, none, none, none, none, none]) trivial ?_
      obtain rfl := Option.some.inj h
      exact hk (c5, M) rfl
    · rw [if_neg k1] at h
      refine q_icmp_ge_f (pc := 7) (tgt := 28) dX12_copies_7 (by decide) k1 ?_
      refine q_aload_n (pc := 10) dX12_copies_10 rfl ?_
      refine q_iload_n (pc := 11) dX12_copies_11 rfl ?_
      refine q_iload (pc := 12) dX12_copies_12 rfl ?_
      refine q_iadd (pc := 14) dX12_copies_14 ?_
      refine q_aload_n (pc := 15) dX12_copies_15 rfl ?_
      refine q_iload_n (pc := 16) dX12_copies_16 rfl ?_
      refine q_iload (pc := 17) dX12_copies_17 rfl ?_
      refine q_iadd (pc := 19) dX12_copies_19 ?_
      obtain ⟨v2, h3, h⟩ := Option.bind_eq_some_iff.mp h
      refine q_iald (pc := 20) dX12_copies_20 sh_27 h3 ?_
      obtain ⟨M4, h5, h⟩ := Option.bind_eq_some_iff.mp h
      refine q_iast (pc := 21) dX12_copies_21 sh_26 h5 ?_
      refine q_iincW (pc := 22) (w := nI 1) (ls' := [some (.ref 27), some (.int x1), some (.ref 26), some (.int x3), some (.int x4), some (.int (c5 + nI 1))]) dX12_copies_22 rfl (by decide) (by decide) rfl rfl ?_
      refine q_goto (pc := 25) (tgt := 3) dX12_copies_25 (by decide) ?_
      exact l_X12_copies_at27_26_L3 x1 x3 x4 J n (c5 + nI 1) M4 res h hk
def f_X12_copies_at27_26 (a1 : Int32) (a3 : Int32) (a4 : Int32) (M : qM) : Option qM :=
  (f_X12_copies_at27_26_L3 a1 a3 a4 qF (nI 0) M).bind fun e6 => some (e6.2)
set_option maxRecDepth 20000 in
set_option maxHeartbeats 4000000 in
theorem a_X12_copies_at27_26 {G : qG} {a1 : Int32} {a3 : Int32} {a4 : Int32} {M : qM} {J : qJ} {M' : qM} (h : f_X12_copies_at27_26 a1 a3 a4 M = some (M')) : QM G 0 0 0 YX12_copies [.ref 27, .int a1, .ref 26, .int a3, .int a4] SH M J (none, SH, M', J) := by
  refine ⟨Nat.le_of_ble_eq_true rfl, rfl, ?_⟩
  show QW G (qrm 0 0 0) YX12_copies 0 0 0 [some (.ref 27), some (.int a1), some (.ref 26), some (.int a3), some (.int a4), none] [] SH M J _
  unfold f_X12_copies_at27_26 at h
  refine q_iconst (pc := 0) (v := nI 0) dX12_copies_0 (by decide) ?_
  refine q_istore (pc := 1) (ls' := [some (.ref 27), some (.int a1), some (.ref 26), some (.int a3), some (.int a4), some (.int (nI 0))]) dX12_copies_1 (by decide) rfl rfl ?_
  obtain ⟨⟨e6_5, M7⟩, h8, h⟩ := Option.bind_eq_some_iff.mp h
  try dsimp only at h
  refine l_X12_copies_at27_26_L3 a1 a3 a4 J qF (nI 0) M _ h8 (fun x hx => ?_)
  subst hx
  show QW G (qrm 0 0 0) YX12_copies 0 0 28 [none, none, none, none, none, none] [] SH M7 J _
  obtain rfl := Option.some.inj h
  exact q_vret (pc := 28) dX12_copies_28 rfl rfl rfl
def f_X12_copies_at26_28_L3 (x1 : Int32) (x3 : Int32) (x4 : Int32) : Nat → Int32 → qM → Option (Int32 × qM)
  | 0, _, _ => none
  | n + 1, c5, M =>
  if x4 ≤ c5 then some (c5, M)
    else (qrd M 26 57 (x1 + c5)).bind fun v2 => (qwr M 28 163 (x3 + c5) v2).bind fun M4 => f_X12_copies_at26_28_L3 x1 x3 x4 n (c5 + nI 1) M4
set_option maxRecDepth 20000 in
set_option maxHeartbeats 4000000 in
theorem l_X12_copies_at26_28_L3 {G : qG} {ρ : qR} (x1 : Int32) (x3 : Int32) (x4 : Int32) (J : qJ) : ∀ (n : Nat) (c5 : Int32) (M : qM) (res : Int32 × qM), f_X12_copies_at26_28_L3 x1 x3 x4 n c5 M = some res → (∀ x : Int32 × qM, res = x → QW G (qrm 0 0 0) YX12_copies 0 0 28 [none, none, none, none, none, none] [] SH x.2 J ρ) → QW G (qrm 0 0 0) YX12_copies 0 0 3 [some (.ref 26), some (.int x1), some (.ref 28), some (.int x3), some (.int x4), some (.int c5)] [] SH M J ρ
  | 0, _, _, _, h, _ => by simp [f_X12_copies_at26_28_L3] at h
  | n + 1, c5, M, res, h, hk => by
    rw [f_X12_copies_at26_28_L3] at h
    refine q_iload (pc := 3) dX12_copies_3 rfl ?_
    refine q_iload (pc := 5) dX12_copies_5 rfl ?_
    by_cases k1 : x4 ≤ c5
    · rw [if_pos k1] at h
      refine q_icmp_ge_t (pc := 7) (tgt := 28) dX12_copies_7 (by decide) k1 ?_
      refine q_weak (ls' := [none, none, none, none, none, none]) trivial ?_
      obtain rfl := Option.some.inj h
      exact hk (c5, M) rfl
    · rw [if_neg k1] at h
      refine q_icmp_ge_f (pc := 7) (tgt := 28) dX12_copies_7 (by decide) k1 ?_
      refine q_aload_n (pc := 10) dX12_copies_10 rfl ?_
      refine q_iload_n (pc := 11) dX12_copies_11 rfl ?_
      refine q_iload (pc := 12) dX12_copies_12 rfl ?_
      refine q_iadd (pc := 14) dX12_copies_14 ?_
      refine q_aload_n (pc := 15) dX12_copies_15 rfl ?_
      refine q_iload_n (pc := 16) dX12_copies_16 rfl ?_
      refine q_iload (pc := 17) dX12_copies_17 rfl ?_
      refine q_iadd (pc := 19) dX12_copies_19 ?_
      obtain ⟨v2, h3, h⟩ := Option.bind_eq_some_iff.mp h
      refine q_iald (pc := 20) dX12_copies_20 sh_26 h3 ?_
      obtain ⟨M4, h5, h⟩ := Option.bind_eq_some_iff.mp h
      refine q_iast (pc := 21) dX12_copies_21 sh_28 h5 ?_
      refine q_iincW (pc := 22) (w := nI 1) (ls' := [some (.ref 26), some (.int x1), some (.ref 28), some (.int x3), some (.int x4), some (.int (c5 + nI 1))]) dX12_copies_22 rfl (by decide) (by decide) rfl rfl ?_
      refine q_goto (pc := 25) (tgt := 3) dX12_copies_25 (by decide) ?_
      exact l_X12_copies_at26_28_L3 x1 x3 x4 J n (c5 + nI 1) M4 res h hk
def f_X12_copies_at26_28 (a1 : Int32) (a3 : Int32) (a4 : Int32) (M : qM) : Option qM :=
  (f_X12_copies_at26_28_L3 a1 a3 a4 qF (nI 0) M).bind fun e6 => some (e6.2)
set_option maxRecDepth 20000 in
set_option maxHeartbeats 4000000 in
theorem a_X12_copies_at26_28 {G : qG} {a1 : Int32} {a3 : Int32} {a4 : Int32} {M : qM} {J : qJ} {M' : qM} (h : f_X12_copies_at26_28 a1 a3 a4 M = some (M')) : QM G 0 0 0 YX12_copies [.ref 26, .int a1, .ref 28, .int a3, .int a4] SH M J (none, SH, M', J) := by
  refine ⟨Nat.le_of_ble_eq_true rfl, rfl, ?_⟩
  show QW G (qrm 0 0 0) YX12_copies 0 0 0 [some (.ref 26), some (.int a1), some (.ref 28), some (.int a3), some (.int a4), none] [] SH M J _
  unfold f_X12_copies_at26_28 at h
  refine q_iconst (pc := 0) (v := nI 0) dX12_copies_0 (by decide) ?_
  refine q_istore (pc := 1) (ls' := [some (.ref 26), some (.int a1), some (.ref 28), some (.int a3), some (.int a4), some (.int (nI 0))]) dX12_copies_1 (by decide) rfl rfl ?_
  obtain ⟨⟨e6_5, M7⟩, h8, h⟩ := Option.bind_eq_some_iff.mp h
  try dsimp only at h
  refine l_X12_copies_at26_28_L3 a1 a3 a4 J qF (nI 0) M _ h8 (fun x hx => ?_)
  subst hx
  show QW G (qrm 0 0 0) YX12_copies 0 0 28 [none, none, none, none, none, none] [] SH M7 J _
  obtain rfl := Option.some.inj h
  exact q_vret (pc := 28) dX12_copies_28 rfl rfl rfl
def f_X12_begins_L2  : Nat → Int32 → qM → Option (Int32 × qM)
  | 0, _, _ => none
  | n + 1, c1, M =>
  if (nI 163) ≤ c1 then some (c1, M)
    else (f_X12_in c1.toInt64 (lN 13) (lN 18) M).bind fun b4 => if b4 = true then (qwr M 28 163 c1 (-1 : Int32)).bind fun M6 => f_X12_begins_L2  n (c1 + nI 1) M6
    else (qwr M 28 163 c1 (nI 0)).bind fun M8 => f_X12_begins_L2  n (c1 + nI 1) M8
set_option maxRecDepth 20000 in
set_option maxHeartbeats 4000000 in
theorem l_X12_begins_L2 {G : qG} {ρ : qR}  (J : qJ) : ∀ (n : Nat) (c1 : Int32) (M : qM) (res : Int32 × qM), f_X12_begins_L2  n c1 M = some res → (∀ x : Int32 × qM, res = x → QW G (qrm 1 0 0) YX12_begins 0 0 40 [some (.ref 25), none] [] SH x.2 J ρ) → QW G (qrm 1 0 0) YX12_begins 0 0 2 [some (.ref 25), some (.int c1)] [] SH M J ρ
  | 0, _, _, _, h, _ => by simp [f_X12_begins_L2] at h
  | n + 1, c1, M, res, h, hk => by
    rw [f_X12_begins_L2] at h
    refine q_iload_n (pc := 2) dX12_begins_2 rfl ?_
    refine q_sipush (pc := 3) (v := nI 163) dX12_begins_3 (by decide) ?_
    by_cases k1 : (nI 163) ≤ c1
    · rw [if_pos k1] at h
      refine q_icmp_ge_t (pc := 6) (tgt := 40) dX12_begins_6 (by decide) k1 ?_
      refine q_weak (ls' := [some (.ref 25), none]) ⟨rfl, trivial⟩ ?_
      obtain rfl := Option.some.inj h
      exact hk (c1, M) rfl
    · rw [if_neg k1] at h
      refine q_icmp_ge_f (pc := 6) (tgt := 40) dX12_begins_6 (by decide) k1 ?_
      refine q_aload_n (pc := 9) dX12_begins_9 rfl ?_
      refine q_getf (pc := 10) (f := 2) (v := .ref 28) dX12_begins_10 sh_25 cl_11 inX12 rfl (by decide) lk_X12_16 rfl ?_
      refine q_iload_n (pc := 13) dX12_begins_13 rfl ?_
      refine q_iload_n (pc := 14) dX12_begins_14 rfl ?_
      refine q_i2l (pc := 15) dX12_begins_15 ?_
      refine q_ldc2 (pc := 16) (v := lN 13) dX12_begins_16 lk_X12_54 ?_
      refine q_ldc2 (pc := 19) (v := lN 18) dX12_begins_19 lk_X12_56 ?_
      obtain ⟨b4, h3, h⟩ := Option.bind_eq_some_iff.mp h
      refine q_calls (pc := 22) (st := [.int c1, .ref 28]) (a_X12_in h3) okX12_in rfl dX12_begins_22 lk_X12_58 rfl (by decide) (by decide) (Nat.le_of_ble_eq_true rfl) ⟨Nat.le_of_ble_eq_true rfl, Nat.le_of_ble_eq_true rfl⟩ rfl ?_
      show QW G (qrm 1 0 0) YX12_begins 0 0 25 [some (.ref 25), some (.int c1)] [.int (qb b4), .int c1, .ref 28] SH M J _
      by_cases k5 : b4 = true
      · rw [if_pos k5] at h
        refine q_if_eq_f (pc := 25) (tgt := 32) dX12_begins_25 (by decide) (qb_t k5) ?_
        refine q_iconst (pc := 28) (v := (-1 : Int32)) dX12_begins_28 (by decide) ?_
        refine q_goto (pc := 29) (tgt := 33) dX12_begins_29 (by decide) ?_
        obtain ⟨M6, h7, h⟩ := Option.bind_eq_some_iff.mp h
        refine q_iast (pc := 33) dX12_begins_33 sh_28 h7 ?_
        refine q_iincW (pc := 34) (w := nI 1) (ls' := [some (.ref 25), some (.int (c1 + nI 1))]) dX12_begins_34 rfl (by decide) (by decide) rfl rfl ?_
        refine q_goto (pc := 37) (tgt := 2) dX12_begins_37 (by decide) ?_
        exact l_X12_begins_L2  J n (c1 + nI 1) M6 res h hk
      · rw [if_neg k5] at h
        refine q_if_eq_t (pc := 25) (tgt := 32) dX12_begins_25 (by decide) (qb_f k5) ?_
        refine q_iconst (pc := 32) (v := nI 0) dX12_begins_32 (by decide) ?_
        obtain ⟨M8, h9, h⟩ := Option.bind_eq_some_iff.mp h
        refine q_iast (pc := 33) dX12_begins_33 sh_28 h9 ?_
        refine q_iincW (pc := 34) (w := nI 1) (ls' := [some (.ref 25), some (.int (c1 + nI 1))]) dX12_begins_34 rfl (by decide) (by decide) rfl rfl ?_
        refine q_goto (pc := 37) (tgt := 2) dX12_begins_37 (by decide) ?_
        exact l_X12_begins_L2  J n (c1 + nI 1) M8 res h hk
def f_X12_begins  (M : qM) : Option qM :=
  (f_X12_begins_L2  qF (nI 0) M).bind fun e10 => (f_X12_copies_at26_28 (nI 3) (nI 1) (nI 6) e10.2).bind fun M14 => (f_X12_copies_at26_28 (nI 9) (nI 19) (nI 30) M14).bind fun M17 => (f_X12_copies_at26_28 (nI 45) (nI 49) (nI 6) M17).bind fun M20 => (f_X12_copies_at26_28 (nI 51) (nI 55) (nI 6) M20).bind fun M23 => (qpu M23 25 5 (nI 0)).bind fun M24 => (qpu M24 25 13 (nI 0)).bind fun M26 => (qpu M26 25 15 (nI 0)).bind fun M28 => (qwz M28 32 2 (nI 0) (nI 0)).bind fun M30 => (qwz M30 32 2 (nI 1) (nI 0)).bind fun M32 => some (M32)
set_option maxRecDepth 20000 in
set_option maxHeartbeats 4000000 in
theorem a_X12_begins {G : qG}  {M : qM} {J : qJ} {M' : qM} (h : f_X12_begins  M = some (M')) : QM G 1 0 0 YX12_begins [.ref 25] SH M J (none, SH, M', J) := by
  refine ⟨Nat.le_of_ble_eq_true rfl, rfl, ?_⟩
  show QW G (qrm 1 0 0) YX12_begins 0 0 0 [some (.ref 25), none] [] SH M J _
  unfold f_X12_begins at h
  refine q_iconst (pc := 0) (v := nI 0) dX12_begins_0 (by decide) ?_
  refine q_istore_n (pc := 1) (ls' := [some (.ref 25), some (.int (nI 0))]) dX12_begins_1 (by decide) rfl rfl ?_
  obtain ⟨⟨e10_1, M11⟩, h34, h⟩ := Option.bind_eq_some_iff.mp h
  try dsimp only at h
  refine l_X12_begins_L2  J qF (nI 0) M _ h34 (fun x hx => ?_)
  subst hx
  show QW G (qrm 1 0 0) YX12_begins 0 0 40 [some (.ref 25), none] [] SH M11 J _
  refine q_aload_n (pc := 40) dX12_begins_40 rfl ?_
  refine q_getf (pc := 41) (f := 0) (v := .ref 26) dX12_begins_41 sh_25 cl_11 inX12 rfl (by decide) lk_X12_7 rfl ?_
  refine q_iconst (pc := 44) (v := nI 3) dX12_begins_44 (by decide) ?_
  refine q_aload_n (pc := 45) dX12_begins_45 rfl ?_
  refine q_getf (pc := 46) (f := 2) (v := .ref 28) dX12_begins_46 sh_25 cl_11 inX12 rfl (by decide) lk_X12_16 rfl ?_
  refine q_iconst (pc := 49) (v := nI 1) dX12_begins_49 (by decide) ?_
  refine q_bipush (pc := 50) (v := nI 6) dX12_begins_50 (by decide) ?_
  obtain ⟨M14, h13, h⟩ := Option.bind_eq_some_iff.mp h
  refine q_calls (pc := 52) (st := []) (a_X12_copies_at26_28 h13) okX12_copies rfl dX12_begins_52 lk_X12_62 rfl (by decide) (by decide) (Nat.le_of_ble_eq_true rfl) ⟨Nat.le_of_ble_eq_true rfl, Nat.le_of_ble_eq_true rfl⟩ rfl ?_
  show QW G (qrm 1 0 0) YX12_begins 0 0 55 [some (.ref 25), none] [] SH M14 J _
  refine q_aload_n (pc := 55) dX12_begins_55 rfl ?_
  refine q_getf (pc := 56) (f := 0) (v := .ref 26) dX12_begins_56 sh_25 cl_11 inX12 rfl (by decide) lk_X12_7 rfl ?_
  refine q_bipush (pc := 59) (v := nI 9) dX12_begins_59 (by decide) ?_
  refine q_aload_n (pc := 61) dX12_begins_61 rfl ?_
  refine q_getf (pc := 62) (f := 2) (v := .ref 28) dX12_begins_62 sh_25 cl_11 inX12 rfl (by decide) lk_X12_16 rfl ?_
  refine q_bipush (pc := 65) (v := nI 19) dX12_begins_65 (by decide) ?_
  refine q_bipush (pc := 67) (v := nI 30) dX12_begins_67 (by decide) ?_
  obtain ⟨M17, h16, h⟩ := Option.bind_eq_some_iff.mp h
  refine q_calls (pc := 69) (st := []) (a_X12_copies_at26_28 h16) okX12_copies rfl dX12_begins_69 lk_X12_62 rfl (by decide) (by decide) (Nat.le_of_ble_eq_true rfl) ⟨Nat.le_of_ble_eq_true rfl, Nat.le_of_ble_eq_true rfl⟩ rfl ?_
  show QW G (qrm 1 0 0) YX12_begins 0 0 72 [some (.ref 25), none] [] SH M17 J _
  refine q_aload_n (pc := 72) dX12_begins_72 rfl ?_
  refine q_getf (pc := 73) (f := 0) (v := .ref 26) dX12_begins_73 sh_25 cl_11 inX12 rfl (by decide) lk_X12_7 rfl ?_
  refine q_bipush (pc := 76) (v := nI 45) dX12_begins_76 (by decide) ?_
  refine q_aload_n (pc := 78) dX12_begins_78 rfl ?_
  refine q_getf (pc := 79) (f := 2) (v := .ref 28) dX12_begins_79 sh_25 cl_11 inX12 rfl (by decide) lk_X12_16 rfl ?_
  refine q_bipush (pc := 82) (v := nI 49) dX12_begins_82 (by decide) ?_
  refine q_bipush (pc := 84) (v := nI 6) dX12_begins_84 (by decide) ?_
  obtain ⟨M20, h19, h⟩ := Option.bind_eq_some_iff.mp h
  refine q_calls (pc := 86) (st := []) (a_X12_copies_at26_28 h19) okX12_copies rfl dX12_begins_86 lk_X12_62 rfl (by decide) (by decide) (Nat.le_of_ble_eq_true rfl) ⟨Nat.le_of_ble_eq_true rfl, Nat.le_of_ble_eq_true rfl⟩ rfl ?_
  show QW G (qrm 1 0 0) YX12_begins 0 0 89 [some (.ref 25), none] [] SH M20 J _
  refine q_aload_n (pc := 89) dX12_begins_89 rfl ?_
  refine q_getf (pc := 90) (f := 0) (v := .ref 26) dX12_begins_90 sh_25 cl_11 inX12 rfl (by decide) lk_X12_7 rfl ?_
  refine q_bipush (pc := 93) (v := nI 51) dX12_begins_93 (by decide) ?_
  refine q_aload_n (pc := 95) dX12_begins_95 rfl ?_
  refine q_getf (pc := 96) (f := 2) (v := .ref 28) dX12_begins_96 sh_25 cl_11 inX12 rfl (by decide) lk_X12_16 rfl ?_
  refine q_bipush (pc := 99) (v := nI 55) dX12_begins_99 (by decide) ?_
  refine q_bipush (pc := 101) (v := nI 6) dX12_begins_101 (by decide) ?_
  obtain ⟨M23, h22, h⟩ := Option.bind_eq_some_iff.mp h
  refine q_calls (pc := 103) (st := []) (a_X12_copies_at26_28 h22) okX12_copies rfl dX12_begins_103 lk_X12_62 rfl (by decide) (by decide) (Nat.le_of_ble_eq_true rfl) ⟨Nat.le_of_ble_eq_true rfl, Nat.le_of_ble_eq_true rfl⟩ rfl ?_
  show QW G (qrm 1 0 0) YX12_begins 0 0 106 [some (.ref 25), none] [] SH M23 J _
  refine q_aload_n (pc := 106) dX12_begins_106 rfl ?_
  refine q_iconst (pc := 107) (v := nI 0) dX12_begins_107 (by decide) ?_
  obtain ⟨M24, h25, h⟩ := Option.bind_eq_some_iff.mp h
  refine q_putI (pc := 108) (f := 5) tyX12 dX12_begins_108 sh_25 cl_11 inX12 tyX12_ok nmX12 rfl (by decide) lk_X12_66 rfl rfl rfl h25 ?_
  refine q_aload_n (pc := 111) dX12_begins_111 rfl ?_
  refine q_iconst (pc := 112) (v := nI 0) dX12_begins_112 (by decide) ?_
  obtain ⟨M26, h27, h⟩ := Option.bind_eq_some_iff.mp h
  refine q_putI (pc := 113) (f := 13) tyX12 dX12_begins_113 sh_25 cl_11 inX12 tyX12_ok nmX12 rfl (by decide) lk_X12_69 rfl rfl rfl h27 ?_
  refine q_aload_n (pc := 116) dX12_begins_116 rfl ?_
  refine q_iconst (pc := 117) (v := nI 0) dX12_begins_117 (by decide) ?_
  obtain ⟨M28, h29, h⟩ := Option.bind_eq_some_iff.mp h
  refine q_putI (pc := 118) (f := 15) tyX12 dX12_begins_118 sh_25 cl_11 inX12 tyX12_ok nmX12 rfl (by decide) lk_X12_72 rfl rfl rfl h29 ?_
  refine q_aload_n (pc := 121) dX12_begins_121 rfl ?_
  refine q_getf (pc := 122) (f := 7) (v := .ref 32) dX12_begins_122 sh_25 cl_11 inX12 rfl (by decide) lk_X12_28 rfl ?_
  refine q_iconst (pc := 125) (v := nI 0) dX12_begins_125 (by decide) ?_
  refine q_iconst (pc := 126) (v := nI 0) dX12_begins_126 (by decide) ?_
  obtain ⟨M30, h31, h⟩ := Option.bind_eq_some_iff.mp h
  refine q_bast (pc := 127) dX12_begins_127 sh_32 h31 ?_
  refine q_aload_n (pc := 128) dX12_begins_128 rfl ?_
  refine q_getf (pc := 129) (f := 7) (v := .ref 32) dX12_begins_129 sh_25 cl_11 inX12 rfl (by decide) lk_X12_28 rfl ?_
  refine q_iconst (pc := 132) (v := nI 1) dX12_begins_132 (by decide) ?_
  refine q_iconst (pc := 133) (v := nI 0) dX12_begins_133 (by decide) ?_
  obtain ⟨M32, h33, h⟩ := Option.bind_eq_some_iff.mp h
  refine q_bast (pc := 134) dX12_begins_134 sh_32 h33 ?_
  obtain rfl := Option.some.inj h
  exact q_vret (pc := 135) dX12_begins_135 rfl rfl rfl
def f_X12_deanery_L2  : Nat → Int32 → qM → Option (Int32 × qM)
  | 0, _, _ => none
  | n + 1, c1, M =>
  if (nI 57) ≤ c1 then some (c1, M)
    else (qwr M 27 57 c1 (nI 0)).bind fun M2 => f_X12_deanery_L2  n (c1 + nI 1) M2
set_option maxRecDepth 20000 in
set_option maxHeartbeats 4000000 in
theorem l_X12_deanery_L2 {G : qG} {ρ : qR}  (J : qJ) : ∀ (n : Nat) (c1 : Int32) (M : qM) (res : Int32 × qM), f_X12_deanery_L2  n c1 M = some res → (∀ x : Int32 × qM, res = x → QW G (qrm 5 0 0) YX12_deanery 0 0 21 [some (.ref 25), none] [] SH x.2 J ρ) → QW G (qrm 5 0 0) YX12_deanery 0 0 2 [some (.ref 25), some (.int c1)] [] SH M J ρ
  | 0, _, _, _, h, _ => by simp [f_X12_deanery_L2] at h
  | n + 1, c1, M, res, h, hk => by
    rw [f_X12_deanery_L2] at h
    refine q_iload_n (pc := 2) dX12_deanery_2 rfl ?_
    refine q_bipush (pc := 3) (v := nI 57) dX12_deanery_3 (by decide) ?_
    by_cases k1 : (nI 57) ≤ c1
    · rw [if_pos k1] at h
      refine q_icmp_ge_t (pc := 5) (tgt := 21) dX12_deanery_5 (by decide) k1 ?_
      refine q_weak (ls' := [some (.ref 25), none]) ⟨rfl, trivial⟩ ?_
      obtain rfl := Option.some.inj h
      exact hk (c1, M) rfl
    · rw [if_neg k1] at h
      refine q_icmp_ge_f (pc := 5) (tgt := 21) dX12_deanery_5 (by decide) k1 ?_
      refine q_aload_n (pc := 8) dX12_deanery_8 rfl ?_
      refine q_getf (pc := 9) (f := 1) (v := .ref 27) dX12_deanery_9 sh_25 cl_11 inX12 rfl (by decide) lk_X12_13 rfl ?_
      refine q_iload_n (pc := 12) dX12_deanery_12 rfl ?_
      refine q_iconst (pc := 13) (v := nI 0) dX12_deanery_13 (by decide) ?_
      obtain ⟨M2, h3, h⟩ := Option.bind_eq_some_iff.mp h
      refine q_iast (pc := 14) dX12_deanery_14 sh_27 h3 ?_
      refine q_iincW (pc := 15) (w := nI 1) (ls' := [some (.ref 25), some (.int (c1 + nI 1))]) dX12_deanery_15 rfl (by decide) (by decide) rfl rfl ?_
      refine q_goto (pc := 18) (tgt := 2) dX12_deanery_18 (by decide) ?_
      exact l_X12_deanery_L2  J n (c1 + nI 1) M2 res h hk
def f_X12_deanery_L37  : Nat → Bool → qM → Option (Bool × qM)
  | 0, _, _ => none
  | n + 1, c1, M =>
  if (M 25 18) < 0 then some (c1, M)
    else if c1 = true then (f_X12_readsClause M).bind fun p15 => if p15.1 = true then (f_X12_step p15.2).bind fun M22 => f_X12_deanery_L37  n p15.1 M22
    else f_X12_deanery_L37  n p15.1 p15.2
    else some (c1, M)
set_option maxRecDepth 20000 in
set_option maxHeartbeats 4000000 in
theorem l_X12_deanery_L37 {G : qG} {ρ : qR}  (J : qJ) : ∀ (n : Nat) (c1 : Bool) (M : qM) (res : Bool × qM), f_X12_deanery_L37  n c1 M = some res → (∀ x : Bool × qM, res = x → QW G (qrm 5 0 0) YX12_deanery 0 0 64 [some (.ref 25), some (.int (qb x.1))] [] SH x.2 J ρ) → QW G (qrm 5 0 0) YX12_deanery 0 0 37 [some (.ref 25), some (.int (qb c1))] [] SH M J ρ
  | 0, _, _, _, h, _ => by simp [f_X12_deanery_L37] at h
  | n + 1, c1, M, res, h, hk => by
    rw [f_X12_deanery_L37] at h
    refine q_aload_n (pc := 37) dX12_deanery_37 rfl ?_
    refine q_getf (pc := 38) (f := 18) (v := .int (M 25 18)) dX12_deanery_38 sh_25 cl_11 inX12 rfl (by decide) lk_X12_92 rfl ?_
    by_cases k13 : (M 25 18) < 0
    · rw [if_pos k13] at h
      refine q_if_lt_t (pc := 41) (tgt := 64) dX12_deanery_41 (by decide) k13 ?_
      obtain rfl := Option.some.inj h
      exact hk (c1, M) rfl
    · rw [if_neg k13] at h
      refine q_if_lt_f (pc := 41) (tgt := 64) dX12_deanery_41 (by decide) k13 ?_
      refine q_iload_n (pc := 44) dX12_deanery_44 rfl ?_
      by_cases k14 : c1 = true
      · rw [if_pos k14] at h
        refine q_if_eq_f (pc := 45) (tgt := 64) dX12_deanery_45 (by decide) (qb_t k14) ?_
        refine q_aload_n (pc := 48) dX12_deanery_48 rfl ?_
        obtain ⟨⟨b17, M18⟩, h16, h⟩ := Option.bind_eq_some_iff.mp h
        try dsimp only at h
        refine q_callv (pc := 49) (st := []) (a_X12_readsClause h16) okX12_readsClause rfl dX12_deanery_49 lk_X12_129 sh_25 cl_11 rfl (by decide) (by decide) (Nat.le_of_ble_eq_true rfl) ⟨Nat.le_of_ble_eq_true rfl, Nat.le_of_ble_eq_true rfl⟩ rfl ?_
        show QW G (qrm 5 0 0) YX12_deanery 0 0 52 [some (.ref 25), some (.int (qb c1))] [.int (qb b17)] SH M18 J _
        refine q_istore_n (pc := 52) (ls' := [some (.ref 25), some (.int (qb b17))]) dX12_deanery_52 (by decide) rfl rfl ?_
        refine q_iload_n (pc := 53) dX12_deanery_53 rfl ?_
        by_cases k19 : b17 = true
        · rw [if_pos k19] at h
          refine q_if_eq_f (pc := 54) (tgt := 37) dX12_deanery_54 (by decide) (qb_t k19) ?_
          refine q_aload_n (pc := 57) dX12_deanery_57 rfl ?_
          obtain ⟨M22, h21, h⟩ := Option.bind_eq_some_iff.mp h
          refine q_callv (pc := 58) (st := []) (a_X12_step h21) okX12_step rfl dX12_deanery_58 lk_X12_108 sh_25 cl_11 rfl (by decide) (by decide) (Nat.le_of_ble_eq_true rfl) ⟨Nat.le_of_ble_eq_true rfl, Nat.le_of_ble_eq_true rfl⟩ rfl ?_
          show QW G (qrm 5 0 0) YX12_deanery 0 0 61 [some (.ref 25), some (.int (qb b17))] [] SH M22 J _
          refine q_goto (pc := 61) (tgt := 37) dX12_deanery_61 (by decide) ?_
          exact l_X12_deanery_L37  J n b17 M22 res h hk
        · rw [if_neg k19] at h
          refine q_if_eq_t (pc := 54) (tgt := 37) dX12_deanery_54 (by decide) (qb_f k19) ?_
          exact l_X12_deanery_L37  J n b17 M18 res h hk
      · rw [if_neg k14] at h
        refine q_if_eq_t (pc := 45) (tgt := 64) dX12_deanery_45 (by decide) (qb_f k14) ?_
        obtain rfl := Option.some.inj h
        exact hk (c1, M) rfl
def f_X12_deanery  (M : qM) : Option (Int32 × qM) :=
  (f_X12_deanery_L2  qF (nI 0) M).bind fun e4 => (qpu e4.2 25 16 (nI 0)).bind fun M6 => (qpu M6 25 11 (-1 : Int32)).bind fun M8 => (f_X12_step M8).bind fun M12 => (f_X12_deanery_L37  qF true M12).bind fun e23 => (qpu e23.2 25 10 (nI 0)).bind fun M25 => if e23.1 = true then (f_X12_copies_at27_26 (nI 0) (nI 0) (nI 57) M25).bind fun M30 => (f_X12_begins M30).bind fun M33 => (qrd M33 26 57 (nI 1)).bind fun v34 => some (v34, M33)
    else (qpu M25 25 11 (M25 25 17)).bind fun M36 => some ((-10 : Int32) - (M36 25 21), M36)
set_option maxRecDepth 20000 in
set_option maxHeartbeats 4000000 in
theorem a_X12_deanery {G : qG}  {M : qM} {J : qJ} {r : Int32} {M' : qM} (h : f_X12_deanery  M = some (r, M')) : QM G 5 0 0 YX12_deanery [.ref 25] SH M J (some (.int r), SH, M', J) := by
  refine ⟨Nat.le_of_ble_eq_true rfl, Or.inl rfl, ?_⟩
  show QW G (qrm 5 0 0) YX12_deanery 0 0 0 [some (.ref 25), none] [] SH M J _
  unfold f_X12_deanery at h
  refine q_iconst (pc := 0) (v := nI 0) dX12_deanery_0 (by decide) ?_
  refine q_istore_n (pc := 1) (ls' := [some (.ref 25), some (.int (nI 0))]) dX12_deanery_1 (by decide) rfl rfl ?_
  obtain ⟨⟨e4_1, M5⟩, h39, h⟩ := Option.bind_eq_some_iff.mp h
  try dsimp only at h
  refine l_X12_deanery_L2  J qF (nI 0) M _ h39 (fun x hx => ?_)
  subst hx
  show QW G (qrm 5 0 0) YX12_deanery 0 0 21 [some (.ref 25), none] [] SH M5 J _
  refine q_aload_n (pc := 21) dX12_deanery_21 rfl ?_
  refine q_iconst (pc := 22) (v := nI 0) dX12_deanery_22 (by decide) ?_
  obtain ⟨M6, h7, h⟩ := Option.bind_eq_some_iff.mp h
  refine q_putI (pc := 23) (f := 16) tyX12 dX12_deanery_23 sh_25 cl_11 inX12 tyX12_ok nmX12 rfl (by decide) lk_X12_82 rfl rfl rfl h7 ?_
  refine q_aload_n (pc := 26) dX12_deanery_26 rfl ?_
  refine q_iconst (pc := 27) (v := (-1 : Int32)) dX12_deanery_27 (by decide) ?_
  obtain ⟨M8, h9, h⟩ := Option.bind_eq_some_iff.mp h
  refine q_putI (pc := 28) (f := 11) tyX12 dX12_deanery_28 sh_25 cl_11 inX12 tyX12_ok nmX12 rfl (by decide) lk_X12_35 rfl rfl rfl h9 ?_
  refine q_iconst (pc := 31) (v := nI 1) dX12_deanery_31 (by decide) ?_
  refine q_istore_n (pc := 32) (ls' := [some (.ref 25), some (.int (nI 1))]) dX12_deanery_32 (by decide) rfl rfl ?_
  refine q_aload_n (pc := 33) dX12_deanery_33 rfl ?_
  obtain ⟨M12, h11, h⟩ := Option.bind_eq_some_iff.mp h
  refine q_callv (pc := 34) (st := []) (a_X12_step h11) okX12_step rfl dX12_deanery_34 lk_X12_108 sh_25 cl_11 rfl (by decide) (by decide) (Nat.le_of_ble_eq_true rfl) ⟨Nat.le_of_ble_eq_true rfl, Nat.le_of_ble_eq_true rfl⟩ rfl ?_
  show QW G (qrm 5 0 0) YX12_deanery 0 0 37 [some (.ref 25), some (.int (nI 1))] [] SH M12 J _
  obtain ⟨⟨e23_1, M24⟩, h38, h⟩ := Option.bind_eq_some_iff.mp h
  try dsimp only at h
  refine l_X12_deanery_L37  J qF true M12 _ h38 (fun x hx => ?_)
  subst hx
  show QW G (qrm 5 0 0) YX12_deanery 0 0 64 [some (.ref 25), some (.int (qb e23_1))] [] SH M24 J _
  refine q_aload_n (pc := 64) dX12_deanery_64 rfl ?_
  refine q_iconst (pc := 65) (v := nI 0) dX12_deanery_65 (by decide) ?_
  obtain ⟨M25, h26, h⟩ := Option.bind_eq_some_iff.mp h
  refine q_putI (pc := 66) (f := 10) tyX12 dX12_deanery_66 sh_25 cl_11 inX12 tyX12_ok nmX12 rfl (by decide) lk_X12_78 rfl rfl rfl h26 ?_
  refine q_iload_n (pc := 69) dX12_deanery_69 rfl ?_
  by_cases k27 : e23_1 = true
  · rw [if_pos k27] at h
    refine q_if_ne_t (pc := 70) (tgt := 89) dX12_deanery_70 (by decide) (qb_t k27) ?_
    refine q_aload_n (pc := 89) dX12_deanery_89 rfl ?_
    refine q_getf (pc := 90) (f := 1) (v := .ref 27) dX12_deanery_90 sh_25 cl_11 inX12 rfl (by decide) lk_X12_13 rfl ?_
    refine q_iconst (pc := 93) (v := nI 0) dX12_deanery_93 (by decide) ?_
    refine q_aload_n (pc := 94) dX12_deanery_94 rfl ?_
    refine q_getf (pc := 95) (f := 0) (v := .ref 26) dX12_deanery_95 sh_25 cl_11 inX12 rfl (by decide) lk_X12_7 rfl ?_
    refine q_iconst (pc := 98) (v := nI 0) dX12_deanery_98 (by decide) ?_
    refine q_bipush (pc := 99) (v := nI 57) dX12_deanery_99 (by decide) ?_
    obtain ⟨M30, h29, h⟩ := Option.bind_eq_some_iff.mp h
    refine q_calls (pc := 101) (st := []) (a_X12_copies_at27_26 h29) okX12_copies rfl dX12_deanery_101 lk_X12_62 rfl (by decide) (by decide) (Nat.le_of_ble_eq_true rfl) ⟨Nat.le_of_ble_eq_true rfl, Nat.le_of_ble_eq_true rfl⟩ rfl ?_
    show QW G (qrm 5 0 0) YX12_deanery 0 0 104 [some (.ref 25), some (.int (qb e23_1))] [] SH M30 J _
    refine q_aload_n (pc := 104) dX12_deanery_104 rfl ?_
    obtain ⟨M33, h32, h⟩ := Option.bind_eq_some_iff.mp h
    refine q_callv (pc := 105) (st := []) (a_X12_begins h32) okX12_begins rfl dX12_deanery_105 lk_X12_51 sh_25 cl_11 rfl (by decide) (by decide) (Nat.le_of_ble_eq_true rfl) ⟨Nat.le_of_ble_eq_true rfl, Nat.le_of_ble_eq_true rfl⟩ rfl ?_
    show QW G (qrm 5 0 0) YX12_deanery 0 0 108 [some (.ref 25), some (.int (qb e23_1))] [] SH M33 J _
    refine q_aload_n (pc := 108) dX12_deanery_108 rfl ?_
    refine q_getf (pc := 109) (f := 0) (v := .ref 26) dX12_deanery_109 sh_25 cl_11 inX12 rfl (by decide) lk_X12_7 rfl ?_
    refine q_iconst (pc := 112) (v := nI 1) dX12_deanery_112 (by decide) ?_
    obtain ⟨v34, h35, h⟩ := Option.bind_eq_some_iff.mp h
    refine q_iald (pc := 113) dX12_deanery_113 sh_26 h35 ?_
    have h := Option.some.inj h
    obtain ⟨rfl, rfl⟩ := Prod.mk.inj h
    exact q_iret (pc := 114) dX12_deanery_114 rfl rfl rfl
  · rw [if_neg k27] at h
    refine q_if_ne_f (pc := 70) (tgt := 89) dX12_deanery_70 (by decide) (qb_f k27) ?_
    refine q_aload_n (pc := 73) dX12_deanery_73 rfl ?_
    refine q_aload_n (pc := 74) dX12_deanery_74 rfl ?_
    refine q_getf (pc := 75) (f := 17) (v := .int (M25 25 17)) dX12_deanery_75 sh_25 cl_11 inX12 rfl (by decide) lk_X12_89 rfl ?_
    obtain ⟨M36, h37, h⟩ := Option.bind_eq_some_iff.mp h
    refine q_putI (pc := 78) (f := 11) tyX12 dX12_deanery_78 sh_25 cl_11 inX12 tyX12_ok nmX12 rfl (by decide) lk_X12_35 rfl rfl rfl h37 ?_
    refine q_bipush (pc := 81) (v := (-10 : Int32)) dX12_deanery_81 (by decide) ?_
    refine q_aload_n (pc := 83) dX12_deanery_83 rfl ?_
    refine q_getf (pc := 84) (f := 21) (v := .int (M36 25 21)) dX12_deanery_84 sh_25 cl_11 inX12 rfl (by decide) lk_X12_105 rfl ?_
    refine q_isub (pc := 87) dX12_deanery_87 ?_
    have h := Option.some.inj h
    obtain ⟨rfl, rfl⟩ := Prod.mk.inj h
    exact q_iret (pc := 88) dX12_deanery_88 rfl rfl rfl
def f_X12_fault  (M : qM) : Option Int32 :=
  some (M 25 11)
set_option maxRecDepth 20000 in
set_option maxHeartbeats 4000000 in
theorem a_X12_fault {G : qG}  {M : qM} {J : qJ} {r : Int32} (h : f_X12_fault  M = some (r)) : QM G 0 0 0 YX12_fault [.ref 25] SH M J (some (.int r), SH, M, J) := by
  refine ⟨Nat.le_of_ble_eq_true rfl, Or.inl rfl, ?_⟩
  show QW G (qrm 0 0 0) YX12_fault 0 0 0 [some (.ref 25)] [] SH M J _
  unfold f_X12_fault at h
  refine q_aload_n (pc := 0) dX12_fault_0 rfl ?_
  refine q_getf (pc := 1) (f := 11) (v := .int (M 25 11)) dX12_fault_1 sh_25 cl_11 inX12 rfl (by decide) lk_X12_35 rfl ?_
  obtain rfl := Option.some.inj h
  exact q_iret (pc := 4) dX12_fault_4 rfl rfl rfl
def f_X12_those_L4 (x1 : Int32) (M : qM) : Nat → Int32 → Int32 → Option (Int32 × Int32)
  | 0, _, _ => none
  | n + 1, c2, c3 =>
  (qrd M 26 57 (nI 1)).bind fun v1 => if v1 ≤ c3 then some (c2, c3)
    else (qrd M 28 163 ((nI 7) + c3)).bind fun v4 => if v4 = x1 then f_X12_those_L4 x1 M n (c2 ||| ((nI 1) <<< (c3 &&& 31))) (c3 + nI 1)
    else f_X12_those_L4 x1 M n (c2 ||| (nI 0)) (c3 + nI 1)
set_option maxRecDepth 20000 in
set_option maxHeartbeats 4000000 in
theorem l_X12_those_L4 {G : qG} {ρ : qR} (x1 : Int32) (M : qM) (J : qJ) : ∀ (n : Nat) (c2 : Int32) (c3 : Int32) (res : Int32 × Int32), f_X12_those_L4 x1 M n c2 c3 = some res → (∀ x : Int32 × Int32, res = x → QW G (qrm 0 0 0) YX12_those 0 0 43 [none, none, some (.int x.1), none] [] SH M J ρ) → QW G (qrm 0 0 0) YX12_those 0 0 4 [some (.ref 25), some (.int x1), some (.int c2), some (.int c3)] [] SH M J ρ
  | 0, _, _, _, h, _ => by simp [f_X12_those_L4] at h
  | n + 1, c2, c3, res, h, hk => by
    rw [f_X12_those_L4] at h
    refine q_iload_n (pc := 4) dX12_those_4 rfl ?_
    refine q_aload_n (pc := 5) dX12_those_5 rfl ?_
    refine q_getf (pc := 6) (f := 0) (v := .ref 26) dX12_those_6 sh_25 cl_11 inX12 rfl (by decide) lk_X12_7 rfl ?_
    refine q_iconst (pc := 9) (v := nI 1) dX12_those_9 (by decide) ?_
    obtain ⟨v1, h2, h⟩ := Option.bind_eq_some_iff.mp h
    refine q_iald (pc := 10) dX12_those_10 sh_26 h2 ?_
    by_cases k3 : v1 ≤ c3
    · rw [if_pos k3] at h
      refine q_icmp_ge_t (pc := 11) (tgt := 43) dX12_those_11 (by decide) k3 ?_
      refine q_weak (ls' := [none, none, some (.int c2), none]) ⟨rfl, trivial⟩ ?_
      obtain rfl := Option.some.inj h
      exact hk (c2, c3) rfl
    · rw [if_neg k3] at h
      refine q_icmp_ge_f (pc := 11) (tgt := 43) dX12_those_11 (by decide) k3 ?_
      refine q_iload_n (pc := 14) dX12_those_14 rfl ?_
      refine q_aload_n (pc := 15) dX12_those_15 rfl ?_
      refine q_getf (pc := 16) (f := 2) (v := .ref 28) dX12_those_16 sh_25 cl_11 inX12 rfl (by decide) lk_X12_16 rfl ?_
      refine q_bipush (pc := 19) (v := nI 7) dX12_those_19 (by decide) ?_
      refine q_iload_n (pc := 21) dX12_those_21 rfl ?_
      refine q_iadd (pc := 22) dX12_those_22 ?_
      obtain ⟨v4, h5, h⟩ := Option.bind_eq_some_iff.mp h
      refine q_iald (pc := 23) dX12_those_23 sh_28 h5 ?_
      refine q_iload_n (pc := 24) dX12_those_24 rfl ?_
      by_cases k6 : v4 = x1
      · rw [if_pos k6] at h
        refine q_icmp_ne_f (pc := 25) (tgt := 34) dX12_those_25 (by decide) k6 ?_
        refine q_iconst (pc := 28) (v := nI 1) dX12_those_28 (by decide) ?_
        refine q_iload_n (pc := 29) dX12_those_29 rfl ?_
        refine q_ishl (pc := 30) dX12_those_30 ?_
        refine q_goto (pc := 31) (tgt := 35) dX12_those_31 (by decide) ?_
        refine q_ior (pc := 35) dX12_those_35 ?_
        refine q_istore_n (pc := 36) (ls' := [some (.ref 25), some (.int x1), some (.int (c2 ||| ((nI 1) <<< (c3 &&& 31)))), some (.int c3)]) dX12_those_36 (by decide) rfl rfl ?_
        refine q_iincW (pc := 37) (w := nI 1) (ls' := [some (.ref 25), some (.int x1), some (.int (c2 ||| ((nI 1) <<< (c3 &&& 31)))), some (.int (c3 + nI 1))]) dX12_those_37 rfl (by decide) (by decide) rfl rfl ?_
        refine q_goto (pc := 40) (tgt := 4) dX12_those_40 (by decide) ?_
        exact l_X12_those_L4 x1 M J n (c2 ||| ((nI 1) <<< (c3 &&& 31))) (c3 + nI 1) res h hk
      · rw [if_neg k6] at h
        refine q_icmp_ne_t (pc := 25) (tgt := 34) dX12_those_25 (by decide) k6 ?_
        refine q_iconst (pc := 34) (v := nI 0) dX12_those_34 (by decide) ?_
        refine q_ior (pc := 35) dX12_those_35 ?_
        refine q_istore_n (pc := 36) (ls' := [some (.ref 25), some (.int x1), some (.int (c2 ||| (nI 0))), some (.int c3)]) dX12_those_36 (by decide) rfl rfl ?_
        refine q_iincW (pc := 37) (w := nI 1) (ls' := [some (.ref 25), some (.int x1), some (.int (c2 ||| (nI 0))), some (.int (c3 + nI 1))]) dX12_those_37 rfl (by decide) (by decide) rfl rfl ?_
        refine q_goto (pc := 40) (tgt := 4) dX12_those_40 (by decide) ?_
        exact l_X12_those_L4 x1 M J n (c2 ||| (nI 0)) (c3 + nI 1) res h hk
def f_X12_those (a1 : Int32) (M : qM) : Option Int32 :=
  (f_X12_those_L4 a1 M qF (nI 0) (nI 0)).bind fun e7 => some (e7.1)
set_option maxRecDepth 20000 in
set_option maxHeartbeats 4000000 in
theorem a_X12_those {G : qG} {a1 : Int32} {M : qM} {J : qJ} {r : Int32} (h : f_X12_those a1 M = some (r)) : QM G 0 0 0 YX12_those [.ref 25, .int a1] SH M J (some (.int r), SH, M, J) := by
  refine ⟨Nat.le_of_ble_eq_true rfl, Or.inl rfl, ?_⟩
  show QW G (qrm 0 0 0) YX12_those 0 0 0 [some (.ref 25), some (.int a1), none, none] [] SH M J _
  unfold f_X12_those at h
  refine q_iconst (pc := 0) (v := nI 0) dX12_those_0 (by decide) ?_
  refine q_istore_n (pc := 1) (ls' := [some (.ref 25), some (.int a1), some (.int (nI 0)), none]) dX12_those_1 (by decide) rfl rfl ?_
  refine q_iconst (pc := 2) (v := nI 0) dX12_those_2 (by decide) ?_
  refine q_istore_n (pc := 3) (ls' := [some (.ref 25), some (.int a1), some (.int (nI 0)), some (.int (nI 0))]) dX12_those_3 (by decide) rfl rfl ?_
  obtain ⟨⟨e7_2, e7_3⟩, h8, h⟩ := Option.bind_eq_some_iff.mp h
  try dsimp only at h
  refine l_X12_those_L4 a1 M J qF (nI 0) (nI 0) _ h8 (fun x hx => ?_)
  subst hx
  show QW G (qrm 0 0 0) YX12_those 0 0 43 [none, none, some (.int e7_2), none] [] SH M J _
  refine q_iload_n (pc := 43) dX12_those_43 rfl ?_
  obtain rfl := Option.some.inj h
  exact q_iret (pc := 44) dX12_those_44 rfl rfl rfl
def f_X12_has (a0 : Int32) (a1 : Int32) (M : qM) : Option Bool :=
  if ((a0 >>> (a1 &&& 31)) &&& (nI 1)) = (nI 1) then some (true)
    else some (false)
set_option maxRecDepth 20000 in
set_option maxHeartbeats 4000000 in
theorem a_X12_has {G : qG} {a0 : Int32} {a1 : Int32} {M : qM} {J : qJ} {r : Bool} (h : f_X12_has a0 a1 M = some (r)) : QM G 0 0 0 YX12_has [.int a0, .int a1] SH M J (some (.int (qb r)), SH, M, J) := by
  refine ⟨Nat.le_of_ble_eq_true rfl, Or.inr ⟨rfl, _, rfl⟩, ?_⟩
  show QW G (qrm 0 0 0) YX12_has 0 0 0 [some (.int a0), some (.int a1)] [] SH M J _
  unfold f_X12_has at h
  refine q_iload_n (pc := 0) dX12_has_0 rfl ?_
  refine q_iload_n (pc := 1) dX12_has_1 rfl ?_
  refine q_ishr (pc := 2) dX12_has_2 ?_
  refine q_iconst (pc := 3) (v := nI 1) dX12_has_3 (by decide) ?_
  refine q_iand (pc := 4) dX12_has_4 ?_
  refine q_iconst (pc := 5) (v := nI 1) dX12_has_5 (by decide) ?_
  by_cases k1 : ((a0 >>> (a1 &&& 31)) &&& (nI 1)) = (nI 1)
  · rw [if_pos k1] at h
    refine q_icmp_ne_f (pc := 6) (tgt := 13) dX12_has_6 (by decide) k1 ?_
    refine q_iconst (pc := 9) (v := nI 1) dX12_has_9 (by decide) ?_
    refine q_goto (pc := 10) (tgt := 14) dX12_has_10 (by decide) ?_
    obtain rfl := Option.some.inj h
    exact q_iret (pc := 14) dX12_has_14 rfl rfl rfl
  · rw [if_neg k1] at h
    refine q_icmp_ne_t (pc := 6) (tgt := 13) dX12_has_6 (by decide) k1 ?_
    refine q_iconst (pc := 13) (v := nI 0) dX12_has_13 (by decide) ?_
    obtain rfl := Option.some.inj h
    exact q_iret (pc := 14) dX12_has_14 rfl rfl rfl
def f_X12_reasonOn_at25_28_L6 (x2 : Int32) (x3 : Int32) (M : qM) : Nat → Int32 → Int32 → Option (Int32 × Int32)
  | 0, _, _ => none
  | n + 1, c4, c5 =>
  if (nI 5) ≤ c5 then some (c4, c5)
    else (qrd M 26 57 ((nI 39) + x2)).bind fun v2 => if v2 = (nI 3) then some (c4, c5)
    else if c4 = (-1 : Int32) then (qrd M 28 163 ((nI 55) + x2)).bind fun v6 => (f_X12_has v6 c5 M).bind fun b10 => if b10 = true then f_X12_reasonOn_at25_28_L6 x2 x3 M n c5 (c5 + nI 1)
    else f_X12_reasonOn_at25_28_L6 x2 x3 M n c4 (c5 + nI 1)
    else (qrd M 28 163 (((nI 19) + ((nI 5) * x3)) + c5)).bind fun v12 => (qrd M 28 163 (((nI 19) + ((nI 5) * x3)) + c4)).bind fun v14 => if v12 ≤ v14 then (qrd M 28 163 ((nI 55) + x2)).bind fun v17 => (f_X12_has v17 c5 M).bind fun b21 => if b21 = true then f_X12_reasonOn_at25_28_L6 x2 x3 M n c4 (c5 + nI 1)
    else f_X12_reasonOn_at25_28_L6 x2 x3 M n c4 (c5 + nI 1)
    else (qrd M 28 163 ((nI 55) + x2)).bind fun v23 => (f_X12_has v23 c5 M).bind fun b27 => if b27 = true then f_X12_reasonOn_at25_28_L6 x2 x3 M n c5 (c5 + nI 1)
    else f_X12_reasonOn_at25_28_L6 x2 x3 M n c4 (c5 + nI 1)
set_option maxRecDepth 20000 in
set_option maxHeartbeats 4000000 in
theorem l_X12_reasonOn_at25_28_L6 {G : qG} {ρ : qR} (x2 : Int32) (x3 : Int32) (M : qM) (J : qJ) : ∀ (n : Nat) (c4 : Int32) (c5 : Int32) (res : Int32 × Int32), f_X12_reasonOn_at25_28_L6 x2 x3 M n c4 c5 = some res → (∀ x : Int32 × Int32, res = x → QW G (qrm 1 0 0) YX12_reasonOn 0 0 97 [none, none, none, none, some (.int x.1), none, none] [] SH M J ρ) → QW G (qrm 1 0 0) YX12_reasonOn 0 0 6 [some (.ref 25), some (.ref 28), some (.int x2), some (.int x3), some (.int c4), some (.int c5), none] [] SH M J ρ
  | 0, _, _, _, h, _ => by simp [f_X12_reasonOn_at25_28_L6] at h
  | n + 1, c4, c5, res, h, hk => by
    rw [f_X12_reasonOn_at25_28_L6] at h
    refine q_iload (pc := 6) dX12_reasonOn_6 rfl ?_
    refine q_iconst (pc := 8) (v := nI 5) dX12_reasonOn_8 (by decide) ?_
    by_cases k1 : (nI 5) ≤ c5
    · rw [if_pos k1] at h
      refine q_icmp_ge_t (pc := 9) (tgt := 97) dX12_reasonOn_9 (by decide) k1 ?_
      refine q_weak (ls' := [none, none, none, none, some (.int c4), none, none]) ⟨rfl, trivial⟩ ?_
      obtain rfl := Option.some.inj h
      exact hk (c4, c5) rfl
    · rw [if_neg k1] at h
      refine q_icmp_ge_f (pc := 9) (tgt := 97) dX12_reasonOn_9 (by decide) k1 ?_
      refine q_aload_n (pc := 12) dX12_reasonOn_12 rfl ?_
      refine q_getf (pc := 13) (f := 0) (v := .ref 26) dX12_reasonOn_13 sh_25 cl_11 inX12 rfl (by decide) lk_X12_7 rfl ?_
      refine q_bipush (pc := 16) (v := nI 39) dX12_reasonOn_16 (by decide) ?_
      refine q_iload_n (pc := 18) dX12_reasonOn_18 rfl ?_
      refine q_iadd (pc := 19) dX12_reasonOn_19 ?_
      obtain ⟨v2, h3, h⟩ := Option.bind_eq_some_iff.mp h
      refine q_iald (pc := 20) dX12_reasonOn_20 sh_26 h3 ?_
      refine q_iconst (pc := 21) (v := nI 3) dX12_reasonOn_21 (by decide) ?_
      by_cases k4 : v2 = (nI 3)
      · rw [if_pos k4] at h
        refine q_icmp_eq_t (pc := 22) (tgt := 97) dX12_reasonOn_22 (by decide) k4 ?_
        refine q_weak (ls' := [none, none, none, none, some (.int c4), none, none]) ⟨rfl, trivial⟩ ?_
        obtain rfl := Option.some.inj h
        exact hk (c4, c5) rfl
      · rw [if_neg k4] at h
        refine q_icmp_eq_f (pc := 22) (tgt := 97) dX12_reasonOn_22 (by decide) k4 ?_
        refine q_iload (pc := 25) dX12_reasonOn_25 rfl ?_
        refine q_iconst (pc := 27) (v := (-1 : Int32)) dX12_reasonOn_27 (by decide) ?_
        by_cases k5 : c4 = (-1 : Int32)
        · rw [if_pos k5] at h
          refine q_icmp_eq_t (pc := 28) (tgt := 56) dX12_reasonOn_28 (by decide) k5 ?_
          refine q_iconst (pc := 56) (v := nI 1) dX12_reasonOn_56 (by decide) ?_
          refine q_goto (pc := 57) (tgt := 61) dX12_reasonOn_57 (by decide) ?_
          refine q_istore (pc := 61) (ls' := [some (.ref 25), some (.ref 28), some (.int x2), some (.int x3), some (.int c4), some (.int c5), some (.int (nI 1))]) dX12_reasonOn_61 (by decide) rfl rfl ?_
          refine q_aload_n (pc := 63) dX12_reasonOn_63 rfl ?_
          refine q_bipush (pc := 64) (v := nI 55) dX12_reasonOn_64 (by decide) ?_
          refine q_iload_n (pc := 66) dX12_reasonOn_66 rfl ?_
          refine q_iadd (pc := 67) dX12_reasonOn_67 ?_
          obtain ⟨v6, h7, h⟩ := Option.bind_eq_some_iff.mp h
          refine q_iald (pc := 68) dX12_reasonOn_68 sh_28 h7 ?_
          refine q_iload (pc := 69) dX12_reasonOn_69 rfl ?_
          obtain ⟨b10, h9, h⟩ := Option.bind_eq_some_iff.mp h
          refine q_calls (pc := 71) (st := []) (a_X12_has h9) okX12_has rfl dX12_reasonOn_71 lk_X12_132 rfl (by decide) (by decide) (Nat.le_of_ble_eq_true rfl) ⟨Nat.le_of_ble_eq_true rfl, Nat.le_of_ble_eq_true rfl⟩ rfl ?_
          show QW G (qrm 1 0 0) YX12_reasonOn 0 0 74 [some (.ref 25), some (.ref 28), some (.int x2), some (.int x3), some (.int c4), some (.int c5), some (.int (nI 1))] [.int (qb b10)] SH M J _
          by_cases k11 : b10 = true
          · rw [if_pos k11] at h
            refine q_if_eq_f (pc := 74) (tgt := 87) dX12_reasonOn_74 (by decide) (qb_t k11) ?_
            refine q_iload (pc := 77) dX12_reasonOn_77 rfl ?_
            refine q_if_eq_f (pc := 79) (tgt := 87) dX12_reasonOn_79 (by decide) (by decide) ?_
            refine q_iload (pc := 82) dX12_reasonOn_82 rfl ?_
            refine q_goto (pc := 84) (tgt := 89) dX12_reasonOn_84 (by decide) ?_
            refine q_istore (pc := 89) (ls' := [some (.ref 25), some (.ref 28), some (.int x2), some (.int x3), some (.int c5), some (.int c5), some (.int (nI 1))]) dX12_reasonOn_89 (by decide) rfl rfl ?_
            refine q_iincW (pc := 91) (w := nI 1) (ls' := [some (.ref 25), some (.ref 28), some (.int x2), some (.int x3), some (.int c5), some (.int (c5 + nI 1)), some (.int (nI 1))]) dX12_reasonOn_91 rfl (by decide) (by decide) rfl rfl ?_
            refine q_goto (pc := 94) (tgt := 6) dX12_reasonOn_94 (by decide) ?_
            refine q_weak (ls' := [some (.ref 25), some (.ref 28), some (.int x2), some (.int x3), some (.int c5), some (.int (c5 + nI 1)), none]) ⟨rfl, ⟨rfl, ⟨rfl, ⟨rfl, ⟨rfl, ⟨rfl, trivial⟩⟩⟩⟩⟩⟩ ?_
            exact l_X12_reasonOn_at25_28_L6 x2 x3 M J n c5 (c5 + nI 1) res h hk
          · rw [if_neg k11] at h
            refine q_if_eq_t (pc := 74) (tgt := 87) dX12_reasonOn_74 (by decide) (qb_f k11) ?_
            refine q_iload (pc := 87) dX12_reasonOn_87 rfl ?_
            refine q_istore (pc := 89) (ls' := [some (.ref 25), some (.ref 28), some (.int x2), some (.int x3), some (.int c4), some (.int c5), some (.int (nI 1))]) dX12_reasonOn_89 (by decide) rfl rfl ?_
            refine q_iincW (pc := 91) (w := nI 1) (ls' := [some (.ref 25), some (.ref 28), some (.int x2), some (.int x3), some (.int c4), some (.int (c5 + nI 1)), some (.int (nI 1))]) dX12_reasonOn_91 rfl (by decide) (by decide) rfl rfl ?_
            refine q_goto (pc := 94) (tgt := 6) dX12_reasonOn_94 (by decide) ?_
            refine q_weak (ls' := [some (.ref 25), some (.ref 28), some (.int x2), some (.int x3), some (.int c4), some (.int (c5 + nI 1)), none]) ⟨rfl, ⟨rfl, ⟨rfl, ⟨rfl, ⟨rfl, ⟨rfl, trivial⟩⟩⟩⟩⟩⟩ ?_
            exact l_X12_reasonOn_at25_28_L6 x2 x3 M J n c4 (c5 + nI 1) res h hk
        · rw [if_neg k5] at h
          refine q_icmp_eq_f (pc := 28) (tgt := 56) dX12_reasonOn_28 (by decide) k5 ?_
          refine q_aload_n (pc := 31) dX12_reasonOn_31 rfl ?_
          refine q_bipush (pc := 32) (v := nI 19) dX12_reasonOn_32 (by decide) ?_
          refine q_iconst (pc := 34) (v := nI 5) dX12_reasonOn_34 (by decide) ?_
          refine q_iload_n (pc := 35) dX12_reasonOn_35 rfl ?_
          refine q_imul (pc := 36) dX12_reasonOn_36 ?_
          refine q_iadd (pc := 37) dX12_reasonOn_37 ?_
          refine q_iload (pc := 38) dX12_reasonOn_38 rfl ?_
          refine q_iadd (pc := 40) dX12_reasonOn_40 ?_
          obtain ⟨v12, h13, h⟩ := Option.bind_eq_some_iff.mp h
          refine q_iald (pc := 41) dX12_reasonOn_41 sh_28 h13 ?_
          refine q_aload_n (pc := 42) dX12_reasonOn_42 rfl ?_
          refine q_bipush (pc := 43) (v := nI 19) dX12_reasonOn_43 (by decide) ?_
          refine q_iconst (pc := 45) (v := nI 5) dX12_reasonOn_45 (by decide) ?_
          refine q_iload_n (pc := 46) dX12_reasonOn_46 rfl ?_
          refine q_imul (pc := 47) dX12_reasonOn_47 ?_
          refine q_iadd (pc := 48) dX12_reasonOn_48 ?_
          refine q_iload (pc := 49) dX12_reasonOn_49 rfl ?_
          refine q_iadd (pc := 51) dX12_reasonOn_51 ?_
          obtain ⟨v14, h15, h⟩ := Option.bind_eq_some_iff.mp h
          refine q_iald (pc := 52) dX12_reasonOn_52 sh_28 h15 ?_
          by_cases k16 : v12 ≤ v14
          · rw [if_pos k16] at h
            refine q_icmp_le_t (pc := 53) (tgt := 60) dX12_reasonOn_53 (by decide) k16 ?_
            refine q_iconst (pc := 60) (v := nI 0) dX12_reasonOn_60 (by decide) ?_
            refine q_istore (pc := 61) (ls' := [some (.ref 25), some (.ref 28), some (.int x2), some (.int x3), some (.int c4), some (.int c5), some (.int (nI 0))]) dX12_reasonOn_61 (by decide) rfl rfl ?_
            refine q_aload_n (pc := 63) dX12_reasonOn_63 rfl ?_
            refine q_bipush (pc := 64) (v := nI 55) dX12_reasonOn_64 (by decide) ?_
            refine q_iload_n (pc := 66) dX12_reasonOn_66 rfl ?_
            refine q_iadd (pc := 67) dX12_reasonOn_67 ?_
            obtain ⟨v17, h18, h⟩ := Option.bind_eq_some_iff.mp h
            refine q_iald (pc := 68) dX12_reasonOn_68 sh_28 h18 ?_
            refine q_iload (pc := 69) dX12_reasonOn_69 rfl ?_
            obtain ⟨b21, h20, h⟩ := Option.bind_eq_some_iff.mp h
            refine q_calls (pc := 71) (st := []) (a_X12_has h20) okX12_has rfl dX12_reasonOn_71 lk_X12_132 rfl (by decide) (by decide) (Nat.le_of_ble_eq_true rfl) ⟨Nat.le_of_ble_eq_true rfl, Nat.le_of_ble_eq_true rfl⟩ rfl ?_
            show QW G (qrm 1 0 0) YX12_reasonOn 0 0 74 [some (.ref 25), some (.ref 28), some (.int x2), some (.int x3), some (.int c4), some (.int c5), some (.int (nI 0))] [.int (qb b21)] SH M J _
            by_cases k22 : b21 = true
            · rw [if_pos k22] at h
              refine q_if_eq_f (pc := 74) (tgt := 87) dX12_reasonOn_74 (by decide) (qb_t k22) ?_
              refine q_iload (pc := 77) dX12_reasonOn_77 rfl ?_
              refine q_if_eq_t (pc := 79) (tgt := 87) dX12_reasonOn_79 (by decide) (by decide) ?_
              refine q_iload (pc := 87) dX12_reasonOn_87 rfl ?_
              refine q_istore (pc := 89) (ls' := [some (.ref 25), some (.ref 28), some (.int x2), some (.int x3), some (.int c4), some (.int c5), some (.int (nI 0))]) dX12_reasonOn_89 (by decide) rfl rfl ?_
              refine q_iincW (pc := 91) (w := nI 1) (ls' := [some (.ref 25), some (.ref 28), some (.int x2), some (.int x3), some (.int c4), some (.int (c5 + nI 1)), some (.int (nI 0))]) dX12_reasonOn_91 rfl (by decide) (by decide) rfl rfl ?_
              refine q_goto (pc := 94) (tgt := 6) dX12_reasonOn_94 (by decide) ?_
              refine q_weak (ls' := [some (.ref 25), some (.ref 28), some (.int x2), some (.int x3), some (.int c4), some (.int (c5 + nI 1)), none]) ⟨rfl, ⟨rfl, ⟨rfl, ⟨rfl, ⟨rfl, ⟨rfl, trivial⟩⟩⟩⟩⟩⟩ ?_
              exact l_X12_reasonOn_at25_28_L6 x2 x3 M J n c4 (c5 + nI 1) res h hk
            · rw [if_neg k22] at h
              refine q_if_eq_t (pc := 74) (tgt := 87) dX12_reasonOn_74 (by decide) (qb_f k22) ?_
              refine q_iload (pc := 87) dX12_reasonOn_87 rfl ?_
              refine q_istore (pc := 89) (ls' := [some (.ref 25), some (.ref 28), some (.int x2), some (.int x3), some (.int c4), some (.int c5), some (.int (nI 0))]) dX12_reasonOn_89 (by decide) rfl rfl ?_
              refine q_iincW (pc := 91) (w := nI 1) (ls' := [some (.ref 25), some (.ref 28), some (.int x2), some (.int x3), some (.int c4), some (.int (c5 + nI 1)), some (.int (nI 0))]) dX12_reasonOn_91 rfl (by decide) (by decide) rfl rfl ?_
              refine q_goto (pc := 94) (tgt := 6) dX12_reasonOn_94 (by decide) ?_
              refine q_weak (ls' := [some (.ref 25), some (.ref 28), some (.int x2), some (.int x3), some (.int c4), some (.int (c5 + nI 1)), none]) ⟨rfl, ⟨rfl, ⟨rfl, ⟨rfl, ⟨rfl, ⟨rfl, trivial⟩⟩⟩⟩⟩⟩ ?_
              exact l_X12_reasonOn_at25_28_L6 x2 x3 M J n c4 (c5 + nI 1) res h hk
          · rw [if_neg k16] at h
            refine q_icmp_le_f (pc := 53) (tgt := 60) dX12_reasonOn_53 (by decide) k16 ?_
            refine q_iconst (pc := 56) (v := nI 1) dX12_reasonOn_56 (by decide) ?_
            refine q_goto (pc := 57) (tgt := 61) dX12_reasonOn_57 (by decide) ?_
            refine q_istore (pc := 61) (ls' := [some (.ref 25), some (.ref 28), some (.int x2), some (.int x3), some (.int c4), some (.int c5), some (.int (nI 1))]) dX12_reasonOn_61 (by decide) rfl rfl ?_
            refine q_aload_n (pc := 63) dX12_reasonOn_63 rfl ?_
            refine q_bipush (pc := 64) (v := nI 55) dX12_reasonOn_64 (by decide) ?_
            refine q_iload_n (pc := 66) dX12_reasonOn_66 rfl ?_
            refine q_iadd (pc := 67) dX12_reasonOn_67 ?_
            obtain ⟨v23, h24, h⟩ := Option.bind_eq_some_iff.mp h
            refine q_iald (pc := 68) dX12_reasonOn_68 sh_28 h24 ?_
            refine q_iload (pc := 69) dX12_reasonOn_69 rfl ?_
            obtain ⟨b27, h26, h⟩ := Option.bind_eq_some_iff.mp h
            refine q_calls (pc := 71) (st := []) (a_X12_has h26) okX12_has rfl dX12_reasonOn_71 lk_X12_132 rfl (by decide) (by decide) (Nat.le_of_ble_eq_true rfl) ⟨Nat.le_of_ble_eq_true rfl, Nat.le_of_ble_eq_true rfl⟩ rfl ?_
            show QW G (qrm 1 0 0) YX12_reasonOn 0 0 74 [some (.ref 25), some (.ref 28), some (.int x2), some (.int x3), some (.int c4), some (.int c5), some (.int (nI 1))] [.int (qb b27)] SH M J _
            by_cases k28 : b27 = true
            · rw [if_pos k28] at h
              refine q_if_eq_f (pc := 74) (tgt := 87) dX12_reasonOn_74 (by decide) (qb_t k28) ?_
              refine q_iload (pc := 77) dX12_reasonOn_77 rfl ?_
              refine q_if_eq_f (pc := 79) (tgt := 87) dX12_reasonOn_79 (by decide) (by decide) ?_
              refine q_iload (pc := 82) dX12_reasonOn_82 rfl ?_
              refine q_goto (pc := 84) (tgt := 89) dX12_reasonOn_84 (by decide) ?_
              refine q_istore (pc := 89) (ls' := [some (.ref 25), some (.ref 28), some (.int x2), some (.int x3), some (.int c5), some (.int c5), some (.int (nI 1))]) dX12_reasonOn_89 (by decide) rfl rfl ?_
              refine q_iincW (pc := 91) (w := nI 1) (ls' := [some (.ref 25), some (.ref 28), some (.int x2), some (.int x3), some (.int c5), some (.int (c5 + nI 1)), some (.int (nI 1))]) dX12_reasonOn_91 rfl (by decide) (by decide) rfl rfl ?_
              refine q_goto (pc := 94) (tgt := 6) dX12_reasonOn_94 (by decide) ?_
              refine q_weak (ls' := [some (.ref 25), some (.ref 28), some (.int x2), some (.int x3), some (.int c5), some (.int (c5 + nI 1)), none]) ⟨rfl, ⟨rfl, ⟨rfl, ⟨rfl, ⟨rfl, ⟨rfl, trivial⟩⟩⟩⟩⟩⟩ ?_
              exact l_X12_reasonOn_at25_28_L6 x2 x3 M J n c5 (c5 + nI 1) res h hk
            · rw [if_neg k28] at h
              refine q_if_eq_t (pc := 74) (tgt := 87) dX12_reasonOn_74 (by decide) (qb_f k28) ?_
              refine q_iload (pc := 87) dX12_reasonOn_87 rfl ?_
              refine q_istore (pc := 89) (ls' := [some (.ref 25), some (.ref 28), some (.int x2), some (.int x3), some (.int c4), some (.int c5), some (.int (nI 1))]) dX12_reasonOn_89 (by decide) rfl rfl ?_
              refine q_iincW (pc := 91) (w := nI 1) (ls' := [some (.ref 25), some (.ref 28), some (.int x2), some (.int x3), some (.int c4), some (.int (c5 + nI 1)), some (.int (nI 1))]) dX12_reasonOn_91 rfl (by decide) (by decide) rfl rfl ?_
              refine q_goto (pc := 94) (tgt := 6) dX12_reasonOn_94 (by decide) ?_
              refine q_weak (ls' := [some (.ref 25), some (.ref 28), some (.int x2), some (.int x3), some (.int c4), some (.int (c5 + nI 1)), none]) ⟨rfl, ⟨rfl, ⟨rfl, ⟨rfl, ⟨rfl, ⟨rfl, trivial⟩⟩⟩⟩⟩⟩ ?_
              exact l_X12_reasonOn_at25_28_L6 x2 x3 M J n c4 (c5 + nI 1) res h hk
def f_X12_reasonOn_at25_28 (a2 : Int32) (a3 : Int32) (M : qM) : Option Int32 :=
  (f_X12_reasonOn_at25_28_L6 a2 a3 M qF (-1 : Int32) (nI 0)).bind fun e29 => some (e29.1)
set_option maxRecDepth 20000 in
set_option maxHeartbeats 4000000 in
theorem a_X12_reasonOn_at25_28 {G : qG} {a2 : Int32} {a3 : Int32} {M : qM} {J : qJ} {r : Int32} (h : f_X12_reasonOn_at25_28 a2 a3 M = some (r)) : QM G 1 0 0 YX12_reasonOn [.ref 25, .ref 28, .int a2, .int a3] SH M J (some (.int r), SH, M, J) := by
  refine ⟨Nat.le_of_ble_eq_true rfl, Or.inl rfl, ?_⟩
  show QW G (qrm 1 0 0) YX12_reasonOn 0 0 0 [some (.ref 25), some (.ref 28), some (.int a2), some (.int a3), none, none, none] [] SH M J _
  unfold f_X12_reasonOn_at25_28 at h
  refine q_iconst (pc := 0) (v := (-1 : Int32)) dX12_reasonOn_0 (by decide) ?_
  refine q_istore (pc := 1) (ls' := [some (.ref 25), some (.ref 28), some (.int a2), some (.int a3), some (.int (-1 : Int32)), none, none]) dX12_reasonOn_1 (by decide) rfl rfl ?_
  refine q_iconst (pc := 3) (v := nI 0) dX12_reasonOn_3 (by decide) ?_
  refine q_istore (pc := 4) (ls' := [some (.ref 25), some (.ref 28), some (.int a2), some (.int a3), some (.int (-1 : Int32)), some (.int (nI 0)), none]) dX12_reasonOn_4 (by decide) rfl rfl ?_
  obtain ⟨⟨e29_4, e29_5⟩, h30, h⟩ := Option.bind_eq_some_iff.mp h
  try dsimp only at h
  refine l_X12_reasonOn_at25_28_L6 a2 a3 M J qF (-1 : Int32) (nI 0) _ h30 (fun x hx => ?_)
  subst hx
  show QW G (qrm 1 0 0) YX12_reasonOn 0 0 97 [none, none, none, none, some (.int e29_4), none, none] [] SH M J _
  refine q_iload (pc := 97) dX12_reasonOn_97 rfl ?_
  obtain rfl := Option.some.inj h
  exact q_iret (pc := 99) dX12_reasonOn_99 rfl rfl rfl
def f_X12_strengthBy (a0 : Int32) (a1 : Int32) (a2 : Int32) (M : qM) : Option Int32 :=
  if a0 = nI 0 then some (a2 + a1)
    else if a0 = nI 1 then (qdiv a1 (nI 2)).bind fun v3 => some (((nI 2) * a2) + v3)
    else if a0 = nI 2 then (qdiv (a2 * a1) (nI 4)).bind fun v6 => some (v6)
    else some (a1)
set_option maxRecDepth 20000 in
set_option maxHeartbeats 4000000 in
theorem a_X12_strengthBy {G : qG} {a0 : Int32} {a1 : Int32} {a2 : Int32} {M : qM} {J : qJ} {r : Int32} (h : f_X12_strengthBy a0 a1 a2 M = some (r)) : QM G 0 0 0 YX12_strengthBy [.int a0, .int a1, .int a2] SH M J (some (.int r), SH, M, J) := by
  refine ⟨Nat.le_of_ble_eq_true rfl, Or.inl rfl, ?_⟩
  show QW G (qrm 0 0 0) YX12_strengthBy 0 0 0 [some (.int a0), some (.int a1), some (.int a2)] [] SH M J _
  unfold f_X12_strengthBy at h
  refine q_iload_n (pc := 0) dX12_strengthBy_0 rfl ?_
  by_cases k1 : a0 = nI 0
  · rw [if_pos k1] at h
    refine q_tabIn (pc := 1) (tgt := 28) (off := 27) (j := 0) dX12_strengthBy_1 (by rw [k1]; rfl) (by decide) (by decide) rfl (by decide) ?_
    refine q_iload_n (pc := 28) dX12_strengthBy_28 rfl ?_
    refine q_iload_n (pc := 29) dX12_strengthBy_29 rfl ?_
    refine q_iadd (pc := 30) dX12_strengthBy_30 ?_
    obtain rfl := Option.some.inj h
    exact q_iret (pc := 31) dX12_strengthBy_31 rfl rfl rfl
  · rw [if_neg k1] at h
    by_cases k2 : a0 = nI 1
    · rw [if_pos k2] at h
      refine q_tabIn (pc := 1) (tgt := 32) (off := 31) (j := 1) dX12_strengthBy_1 (by rw [k2]; rfl) (by decide) (by decide) rfl (by decide) ?_
      refine q_iconst (pc := 32) (v := nI 2) dX12_strengthBy_32 (by decide) ?_
      refine q_iload_n (pc := 33) dX12_strengthBy_33 rfl ?_
      refine q_imul (pc := 34) dX12_strengthBy_34 ?_
      refine q_iload_n (pc := 35) dX12_strengthBy_35 rfl ?_
      refine q_iconst (pc := 36) (v := nI 2) dX12_strengthBy_36 (by decide) ?_
      obtain ⟨v3, h4, h⟩ := Option.bind_eq_some_iff.mp h
      refine q_idiv (pc := 37) dX12_strengthBy_37 h4 ?_
      refine q_iadd (pc := 38) dX12_strengthBy_38 ?_
      obtain rfl := Option.some.inj h
      exact q_iret (pc := 39) dX12_strengthBy_39 rfl rfl rfl
    · rw [if_neg k2] at h
      by_cases k5 : a0 = nI 2
      · rw [if_pos k5] at h
        refine q_tabIn (pc := 1) (tgt := 40) (off := 39) (j := 2) dX12_strengthBy_1 (by rw [k5]; rfl) (by decide) (by decide) rfl (by decide) ?_
        refine q_iload_n (pc := 40) dX12_strengthBy_40 rfl ?_
        refine q_iload_n (pc := 41) dX12_strengthBy_41 rfl ?_
        refine q_imul (pc := 42) dX12_strengthBy_42 ?_
        refine q_iconst (pc := 43) (v := nI 4) dX12_strengthBy_43 (by decide) ?_
        obtain ⟨v6, h7, h⟩ := Option.bind_eq_some_iff.mp h
        refine q_idiv (pc := 44) dX12_strengthBy_44 h7 ?_
        obtain rfl := Option.some.inj h
        exact q_iret (pc := 45) dX12_strengthBy_45 rfl rfl rfl
      · rw [if_neg k5] at h
        have hsw : a0.toInt < (0) ∨ (2) < a0.toInt := by
          have := lv_neT k1 (show (nI 0).toInt = 0 from rfl)
          have := lv_neT k2 (show (nI 1).toInt = 1 from rfl)
          have := lv_neT k5 (show (nI 2).toInt = 2 from rfl)
          omega
        refine q_tabOut (pc := 1) (tgt := 46) dX12_strengthBy_1 hsw (by decide) ?_
        refine q_iload_n (pc := 46) dX12_strengthBy_46 rfl ?_
        obtain rfl := Option.some.inj h
        exact q_iret (pc := 47) dX12_strengthBy_47 rfl rfl rfl
def f_X12_strengthOn_at25_28 (a2 : Int32) (a3 : Int32) (M : qM) : Option Int32 :=
  (f_X12_reasonOn_at25_28 a2 a3 M).bind fun r3 => (qrd M 26 57 ((nI 39) + a2)).bind fun v4 => (qrd M 28 163 ((nI 49) + a2)).bind fun v6 => if r3 = (-1 : Int32) then (f_X12_strengthBy v4 v6 (nI 0) M).bind fun r11 => some (r11)
    else (qrd M 28 163 (((nI 19) + ((nI 5) * a3)) + r3)).bind fun v12 => (f_X12_strengthBy v4 v6 v12 M).bind fun r16 => some (r16)
set_option maxRecDepth 20000 in
set_option maxHeartbeats 4000000 in
theorem a_X12_strengthOn_at25_28 {G : qG} {a2 : Int32} {a3 : Int32} {M : qM} {J : qJ} {r : Int32} (h : f_X12_strengthOn_at25_28 a2 a3 M = some (r)) : QM G 2 0 0 YX12_strengthOn [.ref 25, .ref 28, .int a2, .int a3] SH M J (some (.int r), SH, M, J) := by
  refine ⟨Nat.le_of_ble_eq_true rfl, Or.inl rfl, ?_⟩
  show QW G (qrm 2 0 0) YX12_strengthOn 0 0 0 [some (.ref 25), some (.ref 28), some (.int a2), some (.int a3), none] [] SH M J _
  unfold f_X12_strengthOn_at25_28 at h
  refine q_aload_n (pc := 0) dX12_strengthOn_0 rfl ?_
  refine q_aload_n (pc := 1) dX12_strengthOn_1 rfl ?_
  refine q_iload_n (pc := 2) dX12_strengthOn_2 rfl ?_
  refine q_iload_n (pc := 3) dX12_strengthOn_3 rfl ?_
  obtain ⟨r3, h2, h⟩ := Option.bind_eq_some_iff.mp h
  refine q_callv (pc := 4) (st := []) (a_X12_reasonOn_at25_28 h2) okX12_reasonOn rfl dX12_strengthOn_4 lk_X12_136 sh_25 cl_11 rfl (by decide) (by decide) (Nat.le_of_ble_eq_true rfl) ⟨Nat.le_of_ble_eq_true rfl, Nat.le_of_ble_eq_true rfl⟩ rfl ?_
  show QW G (qrm 2 0 0) YX12_strengthOn 0 0 7 [some (.ref 25), some (.ref 28), some (.int a2), some (.int a3), none] [.int r3] SH M J _
  refine q_istore (pc := 7) (ls' := [some (.ref 25), some (.ref 28), some (.int a2), some (.int a3), some (.int r3)]) dX12_strengthOn_7 (by decide) rfl rfl ?_
  refine q_aload_n (pc := 9) dX12_strengthOn_9 rfl ?_
  refine q_getf (pc := 10) (f := 0) (v := .ref 26) dX12_strengthOn_10 sh_25 cl_11 inX12 rfl (by decide) lk_X12_7 rfl ?_
  refine q_bipush (pc := 13) (v := nI 39) dX12_strengthOn_13 (by decide) ?_
  refine q_iload_n (pc := 15) dX12_strengthOn_15 rfl ?_
  refine q_iadd (pc := 16) dX12_strengthOn_16 ?_
  obtain ⟨v4, h5, h⟩ := Option.bind_eq_some_iff.mp h
  refine q_iald (pc := 17) dX12_strengthOn_17 sh_26 h5 ?_
  refine q_aload_n (pc := 18) dX12_strengthOn_18 rfl ?_
  refine q_bipush (pc := 19) (v := nI 49) dX12_strengthOn_19 (by decide) ?_
  refine q_iload_n (pc := 21) dX12_strengthOn_21 rfl ?_
  refine q_iadd (pc := 22) dX12_strengthOn_22 ?_
  obtain ⟨v6, h7, h⟩ := Option.bind_eq_some_iff.mp h
  refine q_iald (pc := 23) dX12_strengthOn_23 sh_28 h7 ?_
  refine q_iload (pc := 24) dX12_strengthOn_24 rfl ?_
  refine q_iconst (pc := 26) (v := (-1 : Int32)) dX12_strengthOn_26 (by decide) ?_
  by_cases k8 : r3 = (-1 : Int32)
  · rw [if_pos k8] at h
    refine q_icmp_ne_f (pc := 27) (tgt := 34) dX12_strengthOn_27 (by decide) k8 ?_
    refine q_iconst (pc := 30) (v := nI 0) dX12_strengthOn_30 (by decide) ?_
    refine q_goto (pc := 31) (tgt := 45) dX12_strengthOn_31 (by decide) ?_
    obtain ⟨r11, h10, h⟩ := Option.bind_eq_some_iff.mp h
    refine q_calls (pc := 45) (st := []) (a_X12_strengthBy h10) okX12_strengthBy rfl dX12_strengthOn_45 lk_X12_140 rfl (by decide) (by decide) (Nat.le_of_ble_eq_true rfl) ⟨Nat.le_of_ble_eq_true rfl, Nat.le_of_ble_eq_true rfl⟩ rfl ?_
    show QW G (qrm 2 0 0) YX12_strengthOn 0 0 48 [some (.ref 25), some (.ref 28), some (.int a2), some (.int a3), some (.int r3)] [.int r11] SH M J _
    obtain rfl := Option.some.inj h
    exact q_iret (pc := 48) dX12_strengthOn_48 rfl rfl rfl
  · rw [if_neg k8] at h
    refine q_icmp_ne_t (pc := 27) (tgt := 34) dX12_strengthOn_27 (by decide) k8 ?_
    refine q_aload_n (pc := 34) dX12_strengthOn_34 rfl ?_
    refine q_bipush (pc := 35) (v := nI 19) dX12_strengthOn_35 (by decide) ?_
    refine q_iconst (pc := 37) (v := nI 5) dX12_strengthOn_37 (by decide) ?_
    refine q_iload_n (pc := 38) dX12_strengthOn_38 rfl ?_
    refine q_imul (pc := 39) dX12_strengthOn_39 ?_
    refine q_iadd (pc := 40) dX12_strengthOn_40 ?_
    refine q_iload (pc := 41) dX12_strengthOn_41 rfl ?_
    refine q_iadd (pc := 43) dX12_strengthOn_43 ?_
    obtain ⟨v12, h13, h⟩ := Option.bind_eq_some_iff.mp h
    refine q_iald (pc := 44) dX12_strengthOn_44 sh_28 h13 ?_
    obtain ⟨r16, h15, h⟩ := Option.bind_eq_some_iff.mp h
    refine q_calls (pc := 45) (st := []) (a_X12_strengthBy h15) okX12_strengthBy rfl dX12_strengthOn_45 lk_X12_140 rfl (by decide) (by decide) (Nat.le_of_ble_eq_true rfl) ⟨Nat.le_of_ble_eq_true rfl, Nat.le_of_ble_eq_true rfl⟩ rfl ?_
    show QW G (qrm 2 0 0) YX12_strengthOn 0 0 48 [some (.ref 25), some (.ref 28), some (.int a2), some (.int a3), some (.int r3)] [.int r16] SH M J _
    obtain rfl := Option.some.inj h
    exact q_iret (pc := 48) dX12_strengthOn_48 rfl rfl rfl
