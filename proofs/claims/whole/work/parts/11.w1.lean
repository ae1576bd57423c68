def f_X5_reasonOf_L16 (x1 : Int32) (x2 : Int32) (M : qM) : Nat → Int32 → Int32 → Option (Int32 × Int32)
  | 0, _, _ => none
  | n + 1, c3, c4 =>
  if (nI 5) ≤ c4 then some (c3, c4)
    else (f_X5_known x1 M).bind fun r8 => if ((r8 >>> (c4 &&& 31)) &&& (nI 1)) = (nI 1) then if c3 = (-1 : Int32) then f_X5_reasonOf_L16 x1 x2 M n c4 (c4 + nI 1)
    else (f_X5_weight x2 c4 M).bind fun r13 => (f_X5_weight x2 c3 M).bind fun r16 => if r13 ≤ r16 then f_X5_reasonOf_L16 x1 x2 M n c3 (c4 + nI 1)
    else f_X5_reasonOf_L16 x1 x2 M n c4 (c4 + nI 1)
    else f_X5_reasonOf_L16 x1 x2 M n c3 (c4 + nI 1)
set_option maxRecDepth 20000 in
set_option maxHeartbeats 4000000 in
theorem l_X5_reasonOf_L16 {G : qG} {ρ : qR} (x1 : Int32) (x2 : Int32) (M : qM) (J : qJ) : ∀ (n : Nat) (c3 : Int32) (c4 : Int32) (res : Int32 × Int32), f_X5_reasonOf_L16 x1 x2 M n c3 c4 = some res → (∀ x : Int32 × Int32, res = x → QW G (qrm 1 0 0) YX5_reasonOf 0 0 78 [none, none, none, some (.int x.1), none, none] [] SH M J ρ) → QW G (qrm 1 0 0) YX5_reasonOf 0 0 16 [some (.ref 1), some (.int x1), some (.int x2), some (.int c3), some (.int c4), none] [] SH M J ρ
  | 0, _, _, _, h, _ => by simp [f_X5_reasonOf_L16] at h
  | n + 1, c3, c4, res, h, hk => by
    rw [f_X5_reasonOf_L16] at h
    refine q_iload (pc := 16) dX5_reasonOf_16 rfl ?_
    refine q_iconst (pc := 18) (v := nI 5) dX5_reasonOf_18 (by decide) ?_
    by_cases k5 : (nI 5) ≤ c4
    · rw [if_pos k5] at h
      refine q_icmp_ge_t (pc := 19) (tgt := 78) dX5_reasonOf_19 (by decide) k5 ?_
      refine q_weak (ls' := [none, none, none, some (.int c3), none, none]) ⟨rfl, trivial⟩ ?_
      obtain rfl := Option.some.inj h
      exact hk (c3, c4) rfl
    · rw [if_neg k5] at h
      refine q_icmp_ge_f (pc := 19) (tgt := 78) dX5_reasonOf_19 (by decide) k5 ?_
      refine q_aload_n (pc := 22) dX5_reasonOf_22 rfl ?_
      refine q_iload_n (pc := 23) dX5_reasonOf_23 rfl ?_
      obtain ⟨r8, h7, h⟩ := Option.bind_eq_some_iff.mp h
      refine q_callv (pc := 24) (st := []) (a_X5_known h7) okX5_known rfl dX5_reasonOf_24 lk_X5_38 sh_1 cl_5 rfl (by decide) (by decide) (Nat.le_of_ble_eq_true rfl) ⟨Nat.le_of_ble_eq_true rfl, Nat.le_of_ble_eq_true rfl⟩ rfl ?_
      show QW G (qrm 1 0 0) YX5_reasonOf 0 0 27 [some (.ref 1), some (.int x1), some (.int x2), some (.int c3), some (.int c4), none] [.int r8] SH M J _
      refine q_iload (pc := 27) dX5_reasonOf_27 rfl ?_
      refine q_ishr (pc := 29) dX5_reasonOf_29 ?_
      refine q_iconst (pc := 30) (v := nI 1) dX5_reasonOf_30 (by decide) ?_
      refine q_iand (pc := 31) dX5_reasonOf_31 ?_
      refine q_iconst (pc := 32) (v := nI 1) dX5_reasonOf_32 (by decide) ?_
      by_cases k9 : ((r8 >>> (c4 &&& 31)) &&& (nI 1)) = (nI 1)
      · rw [if_pos k9] at h
        refine q_icmp_ne_f (pc := 33) (tgt := 40) dX5_reasonOf_33 (by decide) k9 ?_
        refine q_iconst (pc := 36) (v := nI 1) dX5_reasonOf_36 (by decide) ?_
        refine q_goto (pc := 37) (tgt := 41) dX5_reasonOf_37 (by decide) ?_
        refine q_istore (pc := 41) (ls' := [some (.ref 1), some (.int x1), some (.int x2), some (.int c3), some (.int c4), some (.int (nI 1))]) dX5_reasonOf_41 (by decide) rfl rfl ?_
        refine q_iload (pc := 43) dX5_reasonOf_43 rfl ?_
        refine q_if_eq_f (pc := 45) (tgt := 72) dX5_reasonOf_45 (by decide) (by decide) ?_
        refine q_iload_n (pc := 48) dX5_reasonOf_48 rfl ?_
        refine q_iconst (pc := 49) (v := (-1 : Int32)) dX5_reasonOf_49 (by decide) ?_
        by_cases k10 : c3 = (-1 : Int32)
        · rw [if_pos k10] at h
          refine q_icmp_eq_t (pc := 50) (tgt := 69) dX5_reasonOf_50 (by decide) k10 ?_
          refine q_iload (pc := 69) dX5_reasonOf_69 rfl ?_
          refine q_istore_n (pc := 71) (ls' := [some (.ref 1), some (.int x1), some (.int x2), some (.int c4), some (.int c4), some (.int (nI 1))]) dX5_reasonOf_71 (by decide) rfl rfl ?_
          refine q_iincW (pc := 72) (w := nI 1) (ls' := [some (.ref 1), some (.int x1), some (.int x2), some (.int c4), some (.int (c4 + nI 1)), some (.int (nI 1))]) dX5_reasonOf_72 rfl (by decide) (by decide) rfl rfl ?_
          refine q_goto (pc := 75) (tgt := 16) dX5_reasonOf_75 (by decide) ?_
          refine q_weak (ls' := [some (.ref 1), some (.int x1), some (.int x2), some (.int c4), some (.int (c4 + nI 1)), none]) ⟨rfl, ⟨rfl, ⟨rfl, ⟨rfl, ⟨rfl, trivial⟩⟩⟩⟩⟩ ?_
          exact l_X5_reasonOf_L16 x1 x2 M J n c4 (c4 + nI 1) res h hk
        · rw [if_neg k10] at h
          refine q_icmp_eq_f (pc := 50) (tgt := 69) dX5_reasonOf_50 (by decide) k10 ?_
          refine q_aload_n (pc := 53) dX5_reasonOf_53 rfl ?_
          refine q_iload_n (pc := 54) dX5_reasonOf_54 rfl ?_
          refine q_iload (pc := 55) dX5_reasonOf_55 rfl ?_
          obtain ⟨r13, h12, h⟩ := Option.bind_eq_some_iff.mp h
          refine q_callv (pc := 57) (st := []) (a_X5_weight h12) okX5_weight rfl dX5_reasonOf_57 lk_X5_41 sh_1 cl_5 rfl (by decide) (by decide) (Nat.le_of_ble_eq_true rfl) ⟨Nat.le_of_ble_eq_true rfl, Nat.le_of_ble_eq_true rfl⟩ rfl ?_
          show QW G (qrm 1 0 0) YX5_reasonOf 0 0 60 [some (.ref 1), some (.int x1), some (.int x2), some (.int c3), some (.int c4), some (.int (nI 1))] [.int r13] SH M J _
          refine q_aload_n (pc := 60) dX5_reasonOf_60 rfl ?_
          refine q_iload_n (pc := 61) dX5_reasonOf_61 rfl ?_
          refine q_iload_n (pc := 62) dX5_reasonOf_62 rfl ?_
          obtain ⟨r16, h15, h⟩ := Option.bind_eq_some_iff.mp h
          refine q_callv (pc := 63) (st := [.int r13]) (a_X5_weight h15) okX5_weight rfl dX5_reasonOf_63 lk_X5_41 sh_1 cl_5 rfl (by decide) (by decide) (Nat.le_of_ble_eq_true rfl) ⟨Nat.le_of_ble_eq_true rfl, Nat.le_of_ble_eq_true rfl⟩ rfl ?_
          show QW G (qrm 1 0 0) YX5_reasonOf 0 0 66 [some (.ref 1), some (.int x1), some (.int x2), some (.int c3), some (.int c4), some (.int (nI 1))] [.int r16, .int r13] SH M J _
          by_cases k17 : r13 ≤ r16
          · rw [if_pos k17] at h
            refine q_icmp_le_t (pc := 66) (tgt := 72) dX5_reasonOf_66 (by decide) k17 ?_
            refine q_iincW (pc := 72) (w := nI 1) (ls' := [some (.ref 1), some (.int x1), some (.int x2), some (.int c3), some (.int (c4 + nI 1)), some (.int (nI 1))]) dX5_reasonOf_72 rfl (by decide) (by decide) rfl rfl ?_
            refine q_goto (pc := 75) (tgt := 16) dX5_reasonOf_75 (by decide) ?_
            refine q_weak (ls' := [some (.ref 1), some (.int x1), some (.int x2), some (.int c3), some (.int (c4 + nI 1)), none]) ⟨rfl, ⟨rfl, ⟨rfl, ⟨rfl, ⟨rfl, trivial⟩⟩⟩⟩⟩ ?_
            exact l_X5_reasonOf_L16 x1 x2 M J n c3 (c4 + nI 1) res h hk
          · rw [if_neg k17] at h
            refine q_icmp_le_f (pc := 66) (tgt := 72) dX5_reasonOf_66 (by decide) k17 ?_
            refine q_iload (pc := 69) dX5_reasonOf_69 rfl ?_
            refine q_istore_n (pc := 71) (ls' := [some (.ref 1), some (.int x1), some (.int x2), some (.int c4), some (.int c4), some (.int (nI 1))]) dX5_reasonOf_71 (by decide) rfl rfl ?_
            refine q_iincW (pc := 72) (w := nI 1) (ls' := [some (.ref 1), some (.int x1), some (.int x2), some (.int c4), some (.int (c4 + nI 1)), some (.int (nI 1))]) dX5_reasonOf_72 rfl (by decide) (by decide) rfl rfl ?_
            refine q_goto (pc := 75) (tgt := 16) dX5_reasonOf_75 (by decide) ?_
            refine q_weak (ls' := [some (.ref 1), some (.int x1), some (.int x2), some (.int c4), some (.int (c4 + nI 1)), none]) ⟨rfl, ⟨rfl, ⟨rfl, ⟨rfl, ⟨rfl, trivial⟩⟩⟩⟩⟩ ?_
            exact l_X5_reasonOf_L16 x1 x2 M J n c4 (c4 + nI 1) res h hk
      · rw [if_neg k9] at h
        refine q_icmp_ne_t (pc := 33) (tgt := 40) dX5_reasonOf_33 (by decide) k9 ?_
        refine q_iconst (pc := 40) (v := nI 0) dX5_reasonOf_40 (by decide) ?_
        refine q_istore (pc := 41) (ls' := [some (.ref 1), some (.int x1), some (.int x2), some (.int c3), some (.int c4), some (.int (nI 0))]) dX5_reasonOf_41 (by decide) rfl rfl ?_
        refine q_iload (pc := 43) dX5_reasonOf_43 rfl ?_
        refine q_if_eq_t (pc := 45) (tgt := 72) dX5_reasonOf_45 (by decide) (by decide) ?_
        refine q_iincW (pc := 72) (w := nI 1) (ls' := [some (.ref 1), some (.int x1), some (.int x2), some (.int c3), some (.int (c4 + nI 1)), some (.int (nI 0))]) dX5_reasonOf_72 rfl (by decide) (by decide) rfl rfl ?_
        refine q_goto (pc := 75) (tgt := 16) dX5_reasonOf_75 (by decide) ?_
        refine q_weak (ls' := [some (.ref 1), some (.int x1), some (.int x2), some (.int c3), some (.int (c4 + nI 1)), none]) ⟨rfl, ⟨rfl, ⟨rfl, ⟨rfl, ⟨rfl, trivial⟩⟩⟩⟩⟩ ?_
        exact l_X5_reasonOf_L16 x1 x2 M J n c3 (c4 + nI 1) res h hk
def f_X5_reasonOf (a1 : Int32) (a2 : Int32) (M : qM) : Option Int32 :=
  (f_X5_kind a1 M).bind fun r3 => if r3 = (nI 3) then some ((-1 : Int32))
    else (f_X5_reasonOf_L16 a1 a2 M qF (-1 : Int32) (nI 0)).bind fun e18 => some (e18.1)
set_option maxRecDepth 20000 in
set_option maxHeartbeats 4000000 in
theorem a_X5_reasonOf {G : qG} {a1 : Int32} {a2 : Int32} {M : qM} {J : qJ} {r : Int32} (h : f_X5_reasonOf a1 a2 M = some (r)) : QM G 1 0 0 YX5_reasonOf [.ref 1, .int a1, .int a2] SH M J (some (.int r), SH, M, J) := by
  refine ⟨Nat.le_of_ble_eq_true rfl, Or.inl rfl, ?_⟩
  show QW G (qrm 1 0 0) YX5_reasonOf 0 0 0 [some (.ref 1), some (.int a1), some (.int a2), none, none, none] [] SH M J _
  unfold f_X5_reasonOf at h
  refine q_iconst (pc := 0) (v := (-1 : Int32)) dX5_reasonOf_0 (by decide) ?_
  refine q_istore_n (pc := 1) (ls' := [some (.ref 1), some (.int a1), some (.int a2), some (.int (-1 : Int32)), none, none]) dX5_reasonOf_1 (by decide) rfl rfl ?_
  refine q_aload_n (pc := 2) dX5_reasonOf_2 rfl ?_
  refine q_iload_n (pc := 3) dX5_reasonOf_3 rfl ?_
  obtain ⟨r3, h2, h⟩ := Option.bind_eq_some_iff.mp h
  refine q_callv (pc := 4) (st := []) (a_X5_kind h2) okX5_kind rfl dX5_reasonOf_4 lk_X5_35 sh_1 cl_5 rfl (by decide) (by decide) (Nat.le_of_ble_eq_true rfl) ⟨Nat.le_of_ble_eq_true rfl, Nat.le_of_ble_eq_true rfl⟩ rfl ?_
  show QW G (qrm 1 0 0) YX5_reasonOf 0 0 7 [some (.ref 1), some (.int a1), some (.int a2), some (.int (-1 : Int32)), none, none] [.int r3] SH M J _
  refine q_iconst (pc := 7) (v := nI 3) dX5_reasonOf_7 (by decide) ?_
  by_cases k4 : r3 = (nI 3)
  · rw [if_pos k4] at h
    refine q_icmp_ne_f (pc := 8) (tgt := 13) dX5_reasonOf_8 (by decide) k4 ?_
    refine q_iload_n (pc := 11) dX5_reasonOf_11 rfl ?_
    obtain rfl := Option.some.inj h
    exact q_iret (pc := 12) dX5_reasonOf_12 rfl rfl rfl
  · rw [if_neg k4] at h
    refine q_icmp_ne_t (pc := 8) (tgt := 13) dX5_reasonOf_8 (by decide) k4 ?_
    refine q_iconst (pc := 13) (v := nI 0) dX5_reasonOf_13 (by decide) ?_
    refine q_istore (pc := 14) (ls' := [some (.ref 1), some (.int a1), some (.int a2), some (.int (-1 : Int32)), some (.int (nI 0)), none]) dX5_reasonOf_14 (by decide) rfl rfl ?_
    obtain ⟨⟨e18_3, e18_4⟩, h19, h⟩ := Option.bind_eq_some_iff.mp h
    try dsimp only at h
    refine l_X5_reasonOf_L16 a1 a2 M J qF (-1 : Int32) (nI 0) _ h19 (fun x hx => ?_)
    subst hx
    show QW G (qrm 1 0 0) YX5_reasonOf 0 0 78 [none, none, none, some (.int e18_3), none, none] [] SH M J _
    refine q_iload_n (pc := 78) dX5_reasonOf_78 rfl ?_
    obtain rfl := Option.some.inj h
    exact q_iret (pc := 79) dX5_reasonOf_79 rfl rfl rfl
def f_X5_skill (a1 : Int32) (M : qM) : Option Int32 :=
  (qrd M 2 172 ((nI 60) + a1)).bind fun v1 => some (v1)
set_option maxRecDepth 20000 in
set_option maxHeartbeats 4000000 in
theorem a_X5_skill {G : qG} {a1 : Int32} {M : qM} {J : qJ} {r : Int32} (h : f_X5_skill a1 M = some (r)) : QM G 0 0 0 YX5_skill [.ref 1, .int a1] SH M J (some (.int r), SH, M, J) := by
  refine ⟨Nat.le_of_ble_eq_true rfl, Or.inl rfl, ?_⟩
  show QW G (qrm 0 0 0) YX5_skill 0 0 0 [some (.ref 1), some (.int a1)] [] SH M J _
  unfold f_X5_skill at h
  refine q_aload_n (pc := 0) dX5_skill_0 rfl ?_
  refine q_getf (pc := 1) (f := 0) (v := .ref 2) dX5_skill_1 sh_1 cl_5 inX5 rfl (by decide) lk_X5_11 rfl ?_
  refine q_bipush (pc := 4) (v := nI 60) dX5_skill_4 (by decide) ?_
  refine q_iload_n (pc := 6) dX5_skill_6 rfl ?_
  refine q_iadd (pc := 7) dX5_skill_7 ?_
  obtain ⟨v1, h2, h⟩ := Option.bind_eq_some_iff.mp h
  refine q_iald (pc := 8) dX5_skill_8 sh_2 h2 ?_
  obtain rfl := Option.some.inj h
  exact q_iret (pc := 9) dX5_skill_9 rfl rfl rfl
def f_X11_strengthBy (a0 : Int32) (a1 : Int32) (a2 : Int32) (M : qM) : Option Int32 :=
  if a0 = nI 0 then some (a2 + a1)
    else if a0 = nI 1 then (qdiv a1 (nI 2)).bind fun v3 => some (((nI 2) * a2) + v3)
    else if a0 = nI 2 then (qdiv (a2 * a1) (nI 4)).bind fun v6 => some (v6)
    else some (a1)
set_option maxRecDepth 20000 in
set_option maxHeartbeats 4000000 in
theorem a_X11_strengthBy {G : qG} {a0 : Int32} {a1 : Int32} {a2 : Int32} {M : qM} {J : qJ} {r : Int32} (h : f_X11_strengthBy a0 a1 a2 M = some (r)) : QM G 0 0 0 YX11_strengthBy [.int a0, .int a1, .int a2] SH M J (some (.int r), SH, M, J) := by
  refine ⟨Nat.le_of_ble_eq_true rfl, Or.inl rfl, ?_⟩
  show QW G (qrm 0 0 0) YX11_strengthBy 0 0 0 [some (.int a0), some (.int a1), some (.int a2)] [] SH M J _
  unfold f_X11_strengthBy at h
  refine q_iload_n (pc := 0) dX11_strengthBy_0 rfl ?_
  by_cases k1 : a0 = nI 0
  · rw [if_pos k1] at h
    refine q_tabIn (pc := 1) (tgt := 28) (off := 27) (j := 0) dX11_strengthBy_1 (by rw [k1]; rfl) (by decide) (by decide) rfl (by decide) ?_
    refine q_iload_n (pc := 28) dX11_strengthBy_28 rfl ?_
    refine q_iload_n (pc := 29) dX11_strengthBy_29 rfl ?_
    refine q_iadd (pc := 30) dX11_strengthBy_30 ?_
    obtain rfl := Option.some.inj h
    exact q_iret (pc := 31) dX11_strengthBy_31 rfl rfl rfl
  · rw [if_neg k1] at h
    by_cases k2 : a0 = nI 1
    · rw [if_pos k2] at h
      refine q_tabIn (pc := 1) (tgt := 32) (off := 31) (j := 1) dX11_strengthBy_1 (by rw [k2]; rfl) (by decide) (by decide) rfl (by decide) ?_
      refine q_iconst (pc := 32) (v := nI 2) dX11_strengthBy_32 (by decide) ?_
      refine q_iload_n (pc := 33) dX11_strengthBy_33 rfl ?_
      refine q_imul (pc := 34) dX11_strengthBy_34 ?_
      refine q_iload_n (pc := 35) dX11_strengthBy_35 rfl ?_
      refine q_iconst (pc := 36) (v := nI 2) dX11_strengthBy_36 (by decide) ?_
      obtain ⟨v3, h4, h⟩ := Option.bind_eq_some_iff.mp h
      refine q_idiv (pc := 37) dX11_strengthBy_37 h4 ?_
      refine q_iadd (pc := 38) dX11_strengthBy_38 ?_
      obtain rfl := Option.some.inj h
      exact q_iret (pc := 39) dX11_strengthBy_39 rfl rfl rfl
    · rw [if_neg k2] at h
      by_cases k5 : a0 = nI 2
      · rw [if_pos k5] at h
        refine q_tabIn (pc := 1) (tgt := 40) (off := 39) (j := 2) dX11_strengthBy_1 (by rw [k5]; rfl) (by decide) (by decide) rfl (by decide) ?_
        refine q_iload_n (pc := 40) dX11_strengthBy_40 rfl ?_
        refine q_iload_n (pc := 41) dX11_strengthBy_41 rfl ?_
        refine q_imul (pc := 42) dX11_strengthBy_42 ?_
        refine q_iconst (pc := 43) (v := nI 4) dX11_strengthBy_43 (by decide) ?_
        obtain ⟨v6, h7, h⟩ := Option.bind_eq_some_iff.mp h
        refine q_idiv (pc := 44) dX11_strengthBy_44 h7 ?_
        obtain rfl := Option.some.inj h
        exact q_iret (pc := 45) dX11_strengthBy_45 rfl rfl rfl
      · rw [if_neg k5] at h
        have hsw : a0.toInt < (0) ∨ (2) < a0.toInt := by
          have := lv_neT k1 (show (nI 0).toInt = 0 from rfl)
          have := lv_neT k2 (show (nI 1).toInt = 1 from rfl)
          have := lv_neT k5 (show (nI 2).toInt = 2 from rfl)
          omega
        refine q_tabOut (pc := 1) (tgt := 46) dX11_strengthBy_1 hsw (by decide) ?_
        refine q_iload_n (pc := 46) dX11_strengthBy_46 rfl ?_
        obtain rfl := Option.some.inj h
        exact q_iret (pc := 47) dX11_strengthBy_47 rfl rfl rfl
def f_X5_strengthIn (a1 : Int32) (a2 : Int32) (a3 : Int32) (M : qM) : Option Int32 :=
  (f_X5_reasonOf a1 a2 M).bind fun r3 => if r3 = (-1 : Int32) then (f_X5_kind a1 M).bind fun r7 => if r7 = 0 then (f_X5_skill a1 M).bind fun r11 => (f_X5_kind a1 M).bind fun r14 => (f_X11_strengthBy r14 (qmin (nI 40) (r11 + a3)) (nI 0) M).bind fun r17 => some (r17)
    else (f_X5_skill a1 M).bind fun r20 => (f_X5_kind a1 M).bind fun r23 => (f_X11_strengthBy r23 r20 (nI 0) M).bind fun r26 => some (r26)
    else (f_X5_weight a2 r3 M).bind fun r29 => (f_X5_kind a1 M).bind fun r32 => if r32 = 0 then (f_X5_skill a1 M).bind fun r36 => (f_X5_kind a1 M).bind fun r39 => (f_X11_strengthBy r39 (qmin (nI 40) (r36 + a3)) r29 M).bind fun r42 => some (r42)
    else (f_X5_skill a1 M).bind fun r45 => (f_X5_kind a1 M).bind fun r48 => (f_X11_strengthBy r48 r45 r29 M).bind fun r51 => some (r51)
set_option maxRecDepth 20000 in
set_option maxHeartbeats 4000000 in
theorem a_X5_strengthIn {G : qG} {a1 : Int32} {a2 : Int32} {a3 : Int32} {M : qM} {J : qJ} {r : Int32} (h : f_X5_strengthIn a1 a2 a3 M = some (r)) : QM G 2 0 0 YX5_strengthIn [.ref 1, .int a1, .int a2, .int a3] SH M J (some (.int r), SH, M, J) := by
  refine ⟨Nat.le_of_ble_eq_true rfl, Or.inl rfl, ?_⟩
  show QW G (qrm 2 0 0) YX5_strengthIn 0 0 0 [some (.ref 1), some (.int a1), some (.int a2), some (.int a3), none, none, none] [] SH M J _
  unfold f_X5_strengthIn at h
  refine q_aload_n (pc := 0) dX5_strengthIn_0 rfl ?_
  refine q_iload_n (pc := 1) dX5_strengthIn_1 rfl ?_
  refine q_iload_n (pc := 2) dX5_strengthIn_2 rfl ?_
  obtain ⟨r3, h2, h⟩ := Option.bind_eq_some_iff.mp h
  refine q_callv (pc := 3) (st := []) (a_X5_reasonOf h2) okX5_reasonOf rfl dX5_strengthIn_3 lk_X5_45 sh_1 cl_5 rfl (by decide) (by decide) (Nat.le_of_ble_eq_true rfl) ⟨Nat.le_of_ble_eq_true rfl, Nat.le_of_ble_eq_true rfl⟩ rfl ?_
  show QW G (qrm 2 0 0) YX5_strengthIn 0 0 6 [some (.ref 1), some (.int a1), some (.int a2), some (.int a3), none, none, none] [.int r3] SH M J _
  refine q_istore (pc := 6) (ls' := [some (.ref 1), some (.int a1), some (.int a2), some (.int a3), some (.int r3), none, none]) dX5_strengthIn_6 (by decide) rfl rfl ?_
  refine q_iload (pc := 8) dX5_strengthIn_8 rfl ?_
  refine q_iconst (pc := 10) (v := (-1 : Int32)) dX5_strengthIn_10 (by decide) ?_
  by_cases k4 : r3 = (-1 : Int32)
  · rw [if_pos k4] at h
    refine q_icmp_ne_f (pc := 11) (tgt := 18) dX5_strengthIn_11 (by decide) k4 ?_
    refine q_iconst (pc := 14) (v := nI 0) dX5_strengthIn_14 (by decide) ?_
    refine q_goto (pc := 15) (tgt := 25) dX5_strengthIn_15 (by decide) ?_
    refine q_istore (pc := 25) (ls' := [some (.ref 1), some (.int a1), some (.int a2), some (.int a3), some (.int r3), some (.int (nI 0)), none]) dX5_strengthIn_25 (by decide) rfl rfl ?_
    refine q_aload_n (pc := 27) dX5_strengthIn_27 rfl ?_
    refine q_iload_n (pc := 28) dX5_strengthIn_28 rfl ?_
    obtain ⟨r7, h6, h⟩ := Option.bind_eq_some_iff.mp h
    refine q_callv (pc := 29) (st := []) (a_X5_kind h6) okX5_kind rfl dX5_strengthIn_29 lk_X5_35 sh_1 cl_5 rfl (by decide) (by decide) (Nat.le_of_ble_eq_true rfl) ⟨Nat.le_of_ble_eq_true rfl, Nat.le_of_ble_eq_true rfl⟩ rfl ?_
    show QW G (qrm 2 0 0) YX5_strengthIn 0 0 32 [some (.ref 1), some (.int a1), some (.int a2), some (.int a3), some (.int r3), some (.int (nI 0)), none] [.int r7] SH M J _
    by_cases k8 : r7 = 0
    · rw [if_pos k8] at h
      refine q_if_ne_f (pc := 32) (tgt := 50) dX5_strengthIn_32 (by decide) k8 ?_
      refine q_bipush (pc := 35) (v := nI 40) dX5_strengthIn_35 (by decide) ?_
      refine q_aload_n (pc := 37) dX5_strengthIn_37 rfl ?_
      refine q_iload_n (pc := 38) dX5_strengthIn_38 rfl ?_
      obtain ⟨r11, h10, h⟩ := Option.bind_eq_some_iff.mp h
      refine q_callv (pc := 39) (st := [.int (nI 40)]) (a_X5_skill h10) okX5_skill rfl dX5_strengthIn_39 lk_X5_48 sh_1 cl_5 rfl (by decide) (by decide) (Nat.le_of_ble_eq_true rfl) ⟨Nat.le_of_ble_eq_true rfl, Nat.le_of_ble_eq_true rfl⟩ rfl ?_
      show QW G (qrm 2 0 0) YX5_strengthIn 0 0 42 [some (.ref 1), some (.int a1), some (.int a2), some (.int a3), some (.int r3), some (.int (nI 0)), none] [.int r11, .int (nI 40)] SH M J _
      refine q_iload_n (pc := 42) dX5_strengthIn_42 rfl ?_
      refine q_iadd (pc := 43) dX5_strengthIn_43 ?_
      refine q_min (pc := 44) dX5_strengthIn_44 lk_X5_51 (by decide) (Nat.le_of_ble_eq_true rfl) (Nat.le_of_ble_eq_true rfl) (Nat.le_of_ble_eq_true rfl) ?_
      refine q_goto (pc := 47) (tgt := 55) dX5_strengthIn_47 (by decide) ?_
      refine q_istore (pc := 55) (ls' := [some (.ref 1), some (.int a1), some (.int a2), some (.int a3), some (.int r3), some (.int (nI 0)), some (.int (qmin (nI 40) (r11 + a3)))]) dX5_strengthIn_55 (by decide) rfl rfl ?_
      refine q_aload_n (pc := 57) dX5_strengthIn_57 rfl ?_
      refine q_iload_n (pc := 58) dX5_strengthIn_58 rfl ?_
      obtain ⟨r14, h13, h⟩ := Option.bind_eq_some_iff.mp h
      refine q_callv (pc := 59) (st := []) (a_X5_kind h13) okX5_kind rfl dX5_strengthIn_59 lk_X5_35 sh_1 cl_5 rfl (by decide) (by decide) (Nat.le_of_ble_eq_true rfl) ⟨Nat.le_of_ble_eq_true rfl, Nat.le_of_ble_eq_true rfl⟩ rfl ?_
      show QW G (qrm 2 0 0) YX5_strengthIn 0 0 62 [some (.ref 1), some (.int a1), some (.int a2), some (.int a3), some (.int r3), some (.int (nI 0)), some (.int (qmin (nI 40) (r11 + a3)))] [.int r14] SH M J _
      refine q_iload (pc := 62) dX5_strengthIn_62 rfl ?_
      refine q_iload (pc := 64) dX5_strengthIn_64 rfl ?_
      obtain ⟨r17, h16, h⟩ := Option.bind_eq_some_iff.mp h
      refine q_callsn (pc := 66) (st := []) (a_X11_strengthBy h16) okX11_strengthBy rfl dX5_strengthIn_66 lkn_X5_56 rfl (by decide) (by decide) (Nat.le_of_ble_eq_true rfl) ⟨Nat.le_of_ble_eq_true rfl, Nat.le_of_ble_eq_true rfl⟩ rfl ?_
      show QW G (qrm 2 0 0) YX5_strengthIn 0 0 69 [some (.ref 1), some (.int a1), some (.int a2), some (.int a3), some (.int r3), some (.int (nI 0)), some (.int (qmin (nI 40) (r11 + a3)))] [.int r17] SH M J _
      obtain rfl := Option.some.inj h
      exact q_iret (pc := 69) dX5_strengthIn_69 rfl rfl rfl
    · rw [if_neg k8] at h
      refine q_if_ne_t (pc := 32) (tgt := 50) dX5_strengthIn_32 (by decide) k8 ?_
      refine q_aload_n (pc := 50) dX5_strengthIn_50 rfl ?_
      refine q_iload_n (pc := 51) dX5_strengthIn_51 rfl ?_
      obtain ⟨r20, h19, h⟩ := Option.bind_eq_some_iff.mp h
      refine q_callv (pc := 52) (st := []) (a_X5_skill h19) okX5_skill rfl dX5_strengthIn_52 lk_X5_48 sh_1 cl_5 rfl (by decide) (by decide) (Nat.le_of_ble_eq_true rfl) ⟨Nat.le_of_ble_eq_true rfl, Nat.le_of_ble_eq_true rfl⟩ rfl ?_
      show QW G (qrm 2 0 0) YX5_strengthIn 0 0 55 [some (.ref 1), some (.int a1), some (.int a2), some (.int a3), some (.int r3), some (.int (nI 0)), none] [.int r20] SH M J _
      refine q_istore (pc := 55) (ls' := [some (.ref 1), some (.int a1), some (.int a2), some (.int a3), some (.int r3), some (.int (nI 0)), some (.int r20)]) dX5_strengthIn_55 (by decide) rfl rfl ?_
      refine q_aload_n (pc := 57) dX5_strengthIn_57 rfl ?_
      refine q_iload_n (pc := 58) dX5_strengthIn_58 rfl ?_
      obtain ⟨r23, h22, h⟩ := Option.bind_eq_some_iff.mp h
      refine q_callv (pc := 59) (st := []) (a_X5_kind h22) okX5_kind rfl dX5_strengthIn_59 lk_X5_35 sh_1 cl_5 rfl (by decide) (by decide) (Nat.le_of_ble_eq_true rfl) ⟨Nat.le_of_ble_eq_true rfl, Nat.le_of_ble_eq_true rfl⟩ rfl ?_
      show QW G (qrm 2 0 0) YX5_strengthIn 0 0 62 [some (.ref 1), some (.int a1), some (.int a2), some (.int a3), some (.int r3), some (.int (nI 0)), some (.int r20)] [.int r23] SH M J _
      refine q_iload (pc := 62) dX5_strengthIn_62 rfl ?_
      refine q_iload (pc := 64) dX5_strengthIn_64 rfl ?_
      obtain ⟨r26, h25, h⟩ := Option.bind_eq_some_iff.mp h
      refine q_callsn (pc := 66) (st := []) (a_X11_strengthBy h25) okX11_strengthBy rfl dX5_strengthIn_66 lkn_X5_56 rfl (by decide) (by decide) (Nat.le_of_ble_eq_true rfl) ⟨Nat.le_of_ble_eq_true rfl, Nat.le_of_ble_eq_true rfl⟩ rfl ?_
      show QW G (qrm 2 0 0) YX5_strengthIn 0 0 69 [some (.ref 1), some (.int a1), some (.int a2), some (.int a3), some (.int r3), some (.int (nI 0)), some (.int r20)] [.int r26] SH M J _
      obtain rfl := Option.some.inj h
      exact q_iret (pc := 69) dX5_strengthIn_69 rfl rfl rfl
  · rw [if_neg k4] at h
    refine q_icmp_ne_t (pc := 11) (tgt := 18) dX5_strengthIn_11 (by decide) k4 ?_
    refine q_aload_n (pc := 18) dX5_strengthIn_18 rfl ?_
    refine q_iload_n (pc := 19) dX5_strengthIn_19 rfl ?_
    refine q_iload (pc := 20) dX5_strengthIn_20 rfl ?_
    obtain ⟨r29, h28, h⟩ := Option.bind_eq_some_iff.mp h
    refine q_callv (pc := 22) (st := []) (a_X5_weight h28) okX5_weight rfl dX5_strengthIn_22 lk_X5_41 sh_1 cl_5 rfl (by decide) (by decide) (Nat.le_of_ble_eq_true rfl) ⟨Nat.le_of_ble_eq_true rfl, Nat.le_of_ble_eq_true rfl⟩ rfl ?_
    show QW G (qrm 2 0 0) YX5_strengthIn 0 0 25 [some (.ref 1), some (.int a1), some (.int a2), some (.int a3), some (.int r3), none, none] [.int r29] SH M J _
    refine q_istore (pc := 25) (ls' := [some (.ref 1), some (.int a1), some (.int a2), some (.int a3), some (.int r3), some (.int r29), none]) dX5_strengthIn_25 (by decide) rfl rfl ?_
    refine q_aload_n (pc := 27) dX5_strengthIn_27 rfl ?_
    refine q_iload_n (pc := 28) dX5_strengthIn_28 rfl ?_
    obtain ⟨r32, h31, h⟩ := Option.bind_eq_some_iff.mp h
    refine q_callv (pc := 29) (st := []) (a_X5_kind h31) okX5_kind rfl dX5_strengthIn_29 lk_X5_35 sh_1 cl_5 rfl (by decide) (by decide) (Nat.le_of_ble_eq_true rfl) ⟨Nat.le_of_ble_eq_true rfl, Nat.le_of_ble_eq_true rfl⟩ rfl ?_
    show QW G (qrm 2 0 0) YX5_strengthIn 0 0 32 [some (.ref 1), some (.int a1), some (.int a2), some (.int a3), some (.int r3), some (.int r29), none] [.int r32] SH M J _
    by_cases k33 : r32 = 0
    · rw [if_pos k33] at h
      refine q_if_ne_f (pc := 32) (tgt := 50) dX5_strengthIn_32 (by decide) k33 ?_
      refine q_bipush (pc := 35) (v := nI 40) dX5_strengthIn_35 (by decide) ?_
      refine q_aload_n (pc := 37) dX5_strengthIn_37 rfl ?_
      refine q_iload_n (pc := 38) dX5_strengthIn_38 rfl ?_
      obtain ⟨r36, h35, h⟩ := Option.bind_eq_some_iff.mp h
      refine q_callv (pc := 39) (st := [.int (nI 40)]) (a_X5_skill h35) okX5_skill rfl dX5_strengthIn_39 lk_X5_48 sh_1 cl_5 rfl (by decide) (by decide) (Nat.le_of_ble_eq_true rfl) ⟨Nat.le_of_ble_eq_true rfl, Nat.le_of_ble_eq_true rfl⟩ rfl ?_
      show QW G (qrm 2 0 0) YX5_strengthIn 0 0 42 [some (.ref 1), some (.int a1), some (.int a2), some (.int a3), some (.int r3), some (.int r29), none] [.int r36, .int (nI 40)] SH M J _
      refine q_iload_n (pc := 42) dX5_strengthIn_42 rfl ?_
      refine q_iadd (pc := 43) dX5_strengthIn_43 ?_
      refine q_min (pc := 44) dX5_strengthIn_44 lk_X5_51 (by decide) (Nat.le_of_ble_eq_true rfl) (Nat.le_of_ble_eq_true rfl) (Nat.le_of_ble_eq_true rfl) ?_
      refine q_goto (pc := 47) (tgt := 55) dX5_strengthIn_47 (by decide) ?_
      refine q_istore (pc := 55) (ls' := [some (.ref 1), some (.int a1), some (.int a2), some (.int a3), some (.int r3), some (.int r29), some (.int (qmin (nI 40) (r36 + a3)))]) dX5_strengthIn_55 (by decide) rfl rfl ?_
      refine q_aload_n (pc := 57) dX5_strengthIn_57 rfl ?_
      refine q_iload_n (pc := 58) dX5_strengthIn_58 rfl ?_
      obtain ⟨r39, h38, h⟩ := Option.bind_eq_some_iff.mp h
      refine q_callv (pc := 59) (st := []) (a_X5_kind h38) okX5_kind rfl dX5_strengthIn_59 lk_X5_35 sh_1 cl_5 rfl (by decide) (by decide) (Nat.le_of_ble_eq_true rfl) ⟨Nat.le_of_ble_eq_true rfl, Nat.le_of_ble_eq_true rfl⟩ rfl ?_
      show QW G (qrm 2 0 0) YX5_strengthIn 0 0 62 [some (.ref 1), some (.int a1), some (.int a2), some (.int a3), some (.int r3), some (.int r29), some (.int (qmin (nI 40) (r36 + a3)))] [.int r39] SH M J _
      refine q_iload (pc := 62) dX5_strengthIn_62 rfl ?_
      refine q_iload (pc := 64) dX5_strengthIn_64 rfl ?_
      obtain ⟨r42, h41, h⟩ := Option.bind_eq_some_iff.mp h
      refine q_callsn (pc := 66) (st := []) (a_X11_strengthBy h41) okX11_strengthBy rfl dX5_strengthIn_66 lkn_X5_56 rfl (by decide) (by decide) (Nat.le_of_ble_eq_true rfl) ⟨Nat.le_of_ble_eq_true rfl, Nat.le_of_ble_eq_true rfl⟩ rfl ?_
      show QW G (qrm 2 0 0) YX5_strengthIn 0 0 69 [some (.ref 1), some (.int a1), some (.int a2), some (.int a3), some (.int r3), some (.int r29), some (.int (qmin (nI 40) (r36 + a3)))] [.int r42] SH M J _
      obtain rfl := Option.some.inj h
      exact q_iret (pc := 69) dX5_strengthIn_69 rfl rfl rfl
    · rw [if_neg k33] at h
      refine q_if_ne_t (pc := 32) (tgt := 50) dX5_strengthIn_32 (by decide) k33 ?_
      refine q_aload_n (pc := 50) dX5_strengthIn_50 rfl ?_
      refine q_iload_n (pc := 51) dX5_strengthIn_51 rfl ?_
      obtain ⟨r45, h44, h⟩ := Option.bind_eq_some_iff.mp h
      refine q_callv (pc := 52) (st := []) (a_X5_skill h44) okX5_skill rfl dX5_strengthIn_52 lk_X5_48 sh_1 cl_5 rfl (by decide) (by decide) (Nat.le_of_ble_eq_true rfl) ⟨Nat.le_of_ble_eq_true rfl, Nat.le_of_ble_eq_true rfl⟩ rfl ?_
      show QW G (qrm 2 0 0) YX5_strengthIn 0 0 55 [some (.ref 1), some (.int a1), some (.int a2), some (.int a3), some (.int r3), some (.int r29), none] [.int r45] SH M J _
      refine q_istore (pc := 55) (ls' := [some (.ref 1), some (.int a1), some (.int a2), some (.int a3), some (.int r3), some (.int r29), some (.int r45)]) dX5_strengthIn_55 (by decide) rfl rfl ?_
      refine q_aload_n (pc := 57) dX5_strengthIn_57 rfl ?_
      refine q_iload_n (pc := 58) dX5_strengthIn_58 rfl ?_
      obtain ⟨r48, h47, h⟩ := Option.bind_eq_some_iff.mp h
      refine q_callv (pc := 59) (st := []) (a_X5_kind h47) okX5_kind rfl dX5_strengthIn_59 lk_X5_35 sh_1 cl_5 rfl (by decide) (by decide) (Nat.le_of_ble_eq_true rfl) ⟨Nat.le_of_ble_eq_true rfl, Nat.le_of_ble_eq_true rfl⟩ rfl ?_
      show QW G (qrm 2 0 0) YX5_strengthIn 0 0 62 [some (.ref 1), some (.int a1), some (.int a2), some (.int a3), some (.int r3), some (.int r29), some (.int r45)] [.int r48] SH M J _
      refine q_iload (pc := 62) dX5_strengthIn_62 rfl ?_
      refine q_iload (pc := 64) dX5_strengthIn_64 rfl ?_
      obtain ⟨r51, h50, h⟩ := Option.bind_eq_some_iff.mp h
      refine q_callsn (pc := 66) (st := []) (a_X11_strengthBy h50) okX11_strengthBy rfl dX5_strengthIn_66 lkn_X5_56 rfl (by decide) (by decide) (Nat.le_of_ble_eq_true rfl) ⟨Nat.le_of_ble_eq_true rfl, Nat.le_of_ble_eq_true rfl⟩ rfl ?_
      show QW G (qrm 2 0 0) YX5_strengthIn 0 0 69 [some (.ref 1), some (.int a1), some (.int a2), some (.int a3), some (.int r3), some (.int r29), some (.int r45)] [.int r51] SH M J _
      obtain rfl := Option.some.inj h
      exact q_iret (pc := 69) dX5_strengthIn_69 rfl rfl rfl
def f_X5_objects (a1 : Int32) (a2 : Int32) (M : qM) : Option Bool :=
  (f_X5_strengthIn a1 a2 (nI 0) M).bind fun r3 => (f_X5_least M).bind fun r6 => if r3 < r6 then some (false)
    else some (true)
set_option maxRecDepth 20000 in
set_option maxHeartbeats 4000000 in
theorem a_X5_objects {G : qG} {a1 : Int32} {a2 : Int32} {M : qM} {J : qJ} {r : Bool} (h : f_X5_objects a1 a2 M = some (r)) : QM G 3 0 0 YX5_objects [.ref 1, .int a1, .int a2] SH M J (some (.int (qb r)), SH, M, J) := by
  refine ⟨Nat.le_of_ble_eq_true rfl, Or.inr ⟨rfl, _, rfl⟩, ?_⟩
  show QW G (qrm 3 0 0) YX5_objects 0 0 0 [some (.ref 1), some (.int a1), some (.int a2)] [] SH M J _
  unfold f_X5_objects at h
  refine q_aload_n (pc := 0) dX5_objects_0 rfl ?_
  refine q_iload_n (pc := 1) dX5_objects_1 rfl ?_
  refine q_iload_n (pc := 2) dX5_objects_2 rfl ?_
  refine q_iconst (pc := 3) (v := nI 0) dX5_objects_3 (by decide) ?_
  obtain ⟨r3, h2, h⟩ := Option.bind_eq_some_iff.mp h
  refine q_callv (pc := 4) (st := []) (a_X5_strengthIn h2) okX5_strengthIn rfl dX5_objects_4 lk_X5_60 sh_1 cl_5 rfl (by decide) (by decide) (Nat.le_of_ble_eq_true rfl) ⟨Nat.le_of_ble_eq_true rfl, Nat.le_of_ble_eq_true rfl⟩ rfl ?_
  show QW G (qrm 3 0 0) YX5_objects 0 0 7 [some (.ref 1), some (.int a1), some (.int a2)] [.int r3] SH M J _
  refine q_aload_n (pc := 7) dX5_objects_7 rfl ?_
  obtain ⟨r6, h5, h⟩ := Option.bind_eq_some_iff.mp h
  refine q_callv (pc := 8) (st := [.int r3]) (a_X5_least h5) okX5_least rfl dX5_objects_8 lk_X5_63 sh_1 cl_5 rfl (by decide) (by decide) (Nat.le_of_ble_eq_true rfl) ⟨Nat.le_of_ble_eq_true rfl, Nat.le_of_ble_eq_true rfl⟩ rfl ?_
  show QW G (qrm 3 0 0) YX5_objects 0 0 11 [some (.ref 1), some (.int a1), some (.int a2)] [.int r6, .int r3] SH M J _
  by_cases k7 : r3 < r6
  · rw [if_pos k7] at h
    refine q_icmp_lt_t (pc := 11) (tgt := 18) dX5_objects_11 (by decide) k7 ?_
    refine q_iconst (pc := 18) (v := nI 0) dX5_objects_18 (by decide) ?_
    obtain rfl := Option.some.inj h
    exact q_iret (pc := 19) dX5_objects_19 rfl rfl rfl
  · rw [if_neg k7] at h
    refine q_icmp_lt_f (pc := 11) (tgt := 18) dX5_objects_11 (by decide) k7 ?_
    refine q_iconst (pc := 14) (v := nI 1) dX5_objects_14 (by decide) ?_
    refine q_goto (pc := 15) (tgt := 19) dX5_objects_15 (by decide) ?_
    obtain rfl := Option.some.inj h
    exact q_iret (pc := 19) dX5_objects_19 rfl rfl rfl
def f_X10_safeAnswer_L5 (x1 : Int32) (x2 : Int32) (M : qM) : Nat → Int32 → Int32 → Option (Int32 × Int32)
  | 0, _, _ => none
  | n + 1, c3, c4 =>
  (f_X5_objectors M).bind fun r3 => if r3 ≤ c4 then some (c3, c4)
    else if ((x2 >>> (c4 &&& 31)) &&& (nI 1)) = (nI 1) then (f_X5_objects c4 x1 M).bind fun b8 => if b8 = true then (f_X5_strengthIn c4 x1 (nI 0) M).bind fun r12 => f_X10_safeAnswer_L5 x1 x2 M n (qmax c3 r12) (c4 + nI 1)
    else f_X10_safeAnswer_L5 x1 x2 M n c3 (c4 + nI 1)
    else f_X10_safeAnswer_L5 x1 x2 M n c3 (c4 + nI 1)
set_option maxRecDepth 20000 in
set_option maxHeartbeats 4000000 in
theorem l_X10_safeAnswer_L5 {G : qG} {ρ : qR} (x1 : Int32) (x2 : Int32) (M : qM) (J : qJ) : ∀ (n : Nat) (c3 : Int32) (c4 : Int32) (res : Int32 × Int32), f_X10_safeAnswer_L5 x1 x2 M n c3 c4 = some res → (∀ x : Int32 × Int32, res = x → QW G (qrm 4 0 0) YX10_safeAnswer 0 0 53 [none, none, none, some (.int x.1), none] [] SH M J ρ) → QW G (qrm 4 0 0) YX10_safeAnswer 0 0 5 [some (.ref 1), some (.int x1), some (.int x2), some (.int c3), some (.int c4)] [] SH M J ρ
  | 0, _, _, _, h, _ => by simp [f_X10_safeAnswer_L5] at h
  | n + 1, c3, c4, res, h, hk => by
    rw [f_X10_safeAnswer_L5] at h
    refine q_iload (pc := 5) dX10_safeAnswer_5 rfl ?_
    refine q_aload_n (pc := 7) dX10_safeAnswer_7 rfl ?_
    obtain ⟨r3, h2, h⟩ := Option.bind_eq_some_iff.mp h
    refine q_callv (pc := 8) (st := [.int c4]) (a_X5_objectors h2) okX5_objectors rfl dX10_safeAnswer_8 lk_X10_9 sh_1 cl_5 rfl (by decide) (by decide) (Nat.le_of_ble_eq_true rfl) ⟨Nat.le_of_ble_eq_true rfl, Nat.le_of_ble_eq_true rfl⟩ rfl ?_
    show QW G (qrm 4 0 0) YX10_safeAnswer 0 0 11 [some (.ref 1), some (.int x1), some (.int x2), some (.int c3), some (.int c4)] [.int r3, .int c4] SH M J _
    by_cases k4 : r3 ≤ c4
    · rw [if_pos k4] at h
      refine q_icmp_ge_t (pc := 11) (tgt := 53) dX10_safeAnswer_11 (by decide) k4 ?_
      refine q_weak (ls' := [none, none, none, some (.int c3), none]) ⟨rfl, trivial⟩ ?_
      obtain rfl := Option.some.inj h
      exact hk (c3, c4) rfl
    · rw [if_neg k4] at h
      refine q_icmp_ge_f (pc := 11) (tgt := 53) dX10_safeAnswer_11 (by decide) k4 ?_
      refine q_iload_n (pc := 14) dX10_safeAnswer_14 rfl ?_
      refine q_iload (pc := 15) dX10_safeAnswer_15 rfl ?_
      refine q_ishr (pc := 17) dX10_safeAnswer_17 ?_
      refine q_iconst (pc := 18) (v := nI 1) dX10_safeAnswer_18 (by decide) ?_
      refine q_iand (pc := 19) dX10_safeAnswer_19 ?_
      refine q_iconst (pc := 20) (v := nI 1) dX10_safeAnswer_20 (by decide) ?_
      by_cases k5 : ((x2 >>> (c4 &&& 31)) &&& (nI 1)) = (nI 1)
      · rw [if_pos k5] at h
        refine q_icmp_ne_f (pc := 21) (tgt := 47) dX10_safeAnswer_21 (by decide) k5 ?_
        refine q_aload_n (pc := 24) dX10_safeAnswer_24 rfl ?_
        refine q_iload (pc := 25) dX10_safeAnswer_25 rfl ?_
        refine q_iload_n (pc := 27) dX10_safeAnswer_27 rfl ?_
        obtain ⟨b8, h7, h⟩ := Option.bind_eq_some_iff.mp h
        refine q_callv (pc := 28) (st := []) (a_X5_objects h7) okX5_objects rfl dX10_safeAnswer_28 lk_X10_21 sh_1 cl_5 rfl (by decide) (by decide) (Nat.le_of_ble_eq_true rfl) ⟨Nat.le_of_ble_eq_true rfl, Nat.le_of_ble_eq_true rfl⟩ rfl ?_
        show QW G (qrm 4 0 0) YX10_safeAnswer 0 0 31 [some (.ref 1), some (.int x1), some (.int x2), some (.int c3), some (.int c4)] [.int (qb b8)] SH M J _
        by_cases k9 : b8 = true
        · rw [if_pos k9] at h
          refine q_if_eq_f (pc := 31) (tgt := 47) dX10_safeAnswer_31 (by decide) (qb_t k9) ?_
          refine q_iload_n (pc := 34) dX10_safeAnswer_34 rfl ?_
          refine q_aload_n (pc := 35) dX10_safeAnswer_35 rfl ?_
          refine q_iload (pc := 36) dX10_safeAnswer_36 rfl ?_
          refine q_iload_n (pc := 38) dX10_safeAnswer_38 rfl ?_
          refine q_iconst (pc := 39) (v := nI 0) dX10_safeAnswer_39 (by decide) ?_
          obtain ⟨r12, h11, h⟩ := Option.bind_eq_some_iff.mp h
          refine q_callv (pc := 40) (st := [.int c3]) (a_X5_strengthIn h11) okX5_strengthIn rfl dX10_safeAnswer_40 lk_X10_25 sh_1 cl_5 rfl (by decide) (by decide) (Nat.le_of_ble_eq_true rfl) ⟨Nat.le_of_ble_eq_true rfl, Nat.le_of_ble_eq_true rfl⟩ rfl ?_
          show QW G (qrm 4 0 0) YX10_safeAnswer 0 0 43 [some (.ref 1), some (.int x1), some (.int x2), some (.int c3), some (.int c4)] [.int r12, .int c3] SH M J _
          refine q_max (pc := 43) dX10_safeAnswer_43 lk_X10_29 (by decide) (Nat.le_of_ble_eq_true rfl) (Nat.le_of_ble_eq_true rfl) (Nat.le_of_ble_eq_true rfl) ?_
          refine q_istore_n (pc := 46) (ls' := [some (.ref 1), some (.int x1), some (.int x2), some (.int (qmax c3 r12)), some (.int c4)]) dX10_safeAnswer_46 (by decide) rfl rfl ?_
          refine q_iincW (pc := 47) (w := nI 1) (ls' := [some (.ref 1), some (.int x1), some (.int x2), some (.int (qmax c3 r12)), some (.int (c4 + nI 1))]) dX10_safeAnswer_47 rfl (by decide) (by decide) rfl rfl ?_
          refine q_goto (pc := 50) (tgt := 5) dX10_safeAnswer_50 (by decide) ?_
          exact l_X10_safeAnswer_L5 x1 x2 M J n (qmax c3 r12) (c4 + nI 1) res h hk
        · rw [if_neg k9] at h
          refine q_if_eq_t (pc := 31) (tgt := 47) dX10_safeAnswer_31 (by decide) (qb_f k9) ?_
          refine q_iincW (pc := 47) (w := nI 1) (ls' := [some (.ref 1), some (.int x1), some (.int x2), some (.int c3), some (.int (c4 + nI 1))]) dX10_safeAnswer_47 rfl (by decide) (by decide) rfl rfl ?_
          refine q_goto (pc := 50) (tgt := 5) dX10_safeAnswer_50 (by decide) ?_
          exact l_X10_safeAnswer_L5 x1 x2 M J n c3 (c4 + nI 1) res h hk
      · rw [if_neg k5] at h
        refine q_icmp_ne_t (pc := 21) (tgt := 47) dX10_safeAnswer_21 (by decide) k5 ?_
        refine q_iincW (pc := 47) (w := nI 1) (ls' := [some (.ref 1), some (.int x1), some (.int x2), some (.int c3), some (.int (c4 + nI 1))]) dX10_safeAnswer_47 rfl (by decide) (by decide) rfl rfl ?_
        refine q_goto (pc := 50) (tgt := 5) dX10_safeAnswer_50 (by decide) ?_
        exact l_X10_safeAnswer_L5 x1 x2 M J n c3 (c4 + nI 1) res h hk
def f_X10_safeAnswer (a1 : Int32) (a2 : Int32) (M : qM) : Option Int32 :=
  (f_X10_safeAnswer_L5 a1 a2 M qF (nI 0) (nI 0)).bind fun e13 => some (e13.1)
set_option maxRecDepth 20000 in
set_option maxHeartbeats 4000000 in
theorem a_X10_safeAnswer {G : qG} {a1 : Int32} {a2 : Int32} {M : qM} {J : qJ} {r : Int32} (h : f_X10_safeAnswer a1 a2 M = some (r)) : QM G 4 0 0 YX10_safeAnswer [.ref 1, .int a1, .int a2] SH M J (some (.int r), SH, M, J) := by
  refine ⟨Nat.le_of_ble_eq_true rfl, Or.inl rfl, ?_⟩
  show QW G (qrm 4 0 0) YX10_safeAnswer 0 0 0 [some (.ref 1), some (.int a1), some (.int a2), none, none] [] SH M J _
  unfold f_X10_safeAnswer at h
  refine q_iconst (pc := 0) (v := nI 0) dX10_safeAnswer_0 (by decide) ?_
  refine q_istore_n (pc := 1) (ls' := [some (.ref 1), some (.int a1), some (.int a2), some (.int (nI 0)), none]) dX10_safeAnswer_1 (by decide) rfl rfl ?_
  refine q_iconst (pc := 2) (v := nI 0) dX10_safeAnswer_2 (by decide) ?_
  refine q_istore (pc := 3) (ls' := [some (.ref 1), some (.int a1), some (.int a2), some (.int (nI 0)), some (.int (nI 0))]) dX10_safeAnswer_3 (by decide) rfl rfl ?_
  obtain ⟨⟨e13_3, e13_4⟩, h14, h⟩ := Option.bind_eq_some_iff.mp h
  try dsimp only at h
  refine l_X10_safeAnswer_L5 a1 a2 M J qF (nI 0) (nI 0) _ h14 (fun x hx => ?_)
  subst hx
  show QW G (qrm 4 0 0) YX10_safeAnswer 0 0 53 [none, none, none, some (.int e13_3), none] [] SH M J _
  refine q_iload_n (pc := 53) dX10_safeAnswer_53 rfl ?_
  obtain rfl := Option.some.inj h
  exact q_iret (pc := 54) dX10_safeAnswer_54 rfl rfl rfl
def f_X10_plain_L13 (x1 : Int32) (M : qM) : Nat → Int32 → Int32 → Option (Int32 × Int32)
  | 0, _, _ => none
  | n + 1, c2, c3 =>
  (f_X5_couples M).bind fun r6 => if r6 ≤ c3 then some (c2, c3)
    else (f_X5_waits c3 M).bind fun b10 => if b10 = true then (f_X10_safeAnswer c3 x1 M).bind fun r14 => if r14 = 0 then f_X10_plain_L13 x1 M n (c2 ||| ((nI 1) <<< (c3 &&& 31))) (c3 + nI 1)
    else f_X10_plain_L13 x1 M n c2 (c3 + nI 1)
    else f_X10_plain_L13 x1 M n c2 (c3 + nI 1)
set_option maxRecDepth 20000 in
set_option maxHeartbeats 4000000 in
theorem l_X10_plain_L13 {G : qG} {ρ : qR} (x1 : Int32) (M : qM) (J : qJ) : ∀ (n : Nat) (c2 : Int32) (c3 : Int32) (res : Int32 × Int32), f_X10_plain_L13 x1 M n c2 c3 = some res → (∀ x : Int32 × Int32, res = x → QW G (qrm 5 0 0) YX10_plain 0 0 50 [none, none, some (.int x.1), none] [] SH M J ρ) → QW G (qrm 5 0 0) YX10_plain 0 0 13 [some (.ref 1), some (.int x1), some (.int c2), some (.int c3)] [] SH M J ρ
  | 0, _, _, _, h, _ => by simp [f_X10_plain_L13] at h
  | n + 1, c2, c3, res, h, hk => by
    rw [f_X10_plain_L13] at h
    refine q_iload_n (pc := 13) dX10_plain_13 rfl ?_
    refine q_aload_n (pc := 14) dX10_plain_14 rfl ?_
    obtain ⟨r6, h5, h⟩ := Option.bind_eq_some_iff.mp h
    refine q_callv (pc := 15) (st := [.int c3]) (a_X5_couples h5) okX5_couples rfl dX10_plain_15 lk_X10_35 sh_1 cl_5 rfl (by decide) (by decide) (Nat.le_of_ble_eq_true rfl) ⟨Nat.le_of_ble_eq_true rfl, Nat.le_of_ble_eq_true rfl⟩ rfl ?_
    show QW G (qrm 5 0 0) YX10_plain 0 0 18 [some (.ref 1), some (.int x1), some (.int c2), some (.int c3)] [.int r6, .int c3] SH M J _
    by_cases k7 : r6 ≤ c3
    · rw [if_pos k7] at h
      refine q_icmp_ge_t (pc := 18) (tgt := 50) dX10_plain_18 (by decide) k7 ?_
      refine q_weak (ls' := [none, none, some (.int c2), none]) ⟨rfl, trivial⟩ ?_
      obtain rfl := Option.some.inj h
      exact hk (c2, c3) rfl
    · rw [if_neg k7] at h
      refine q_icmp_ge_f (pc := 18) (tgt := 50) dX10_plain_18 (by decide) k7 ?_
      refine q_aload_n (pc := 21) dX10_plain_21 rfl ?_
      refine q_iload_n (pc := 22) dX10_plain_22 rfl ?_
      obtain ⟨b10, h9, h⟩ := Option.bind_eq_some_iff.mp h
      refine q_callv (pc := 23) (st := []) (a_X5_waits h9) okX5_waits rfl dX10_plain_23 lk_X10_38 sh_1 cl_5 rfl (by decide) (by decide) (Nat.le_of_ble_eq_true rfl) ⟨Nat.le_of_ble_eq_true rfl, Nat.le_of_ble_eq_true rfl⟩ rfl ?_
      show QW G (qrm 5 0 0) YX10_plain 0 0 26 [some (.ref 1), some (.int x1), some (.int c2), some (.int c3)] [.int (qb b10)] SH M J _
      by_cases k11 : b10 = true
      · rw [if_pos k11] at h
        refine q_if_eq_f (pc := 26) (tgt := 44) dX10_plain_26 (by decide) (qb_t k11) ?_
        refine q_aload_n (pc := 29) dX10_plain_29 rfl ?_
        refine q_iload_n (pc := 30) dX10_plain_30 rfl ?_
        refine q_iload_n (pc := 31) dX10_plain_31 rfl ?_
        obtain ⟨r14, h13, h⟩ := Option.bind_eq_some_iff.mp h
        refine q_calls (pc := 32) (st := []) (a_X10_safeAnswer h13) okX10_safeAnswer rfl dX10_plain_32 lk_X10_42 rfl (by decide) (by decide) (Nat.le_of_ble_eq_true rfl) ⟨Nat.le_of_ble_eq_true rfl, Nat.le_of_ble_eq_true rfl⟩ rfl ?_
        show QW G (qrm 5 0 0) YX10_plain 0 0 35 [some (.ref 1), some (.int x1), some (.int c2), some (.int c3)] [.int r14] SH M J _
        by_cases k15 : r14 = 0
        · rw [if_pos k15] at h
          refine q_if_ne_f (pc := 35) (tgt := 44) dX10_plain_35 (by decide) k15 ?_
          refine q_iload_n (pc := 38) dX10_plain_38 rfl ?_
          refine q_iconst (pc := 39) (v := nI 1) dX10_plain_39 (by decide) ?_
          refine q_iload_n (pc := 40) dX10_plain_40 rfl ?_
          refine q_ishl (pc := 41) dX10_plain_41 ?_
          refine q_ior (pc := 42) dX10_plain_42 ?_
          refine q_istore_n (pc := 43) (ls' := [some (.ref 1), some (.int x1), some (.int (c2 ||| ((nI 1) <<< (c3 &&& 31)))), some (.int c3)]) dX10_plain_43 (by decide) rfl rfl ?_
          refine q_iincW (pc := 44) (w := nI 1) (ls' := [some (.ref 1), some (.int x1), some (.int (c2 ||| ((nI 1) <<< (c3 &&& 31)))), some (.int (c3 + nI 1))]) dX10_plain_44 rfl (by decide) (by decide) rfl rfl ?_
          refine q_goto (pc := 47) (tgt := 13) dX10_plain_47 (by decide) ?_
          exact l_X10_plain_L13 x1 M J n (c2 ||| ((nI 1) <<< (c3 &&& 31))) (c3 + nI 1) res h hk
        · rw [if_neg k15] at h
          refine q_if_ne_t (pc := 35) (tgt := 44) dX10_plain_35 (by decide) k15 ?_
          refine q_iincW (pc := 44) (w := nI 1) (ls' := [some (.ref 1), some (.int x1), some (.int c2), some (.int (c3 + nI 1))]) dX10_plain_44 rfl (by decide) (by decide) rfl rfl ?_
          refine q_goto (pc := 47) (tgt := 13) dX10_plain_47 (by decide) ?_
          exact l_X10_plain_L13 x1 M J n c2 (c3 + nI 1) res h hk
      · rw [if_neg k11] at h
        refine q_if_eq_t (pc := 26) (tgt := 44) dX10_plain_26 (by decide) (qb_f k11) ?_
        refine q_iincW (pc := 44) (w := nI 1) (ls' := [some (.ref 1), some (.int x1), some (.int c2), some (.int (c3 + nI 1))]) dX10_plain_44 rfl (by decide) (by decide) rfl rfl ?_
        refine q_goto (pc := 47) (tgt := 13) dX10_plain_47 (by decide) ?_
        exact l_X10_plain_L13 x1 M J n c2 (c3 + nI 1) res h hk
def f_X10_plain  (M : qM) : Option Int32 :=
  (f_X5_objectors M).bind fun r3 => (f_X10_plain_L13 (((nI 1) <<< (r3 &&& 31)) - (nI 1)) M qF (nI 0) (nI 0)).bind fun e16 => some (e16.1)
set_option maxRecDepth 20000 in
set_option maxHeartbeats 4000000 in
theorem a_X10_plain {G : qG}  {M : qM} {J : qJ} {r : Int32} (h : f_X10_plain  M = some (r)) : QM G 5 0 0 YX10_plain [.ref 1] SH M J (some (.int r), SH, M, J) := by
  refine ⟨Nat.le_of_ble_eq_true rfl, Or.inl rfl, ?_⟩
  show QW G (qrm 5 0 0) YX10_plain 0 0 0 [some (.ref 1), none, none, none] [] SH M J _
  unfold f_X10_plain at h
  refine q_iconst (pc := 0) (v := nI 1) dX10_plain_0 (by decide) ?_
  refine q_aload_n (pc := 1) dX10_plain_1 rfl ?_
  obtain ⟨r3, h2, h⟩ := Option.bind_eq_some_iff.mp h
  refine q_callv (pc := 2) (st := [.int (nI 1)]) (a_X5_objectors h2) okX5_objectors rfl dX10_plain_2 lk_X10_9 sh_1 cl_5 rfl (by decide) (by decide) (Nat.le_of_ble_eq_true rfl) ⟨Nat.le_of_ble_eq_true rfl, Nat.le_of_ble_eq_true rfl⟩ rfl ?_
  show QW G (qrm 5 0 0) YX10_plain 0 0 5 [some (.ref 1), none, none, none] [.int r3, .int (nI 1)] SH M J _
  refine q_ishl (pc := 5) dX10_plain_5 ?_
  refine q_iconst (pc := 6) (v := nI 1) dX10_plain_6 (by decide) ?_
  refine q_isub (pc := 7) dX10_plain_7 ?_
  refine q_istore_n (pc := 8) (ls' := [some (.ref 1), some (.int (((nI 1) <<< (r3 &&& 31)) - (nI 1))), none, none]) dX10_plain_8 (by decide) rfl rfl ?_
  refine q_iconst (pc := 9) (v := nI 0) dX10_plain_9 (by decide) ?_
  refine q_istore_n (pc := 10) (ls' := [some (.ref 1), some (.int (((nI 1) <<< (r3 &&& 31)) - (nI 1))), some (.int (nI 0)), none]) dX10_plain_10 (by decide) rfl rfl ?_
  refine q_iconst (pc := 11) (v := nI 0) dX10_plain_11 (by decide) ?_
  refine q_istore_n (pc := 12) (ls' := [some (.ref 1), some (.int (((nI 1) <<< (r3 &&& 31)) - (nI 1))), some (.int (nI 0)), some (.int (nI 0))]) dX10_plain_12 (by decide) rfl rfl ?_
  obtain ⟨⟨e16_2, e16_3⟩, h17, h⟩ := Option.bind_eq_some_iff.mp h
  try dsimp only at h
  refine l_X10_plain_L13 (((nI 1) <<< (r3 &&& 31)) - (nI 1)) M J qF (nI 0) (nI 0) _ h17 (fun x hx => ?_)
  subst hx
  show QW G (qrm 5 0 0) YX10_plain 0 0 50 [none, none, some (.int e16_2), none] [] SH M J _
  refine q_iload_n (pc := 50) dX10_plain_50 rfl ?_
  obtain rfl := Option.some.inj h
  exact q_iret (pc := 51) dX10_plain_51 rfl rfl rfl
def f_X5_strong (a1 : Int32) (M : qM) : Option Int32 :=
  (qrd M 2 172 ((nI 18) + a1)).bind fun v1 => some (v1)
set_option maxRecDepth 20000 in
set_option maxHeartbeats 4000000 in
theorem a_X5_strong {G : qG} {a1 : Int32} {M : qM} {J : qJ} {r : Int32} (h : f_X5_strong a1 M = some (r)) : QM G 0 0 0 YX5_strong [.ref 1, .int a1] SH M J (some (.int r), SH, M, J) := by
  refine ⟨Nat.le_of_ble_eq_true rfl, Or.inl rfl, ?_⟩
  show QW G (qrm 0 0 0) YX5_strong 0 0 0 [some (.ref 1), some (.int a1)] [] SH M J _
  unfold f_X5_strong at h
  refine q_aload_n (pc := 0) dX5_strong_0 rfl ?_
  refine q_getf (pc := 1) (f := 0) (v := .ref 2) dX5_strong_1 sh_1 cl_5 inX5 rfl (by decide) lk_X5_11 rfl ?_
  refine q_bipush (pc := 4) (v := nI 18) dX5_strong_4 (by decide) ?_
  refine q_iload_n (pc := 6) dX5_strong_6 rfl ?_
  refine q_iadd (pc := 7) dX5_strong_7 ?_
  obtain ⟨v1, h2, h⟩ := Option.bind_eq_some_iff.mp h
  refine q_iald (pc := 8) dX5_strong_8 sh_2 h2 ?_
  obtain rfl := Option.some.inj h
  exact q_iret (pc := 9) dX5_strong_9 rfl rfl rfl
def f_X10_firmest_L4  (M : qM) : Nat → Int32 → Int32 → Option (Int32 × Int32)
  | 0, _, _ => none
  | n + 1, c1, c2 =>
  (f_X5_couples M).bind fun r3 => if r3 ≤ c2 then some (c1, c2)
    else (f_X5_fate c2 M).bind fun r7 => if r7 = (nI 1) then if c1 = (-1 : Int32) then f_X10_firmest_L4  M n c2 (c2 + nI 1)
    else (f_X5_strong c2 M).bind fun r12 => (f_X5_strong c1 M).bind fun r15 => if r12 ≤ r15 then f_X10_firmest_L4  M n c1 (c2 + nI 1)
    else f_X10_firmest_L4  M n c2 (c2 + nI 1)
    else f_X10_firmest_L4  M n c1 (c2 + nI 1)
set_option maxRecDepth 20000 in
set_option maxHeartbeats 4000000 in
theorem l_X10_firmest_L4 {G : qG} {ρ : qR}  (M : qM) (J : qJ) : ∀ (n : Nat) (c1 : Int32) (c2 : Int32) (res : Int32 × Int32), f_X10_firmest_L4  M n c1 c2 = some res → (∀ x : Int32 × Int32, res = x → QW G (qrm 1 0 0) YX10_firmest 0 0 47 [none, some (.int x.1), none] [] SH M J ρ) → QW G (qrm 1 0 0) YX10_firmest 0 0 4 [some (.ref 1), some (.int c1), some (.int c2)] [] SH M J ρ
  | 0, _, _, _, h, _ => by simp [f_X10_firmest_L4] at h
  | n + 1, c1, c2, res, h, hk => by
    rw [f_X10_firmest_L4] at h
    refine q_iload_n (pc := 4) dX10_firmest_4 rfl ?_
    refine q_aload_n (pc := 5) dX10_firmest_5 rfl ?_
    obtain ⟨r3, h2, h⟩ := Option.bind_eq_some_iff.mp h
    refine q_callv (pc := 6) (st := [.int c2]) (a_X5_couples h2) okX5_couples rfl dX10_firmest_6 lk_X10_35 sh_1 cl_5 rfl (by decide) (by decide) (Nat.le_of_ble_eq_true rfl) ⟨Nat.le_of_ble_eq_true rfl, Nat.le_of_ble_eq_true rfl⟩ rfl ?_
    show QW G (qrm 1 0 0) YX10_firmest 0 0 9 [some (.ref 1), some (.int c1), some (.int c2)] [.int r3, .int c2] SH M J _
    by_cases k4 : r3 ≤ c2
    · rw [if_pos k4] at h
      refine q_icmp_ge_t (pc := 9) (tgt := 47) dX10_firmest_9 (by decide) k4 ?_
      refine q_weak (ls' := [none, some (.int c1), none]) ⟨rfl, trivial⟩ ?_
      obtain rfl := Option.some.inj h
      exact hk (c1, c2) rfl
    · rw [if_neg k4] at h
      refine q_icmp_ge_f (pc := 9) (tgt := 47) dX10_firmest_9 (by decide) k4 ?_
      refine q_aload_n (pc := 12) dX10_firmest_12 rfl ?_
      refine q_iload_n (pc := 13) dX10_firmest_13 rfl ?_
      obtain ⟨r7, h6, h⟩ := Option.bind_eq_some_iff.mp h
      refine q_callv (pc := 14) (st := []) (a_X5_fate h6) okX5_fate rfl dX10_firmest_14 lk_X10_46 sh_1 cl_5 rfl (by decide) (by decide) (Nat.le_of_ble_eq_true rfl) ⟨Nat.le_of_ble_eq_true rfl, Nat.le_of_ble_eq_true rfl⟩ rfl ?_
      show QW G (qrm 1 0 0) YX10_firmest 0 0 17 [some (.ref 1), some (.int c1), some (.int c2)] [.int r7] SH M J _
      refine q_iconst (pc := 17) (v := nI 1) dX10_firmest_17 (by decide) ?_
      by_cases k8 : r7 = (nI 1)
      · rw [if_pos k8] at h
        refine q_icmp_ne_f (pc := 18) (tgt := 41) dX10_firmest_18 (by decide) k8 ?_
        refine q_iload_n (pc := 21) dX10_firmest_21 rfl ?_
        refine q_iconst (pc := 22) (v := (-1 : Int32)) dX10_firmest_22 (by decide) ?_
        by_cases k9 : c1 = (-1 : Int32)
        · rw [if_pos k9] at h
          refine q_icmp_eq_t (pc := 23) (tgt := 39) dX10_firmest_23 (by decide) k9 ?_
          refine q_iload_n (pc := 39) dX10_firmest_39 rfl ?_
          refine q_istore_n (pc := 40) (ls' := [some (.ref 1), some (.int c2), some (.int c2)]) dX10_firmest_40 (by decide) rfl rfl ?_
          refine q_iincW (pc := 41) (w := nI 1) (ls' := [some (.ref 1), some (.int c2), some (.int (c2 + nI 1))]) dX10_firmest_41 rfl (by decide) (by decide) rfl rfl ?_
          refine q_goto (pc := 44) (tgt := 4) dX10_firmest_44 (by decide) ?_
          exact l_X10_firmest_L4  M J n c2 (c2 + nI 1) res h hk
        · rw [if_neg k9] at h
          refine q_icmp_eq_f (pc := 23) (tgt := 39) dX10_firmest_23 (by decide) k9 ?_
          refine q_aload_n (pc := 26) dX10_firmest_26 rfl ?_
          refine q_iload_n (pc := 27) dX10_firmest_27 rfl ?_
          obtain ⟨r12, h11, h⟩ := Option.bind_eq_some_iff.mp h
          refine q_callv (pc := 28) (st := []) (a_X5_strong h11) okX5_strong rfl dX10_firmest_28 lk_X10_50 sh_1 cl_5 rfl (by decide) (by decide) (Nat.le_of_ble_eq_true rfl) ⟨Nat.le_of_ble_eq_true rfl, Nat.le_of_ble_eq_true rfl⟩ rfl ?_
          show QW G (qrm 1 0 0) YX10_firmest 0 0 31 [some (.ref 1), some (.int c1), some (.int c2)] [.int r12] SH M J _
          refine q_aload_n (pc := 31) dX10_firmest_31 rfl ?_
          refine q_iload_n (pc := 32) dX10_firmest_32 rfl ?_
          obtain ⟨r15, h14, h⟩ := Option.bind_eq_some_iff.mp h
          refine q_callv (pc := 33) (st := [.int r12]) (a_X5_strong h14) okX5_strong rfl dX10_firmest_33 lk_X10_50 sh_1 cl_5 rfl (by decide) (by decide) (Nat.le_of_ble_eq_true rfl) ⟨Nat.le_of_ble_eq_true rfl, Nat.le_of_ble_eq_true rfl⟩ rfl ?_
          show QW G (qrm 1 0 0) YX10_firmest 0 0 36 [some (.ref 1), some (.int c1), some (.int c2)] [.int r15, .int r12] SH M J _
          by_cases k16 : r12 ≤ r15
          · rw [if_pos k16] at h
            refine q_icmp_le_t (pc := 36) (tgt := 41) dX10_firmest_36 (by decide) k16 ?_
            refine q_iincW (pc := 41) (w := nI 1) (ls' := [some (.ref 1), some (.int c1), some (.int (c2 + nI 1))]) dX10_firmest_41 rfl (by decide) (by decide) rfl rfl ?_
            refine q_goto (pc := 44) (tgt := 4) dX10_firmest_44 (by decide) ?_
            exact l_X10_firmest_L4  M J n c1 (c2 + nI 1) res h hk
          · rw [if_neg k16] at h
            refine q_icmp_le_f (pc := 36) (tgt := 41) dX10_firmest_36 (by decide) k16 ?_
            refine q_iload_n (pc := 39) dX10_firmest_39 rfl ?_
            refine q_istore_n (pc := 40) (ls' := [some (.ref 1), some (.int c2), some (.int c2)]) dX10_firmest_40 (by decide) rfl rfl ?_
            refine q_iincW (pc := 41) (w := nI 1) (ls' := [some (.ref 1), some (.int c2), some (.int (c2 + nI 1))]) dX10_firmest_41 rfl (by decide) (by decide) rfl rfl ?_
            refine q_goto (pc := 44) (tgt := 4) dX10_firmest_44 (by decide) ?_
            exact l_X10_firmest_L4  M J n c2 (c2 + nI 1) res h hk
      · rw [if_neg k8] at h
        refine q_icmp_ne_t (pc := 18) (tgt := 41) dX10_firmest_18 (by decide) k8 ?_
        refine q_iincW (pc := 41) (w := nI 1) (ls' := [some (.ref 1), some (.int c1), some (.int (c2 + nI 1))]) dX10_firmest_41 rfl (by decide) (by decide) rfl rfl ?_
        refine q_goto (pc := 44) (tgt := 4) dX10_firmest_44 (by decide) ?_
        exact l_X10_firmest_L4  M J n c1 (c2 + nI 1) res h hk
def f_X10_firmest  (M : qM) : Option Int32 :=
  (f_X10_firmest_L4 M qF (-1 : Int32) (nI 0)).bind fun e17 => some (e17.1)
set_option maxRecDepth 20000 in
set_option maxHeartbeats 4000000 in
theorem a_X10_firmest {G : qG}  {M : qM} {J : qJ} {r : Int32} (h : f_X10_firmest  M = some (r)) : QM G 1 0 0 YX10_firmest [.ref 1] SH M J (some (.int r), SH, M, J) := by
  refine ⟨Nat.le_of_ble_eq_true rfl, Or.inl rfl, ?_⟩
  show QW G (qrm 1 0 0) YX10_firmest 0 0 0 [some (.ref 1), none, none] [] SH M J _
  unfold f_X10_firmest at h
  refine q_iconst (pc := 0) (v := (-1 : Int32)) dX10_firmest_0 (by decide) ?_
  refine q_istore_n (pc := 1) (ls' := [some (.ref 1), some (.int (-1 : Int32)), none]) dX10_firmest_1 (by decide) rfl rfl ?_
  refine q_iconst (pc := 2) (v := nI 0) dX10_firmest_2 (by decide) ?_
  refine q_istore_n (pc := 3) (ls' := [some (.ref 1), some (.int (-1 : Int32)), some (.int (nI 0))]) dX10_firmest_3 (by decide) rfl rfl ?_
  obtain ⟨⟨e17_1, e17_2⟩, h18, h⟩ := Option.bind_eq_some_iff.mp h
  try dsimp only at h
  refine l_X10_firmest_L4 M J qF (-1 : Int32) (nI 0) _ h18 (fun x hx => ?_)
  subst hx
  show QW G (qrm 1 0 0) YX10_firmest 0 0 47 [none, some (.int e17_1), none] [] SH M J _
  refine q_iload_n (pc := 47) dX10_firmest_47 rfl ?_
  obtain rfl := Option.some.inj h
  exact q_iret (pc := 48) dX10_firmest_48 rfl rfl rfl
def f_X5_answer (a1 : Int32) (M : qM) : Option Int32 :=
  (qrd M 2 172 ((nI 6) + a1)).bind fun v1 => some (v1)
set_option maxRecDepth 20000 in
set_option maxHeartbeats 4000000 in
theorem a_X5_answer {G : qG} {a1 : Int32} {M : qM} {J : qJ} {r : Int32} (h : f_X5_answer a1 M = some (r)) : QM G 0 0 0 YX5_answer [.ref 1, .int a1] SH M J (some (.int r), SH, M, J) := by
  refine ⟨Nat.le_of_ble_eq_true rfl, Or.inl rfl, ?_⟩
  show QW G (qrm 0 0 0) YX5_answer 0 0 0 [some (.ref 1), some (.int a1)] [] SH M J _
  unfold f_X5_answer at h
  refine q_aload_n (pc := 0) dX5_answer_0 rfl ?_
  refine q_getf (pc := 1) (f := 0) (v := .ref 2) dX5_answer_1 sh_1 cl_5 inX5 rfl (by decide) lk_X5_11 rfl ?_
  refine q_bipush (pc := 4) (v := nI 6) dX5_answer_4 (by decide) ?_
  refine q_iload_n (pc := 6) dX5_answer_6 rfl ?_
  refine q_iadd (pc := 7) dX5_answer_7 ?_
  obtain ⟨v1, h2, h⟩ := Option.bind_eq_some_iff.mp h
  refine q_iald (pc := 8) dX5_answer_8 sh_2 h2 ?_
  obtain rfl := Option.some.inj h
  exact q_iret (pc := 9) dX5_answer_9 rfl rfl rfl
def f_X5_wedIn (a1 : Int32) (a2 : Int32) (a3 : Int32) (M : qM) : Option Bool :=
  (f_X5_strengthIn a1 a2 a3 M).bind fun r3 => (f_X5_answer a2 M).bind fun r6 => (f_X5_waits a2 M).bind fun b9 => if b9 = true then (f_X5_least M).bind fun r13 => if r3 < r13 then some (false)
    else if (qmin (nI 99) (r6 + a3)) < r3 then some (false)
    else some (true)
    else some (false)
set_option maxRecDepth 20000 in
set_option maxHeartbeats 4000000 in
theorem a_X5_wedIn {G : qG} {a1 : Int32} {a2 : Int32} {a3 : Int32} {M : qM} {J : qJ} {r : Bool} (h : f_X5_wedIn a1 a2 a3 M = some (r)) : QM G 3 0 0 YX5_wedIn [.ref 1, .int a1, .int a2, .int a3] SH M J (some (.int (qb r)), SH, M, J) := by
  refine ⟨Nat.le_of_ble_eq_true rfl, Or.inr ⟨rfl, _, rfl⟩, ?_⟩
  show QW G (qrm 3 0 0) YX5_wedIn 0 0 0 [some (.ref 1), some (.int a1), some (.int a2), some (.int a3), none, none] [] SH M J _
  unfold f_X5_wedIn at h
  refine q_aload_n (pc := 0) dX5_wedIn_0 rfl ?_
  refine q_iload_n (pc := 1) dX5_wedIn_1 rfl ?_
  refine q_iload_n (pc := 2) dX5_wedIn_2 rfl ?_
  refine q_iload_n (pc := 3) dX5_wedIn_3 rfl ?_
  obtain ⟨r3, h2, h⟩ := Option.bind_eq_some_iff.mp h
  refine q_callv (pc := 4) (st := []) (a_X5_strengthIn h2) okX5_strengthIn rfl dX5_wedIn_4 lk_X5_60 sh_1 cl_5 rfl (by decide) (by decide) (Nat.le_of_ble_eq_true rfl) ⟨Nat.le_of_ble_eq_true rfl, Nat.le_of_ble_eq_true rfl⟩ rfl ?_
  show QW G (qrm 3 0 0) YX5_wedIn 0 0 7 [some (.ref 1), some (.int a1), some (.int a2), some (.int a3), none, none] [.int r3] SH M J _
  refine q_istore (pc := 7) (ls' := [some (.ref 1), some (.int a1), some (.int a2), some (.int a3), some (.int r3), none]) dX5_wedIn_7 (by decide) rfl rfl ?_
  refine q_bipush (pc := 9) (v := nI 99) dX5_wedIn_9 (by decide) ?_
  refine q_aload_n (pc := 11) dX5_wedIn_11 rfl ?_
  refine q_iload_n (pc := 12) dX5_wedIn_12 rfl ?_
  obtain ⟨r6, h5, h⟩ := Option.bind_eq_some_iff.mp h
  refine q_callv (pc := 13) (st := [.int (nI 99)]) (a_X5_answer h5) okX5_answer rfl dX5_wedIn_13 lk_X5_66 sh_1 cl_5 rfl (by decide) (by decide) (Nat.le_of_ble_eq_true rfl) ⟨Nat.le_of_ble_eq_true rfl, Nat.le_of_ble_eq_true rfl⟩ rfl ?_
  show QW G (qrm 3 0 0) YX5_wedIn 0 0 16 [some (.ref 1), some (.int a1), some (.int a2), some (.int a3), some (.int r3), none] [.int r6, .int (nI 99)] SH M J _
  refine q_iload_n (pc := 16) dX5_wedIn_16 rfl ?_
  refine q_iadd (pc := 17) dX5_wedIn_17 ?_
  refine q_min (pc := 18) dX5_wedIn_18 lk_X5_51 (by decide) (Nat.le_of_ble_eq_true rfl) (Nat.le_of_ble_eq_true rfl) (Nat.le_of_ble_eq_true rfl) ?_
  refine q_istore (pc := 21) (ls' := [some (.ref 1), some (.int a1), some (.int a2), some (.int a3), some (.int r3), some (.int (qmin (nI 99) (r6 + a3)))]) dX5_wedIn_21 (by decide) rfl rfl ?_
  refine q_aload_n (pc := 23) dX5_wedIn_23 rfl ?_
  refine q_iload_n (pc := 24) dX5_wedIn_24 rfl ?_
  obtain ⟨b9, h8, h⟩ := Option.bind_eq_some_iff.mp h
  refine q_callv (pc := 25) (st := []) (a_X5_waits h8) okX5_waits rfl dX5_wedIn_25 lk_X5_69 sh_1 cl_5 rfl (by decide) (by decide) (Nat.le_of_ble_eq_true rfl) ⟨Nat.le_of_ble_eq_true rfl, Nat.le_of_ble_eq_true rfl⟩ rfl ?_
  show QW G (qrm 3 0 0) YX5_wedIn 0 0 28 [some (.ref 1), some (.int a1), some (.int a2), some (.int a3), some (.int r3), some (.int (qmin (nI 99) (r6 + a3)))] [.int (qb b9)] SH M J _
  by_cases k10 : b9 = true
  · rw [if_pos k10] at h
    refine q_if_eq_f (pc := 28) (tgt := 51) dX5_wedIn_28 (by decide) (qb_t k10) ?_
    refine q_iload (pc := 31) dX5_wedIn_31 rfl ?_
    refine q_aload_n (pc := 33) dX5_wedIn_33 rfl ?_
    obtain ⟨r13, h12, h⟩ := Option.bind_eq_some_iff.mp h
    refine q_callv (pc := 34) (st := [.int r3]) (a_X5_least h12) okX5_least rfl dX5_wedIn_34 lk_X5_63 sh_1 cl_5 rfl (by decide) (by decide) (Nat.le_of_ble_eq_true rfl) ⟨Nat.le_of_ble_eq_true rfl, Nat.le_of_ble_eq_true rfl⟩ rfl ?_
    show QW G (qrm 3 0 0) YX5_wedIn 0 0 37 [some (.ref 1), some (.int a1), some (.int a2), some (.int a3), some (.int r3), some (.int (qmin (nI 99) (r6 + a3)))] [.int r13, .int r3] SH M J _
    by_cases k14 : r3 < r13
    · rw [if_pos k14] at h
      refine q_icmp_lt_t (pc := 37) (tgt := 51) dX5_wedIn_37 (by decide) k14 ?_
      refine q_iconst (pc := 51) (v := nI 0) dX5_wedIn_51 (by decide) ?_
      obtain rfl := Option.some.inj h
      exact q_iret (pc := 52) dX5_wedIn_52 rfl rfl rfl
    · rw [if_neg k14] at h
      refine q_icmp_lt_f (pc := 37) (tgt := 51) dX5_wedIn_37 (by decide) k14 ?_
      refine q_iload (pc := 40) dX5_wedIn_40 rfl ?_
      refine q_iload (pc := 42) dX5_wedIn_42 rfl ?_
      by_cases k15 : (qmin (nI 99) (r6 + a3)) < r3
      · rw [if_pos k15] at h
        refine q_icmp_lt_t (pc := 44) (tgt := 51) dX5_wedIn_44 (by decide) k15 ?_
        refine q_iconst (pc := 51) (v := nI 0) dX5_wedIn_51 (by decide) ?_
        obtain rfl := Option.some.inj h
        exact q_iret (pc := 52) dX5_wedIn_52 rfl rfl rfl
      · rw [if_neg k15] at h
        refine q_icmp_lt_f (pc := 44) (tgt := 51) dX5_wedIn_44 (by decide) k15 ?_
        refine q_iconst (pc := 47) (v := nI 1) dX5_wedIn_47 (by decide) ?_
        refine q_goto (pc := 48) (tgt := 52) dX5_wedIn_48 (by decide) ?_
        obtain rfl := Option.some.inj h
        exact q_iret (pc := 52) dX5_wedIn_52 rfl rfl rfl
  · rw [if_neg k10] at h
    refine q_if_eq_t (pc := 28) (tgt := 51) dX5_wedIn_28 (by decide) (qb_f k10) ?_
    refine q_iconst (pc := 51) (v := nI 0) dX5_wedIn_51 (by decide) ?_
    obtain rfl := Option.some.inj h
    exact q_iret (pc := 52) dX5_wedIn_52 rfl rfl rfl
def f_X10_can_L4 (x1 : Int32) (M : qM) : Nat → Int32 → Int32 → Option (Int32 × Int32)
  | 0, _, _ => none
  | n + 1, c2, c3 =>
  (f_X5_objectors M).bind fun r3 => if r3 ≤ c3 then some (c2, c3)
    else (f_X5_wedIn c3 x1 (nI 0) M).bind fun b7 => if b7 = true then f_X10_can_L4 x1 M n (c2 ||| ((nI 1) <<< (c3 &&& 31))) (c3 + nI 1)
    else f_X10_can_L4 x1 M n c2 (c3 + nI 1)
set_option maxRecDepth 20000 in
set_option maxHeartbeats 4000000 in
theorem l_X10_can_L4 {G : qG} {ρ : qR} (x1 : Int32) (M : qM) (J : qJ) : ∀ (n : Nat) (c2 : Int32) (c3 : Int32) (res : Int32 × Int32), f_X10_can_L4 x1 M n c2 c3 = some res → (∀ x : Int32 × Int32, res = x → QW G (qrm 4 0 0) YX10_can 0 0 34 [none, none, some (.int x.1), none] [] SH M J ρ) → QW G (qrm 4 0 0) YX10_can 0 0 4 [some (.ref 1), some (.int x1), some (.int c2), some (.int c3)] [] SH M J ρ
  | 0, _, _, _, h, _ => by simp [f_X10_can_L4] at h
  | n + 1, c2, c3, res, h, hk => by
    rw [f_X10_can_L4] at h
    refine q_iload_n (pc := 4) dX10_can_4 rfl ?_
    refine q_aload_n (pc := 5) dX10_can_5 rfl ?_
    obtain ⟨r3, h2, h⟩ := Option.bind_eq_some_iff.mp h
    refine q_callv (pc := 6) (st := [.int c3]) (a_X5_objectors h2) okX5_objectors rfl dX10_can_6 lk_X10_9 sh_1 cl_5 rfl (by decide) (by decide) (Nat.le_of_ble_eq_true rfl) ⟨Nat.le_of_ble_eq_true rfl, Nat.le_of_ble_eq_true rfl⟩ rfl ?_
    show QW G (qrm 4 0 0) YX10_can 0 0 9 [some (.ref 1), some (.int x1), some (.int c2), some (.int c3)] [.int r3, .int c3] SH M J _
    by_cases k4 : r3 ≤ c3
    · rw [if_pos k4] at h
      refine q_icmp_ge_t (pc := 9) (tgt := 34) dX10_can_9 (by decide) k4 ?_
      refine q_weak (ls' := [none, none, some (.int c2), none]) ⟨rfl, trivial⟩ ?_
      obtain rfl := Option.some.inj h
      exact hk (c2, c3) rfl
    · rw [if_neg k4] at h
      refine q_icmp_ge_f (pc := 9) (tgt := 34) dX10_can_9 (by decide) k4 ?_
      refine q_aload_n (pc := 12) dX10_can_12 rfl ?_
      refine q_iload_n (pc := 13) dX10_can_13 rfl ?_
      refine q_iload_n (pc := 14) dX10_can_14 rfl ?_
      refine q_iconst (pc := 15) (v := nI 0) dX10_can_15 (by decide) ?_
      obtain ⟨b7, h6, h⟩ := Option.bind_eq_some_iff.mp h
      refine q_callv (pc := 16) (st := []) (a_X5_wedIn h6) okX5_wedIn rfl dX10_can_16 lk_X10_15 sh_1 cl_5 rfl (by decide) (by decide) (Nat.le_of_ble_eq_true rfl) ⟨Nat.le_of_ble_eq_true rfl, Nat.le_of_ble_eq_true rfl⟩ rfl ?_
      show QW G (qrm 4 0 0) YX10_can 0 0 19 [some (.ref 1), some (.int x1), some (.int c2), some (.int c3)] [.int (qb b7)] SH M J _
      by_cases k8 : b7 = true
      · rw [if_pos k8] at h
        refine q_if_eq_f (pc := 19) (tgt := 28) dX10_can_19 (by decide) (qb_t k8) ?_
        refine q_iload_n (pc := 22) dX10_can_22 rfl ?_
        refine q_iconst (pc := 23) (v := nI 1) dX10_can_23 (by decide) ?_
        refine q_iload_n (pc := 24) dX10_can_24 rfl ?_
        refine q_ishl (pc := 25) dX10_can_25 ?_
        refine q_ior (pc := 26) dX10_can_26 ?_
        refine q_istore_n (pc := 27) (ls' := [some (.ref 1), some (.int x1), some (.int (c2 ||| ((nI 1) <<< (c3 &&& 31)))), some (.int c3)]) dX10_can_27 (by decide) rfl rfl ?_
        refine q_iincW (pc := 28) (w := nI 1) (ls' := [some (.ref 1), some (.int x1), some (.int (c2 ||| ((nI 1) <<< (c3 &&& 31)))), some (.int (c3 + nI 1))]) dX10_can_28 rfl (by decide) (by decide) rfl rfl ?_
        refine q_goto (pc := 31) (tgt := 4) dX10_can_31 (by decide) ?_
        exact l_X10_can_L4 x1 M J n (c2 ||| ((nI 1) <<< (c3 &&& 31))) (c3 + nI 1) res h hk
      · rw [if_neg k8] at h
        refine q_if_eq_t (pc := 19) (tgt := 28) dX10_can_19 (by decide) (qb_f k8) ?_
        refine q_iincW (pc := 28) (w := nI 1) (ls' := [some (.ref 1), some (.int x1), some (.int c2), some (.int (c3 + nI 1))]) dX10_can_28 rfl (by decide) (by decide) rfl rfl ?_
        refine q_goto (pc := 31) (tgt := 4) dX10_can_31 (by decide) ?_
        exact l_X10_can_L4 x1 M J n c2 (c3 + nI 1) res h hk
def f_X10_can (a1 : Int32) (M : qM) : Option Int32 :=
  (f_X10_can_L4 a1 M qF (nI 0) (nI 0)).bind fun e9 => some (e9.1)
set_option maxRecDepth 20000 in
set_option maxHeartbeats 4000000 in
theorem a_X10_can {G : qG} {a1 : Int32} {M : qM} {J : qJ} {r : Int32} (h : f_X10_can a1 M = some (r)) : QM G 4 0 0 YX10_can [.ref 1, .int a1] SH M J (some (.int r), SH, M, J) := by
  refine ⟨Nat.le_of_ble_eq_true rfl, Or.inl rfl, ?_⟩
  show QW G (qrm 4 0 0) YX10_can 0 0 0 [some (.ref 1), some (.int a1), none, none] [] SH M J _
  unfold f_X10_can at h
  refine q_iconst (pc := 0) (v := nI 0) dX10_can_0 (by decide) ?_
  refine q_istore_n (pc := 1) (ls' := [some (.ref 1), some (.int a1), some (.int (nI 0)), none]) dX10_can_1 (by decide) rfl rfl ?_
  refine q_iconst (pc := 2) (v := nI 0) dX10_can_2 (by decide) ?_
  refine q_istore_n (pc := 3) (ls' := [some (.ref 1), some (.int a1), some (.int (nI 0)), some (.int (nI 0))]) dX10_can_3 (by decide) rfl rfl ?_
  obtain ⟨⟨e9_2, e9_3⟩, h10, h⟩ := Option.bind_eq_some_iff.mp h
  try dsimp only at h
  refine l_X10_can_L4 a1 M J qF (nI 0) (nI 0) _ h10 (fun x hx => ?_)
  subst hx
  show QW G (qrm 4 0 0) YX10_can 0 0 34 [none, none, some (.int e9_2), none] [] SH M J _
  refine q_iload_n (pc := 34) dX10_can_34 rfl ?_
  obtain rfl := Option.some.inj h
  exact q_iret (pc := 35) dX10_can_35 rfl rfl rfl
def f_X1_weddable_L2 (x2 : Int32) (M : qM) : Nat → Int32 → Option ((Bool) ⊕ (Int32))
  | 0, _ => none
  | n + 1, c3 =>
  (f_X5_couples M).bind fun r3 => if r3 ≤ c3 then some (.inr (c3))
    else (f_X5_waits c3 M).bind fun b7 => if b7 = true then (qrd M 19 6 c3).bind fun v9 => if (v9 &&& x2) = 0 then some (.inl (false))
    else f_X1_weddable_L2 x2 M n (c3 + nI 1)
    else f_X1_weddable_L2 x2 M n (c3 + nI 1)
set_option maxRecDepth 20000 in
set_option maxHeartbeats 4000000 in
theorem l_X1_weddable_L2 {G : qG} {ρ : qR} (x2 : Int32) (M : qM) (J : qJ) : ∀ (n : Nat) (c3 : Int32) (res : (Bool) ⊕ (Int32)), f_X1_weddable_L2 x2 M n c3 = some res → (∀ x : Int32, res = .inr x → QW G (qrm 1 0 0) YX1_weddable 0 0 37 [none, none, none, none] [] SH M J ρ) → (∀ r : Bool, res = .inl r → (some (.int (qb r)), SH, M, J) = ρ) → QW G (qrm 1 0 0) YX1_weddable 0 0 2 [some (.ref 18), some (.ref 1), some (.int x2), some (.int c3)] [] SH M J ρ
  | 0, _, _, h, _, _ => by simp [f_X1_weddable_L2] at h
  | n + 1, c3, res, h, hk, hr => by
    rw [f_X1_weddable_L2] at h
    refine q_iload_n (pc := 2) dX1_weddable_2 rfl ?_
    refine q_aload_n (pc := 3) dX1_weddable_3 rfl ?_
    obtain ⟨r3, h2, h⟩ := Option.bind_eq_some_iff.mp h
    refine q_callv (pc := 4) (st := [.int c3]) (a_X5_couples h2) okX5_couples rfl dX1_weddable_4 lk_X1_15 sh_1 cl_5 rfl (by decide) (by decide) (Nat.le_of_ble_eq_true rfl) ⟨Nat.le_of_ble_eq_true rfl, Nat.le_of_ble_eq_true rfl⟩ rfl ?_
    show QW G (qrm 1 0 0) YX1_weddable 0 0 7 [some (.ref 18), some (.ref 1), some (.int x2), some (.int c3)] [.int r3, .int c3] SH M J _
    by_cases k4 : r3 ≤ c3
    · rw [if_pos k4] at h
      refine q_icmp_ge_t (pc := 7) (tgt := 37) dX1_weddable_7 (by decide) k4 ?_
      refine q_weak (ls' := [none, none, none, none]) trivial ?_
      obtain rfl := Option.some.inj h
      exact hk (c3) rfl
    · rw [if_neg k4] at h
      refine q_icmp_ge_f (pc := 7) (tgt := 37) dX1_weddable_7 (by decide) k4 ?_
      refine q_aload_n (pc := 10) dX1_weddable_10 rfl ?_
      refine q_iload_n (pc := 11) dX1_weddable_11 rfl ?_
      obtain ⟨b7, h6, h⟩ := Option.bind_eq_some_iff.mp h
      refine q_callv (pc := 12) (st := []) (a_X5_waits h6) okX5_waits rfl dX1_weddable_12 lk_X1_40 sh_1 cl_5 rfl (by decide) (by decide) (Nat.le_of_ble_eq_true rfl) ⟨Nat.le_of_ble_eq_true rfl, Nat.le_of_ble_eq_true rfl⟩ rfl ?_
      show QW G (qrm 1 0 0) YX1_weddable 0 0 15 [some (.ref 18), some (.ref 1), some (.int x2), some (.int c3)] [.int (qb b7)] SH M J _
      by_cases k8 : b7 = true
      · rw [if_pos k8] at h
        refine q_if_eq_f (pc := 15) (tgt := 31) dX1_weddable_15 (by decide) (qb_t k8) ?_
        refine q_aload_n (pc := 18) dX1_weddable_18 rfl ?_
        refine q_getf (pc := 19) (f := 0) (v := .ref 19) dX1_weddable_19 sh_18 cl_1 inX1 rfl (by decide) lk_X1_9 rfl ?_
        refine q_iload_n (pc := 22) dX1_weddable_22 rfl ?_
        obtain ⟨v9, h10, h⟩ := Option.bind_eq_some_iff.mp h
        refine q_iald (pc := 23) dX1_weddable_23 sh_19 h10 ?_
        refine q_iload_n (pc := 24) dX1_weddable_24 rfl ?_
        refine q_iand (pc := 25) dX1_weddable_25 ?_
        by_cases k11 : (v9 &&& x2) = 0
        · rw [if_pos k11] at h
          refine q_if_ne_f (pc := 26) (tgt := 31) dX1_weddable_26 (by decide) k11 ?_
          refine q_iconst (pc := 29) (v := nI 0) dX1_weddable_29 (by decide) ?_
          obtain rfl := Option.some.inj h
          exact q_iret (pc := 30) dX1_weddable_30 rfl rfl (hr (false) rfl)
        · rw [if_neg k11] at h
          refine q_if_ne_t (pc := 26) (tgt := 31) dX1_weddable_26 (by decide) k11 ?_
          refine q_iincW (pc := 31) (w := nI 1) (ls' := [some (.ref 18), some (.ref 1), some (.int x2), some (.int (c3 + nI 1))]) dX1_weddable_31 rfl (by decide) (by decide) rfl rfl ?_
          refine q_goto (pc := 34) (tgt := 2) dX1_weddable_34 (by decide) ?_
          exact l_X1_weddable_L2 x2 M J n (c3 + nI 1) res h hk hr
      · rw [if_neg k8] at h
        refine q_if_eq_t (pc := 15) (tgt := 31) dX1_weddable_15 (by decide) (qb_f k8) ?_
        refine q_iincW (pc := 31) (w := nI 1) (ls' := [some (.ref 18), some (.ref 1), some (.int x2), some (.int (c3 + nI 1))]) dX1_weddable_31 rfl (by decide) (by decide) rfl rfl ?_
        refine q_goto (pc := 34) (tgt := 2) dX1_weddable_34 (by decide) ?_
        exact l_X1_weddable_L2 x2 M J n (c3 + nI 1) res h hk hr
def f_X1_weddable (a2 : Int32) (M : qM) : Option Bool :=
  (f_X1_weddable_L2 a2 M qF (nI 0)).bind fun e12 => Sum.elim some (fun e12 => some (true)) e12
set_option maxRecDepth 20000 in
set_option maxHeartbeats 4000000 in
theorem a_X1_weddable {G : qG} {a2 : Int32} {M : qM} {J : qJ} {r : Bool} (h : f_X1_weddable a2 M = some (r)) : QM G 1 0 0 YX1_weddable [.ref 18, .ref 1, .int a2] SH M J (some (.int (qb r)), SH, M, J) := by
  refine ⟨Nat.le_of_ble_eq_true rfl, Or.inr ⟨rfl, _, rfl⟩, ?_⟩
  show QW G (qrm 1 0 0) YX1_weddable 0 0 0 [some (.ref 18), some (.ref 1), some (.int a2), none] [] SH M J _
  unfold f_X1_weddable at h
  refine q_iconst (pc := 0) (v := nI 0) dX1_weddable_0 (by decide) ?_
  refine q_istore_n (pc := 1) (ls' := [some (.ref 18), some (.ref 1), some (.int a2), some (.int (nI 0))]) dX1_weddable_1 (by decide) rfl rfl ?_
  obtain ⟨e12, h13, h⟩ := Option.bind_eq_some_iff.mp h
  rcases e12 with r | e12_3
  · simp only [Sum.elim_inl] at h
    obtain rfl := Option.some.inj h
    exact l_X1_weddable_L2 a2 M J qF (nI 0) _ h13 (fun x hx => by cases hx) (fun r2 hx => by have hx := Sum.inl.inj hx; subst hx; rfl)
  · simp only [Sum.elim_inr] at h
    refine l_X1_weddable_L2 a2 M J qF (nI 0) _ h13 (fun x hx => ?_) (fun r hx => by cases hx)
    have hx := Sum.inr.inj hx
    subst hx
    show QW G (qrm 1 0 0) YX1_weddable 0 0 37 [none, none, none, none] [] SH M J _
    refine q_iconst (pc := 37) (v := nI 1) dX1_weddable_37 (by decide) ?_
    obtain rfl := Option.some.inj h
    exact q_iret (pc := 38) dX1_weddable_38 rfl rfl rfl
def f_J6_bitCount (a0 : Int32) (M : qM) : Option Int32 :=
  some ((((((((a0 - (((a0.toUInt32 >>> ((nI 1).toUInt32 &&& Int32.toUInt32 31)).toInt32) &&& (nI 1431655765))) &&& (nI 858993459)) + ((((a0 - (((a0.toUInt32 >>> ((nI 1).toUInt32 &&& Int32.toUInt32 31)).toInt32) &&& (nI 1431655765))).toUInt32 >>> ((nI 2).toUInt32 &&& Int32.toUInt32 31)).toInt32) &&& (nI 858993459))) + (((((a0 - (((a0.toUInt32 >>> ((nI 1).toUInt32 &&& Int32.toUInt32 31)).toInt32) &&& (nI 1431655765))) &&& (nI 858993459)) + ((((a0 - (((a0.toUInt32 >>> ((nI 1).toUInt32 &&& Int32.toUInt32 31)).toInt32) &&& (nI 1431655765))).toUInt32 >>> ((nI 2).toUInt32 &&& Int32.toUInt32 31)).toInt32) &&& (nI 858993459))).toUInt32 >>> ((nI 4).toUInt32 &&& Int32.toUInt32 31)).toInt32)) &&& (nI 252645135)) + (((((((a0 - (((a0.toUInt32 >>> ((nI 1).toUInt32 &&& Int32.toUInt32 31)).toInt32) &&& (nI 1431655765))) &&& (nI 858993459)) + ((((a0 - (((a0.toUInt32 >>> ((nI 1).toUInt32 &&& Int32.toUInt32 31)).toInt32) &&& (nI 1431655765))).toUInt32 >>> ((nI 2).toUInt32 &&& Int32.toUInt32 31)).toInt32) &&& (nI 858993459))) + (((((a0 - (((a0.toUInt32 >>> ((nI 1).toUInt32 &&& Int32.toUInt32 31)).toInt32) &&& (nI 1431655765))) &&& (nI 858993459)) + ((((a0 - (((a0.toUInt32 >>> ((nI 1).toUInt32 &&& Int32.toUInt32 31)).toInt32) &&& (nI 1431655765))).toUInt32 >>> ((nI 2).toUInt32 &&& Int32.toUInt32 31)).toInt32) &&& (nI 858993459))).toUInt32 >>> ((nI 4).toUInt32 &&& Int32.toUInt32 31)).toInt32)) &&& (nI 252645135)).toUInt32 >>> ((nI 8).toUInt32 &&& Int32.toUInt32 31)).toInt32)) + ((((((((a0 - (((a0.toUInt32 >>> ((nI 1).toUInt32 &&& Int32.toUInt32 31)).toInt32) &&& (nI 1431655765))) &&& (nI 858993459)) + ((((a0 - (((a0.toUInt32 >>> ((nI 1).toUInt32 &&& Int32.toUInt32 31)).toInt32) &&& (nI 1431655765))).toUInt32 >>> ((nI 2).toUInt32 &&& Int32.toUInt32 31)).toInt32) &&& (nI 858993459))) + (((((a0 - (((a0.toUInt32 >>> ((nI 1).toUInt32 &&& Int32.toUInt32 31)).toInt32) &&& (nI 1431655765))) &&& (nI 858993459)) + ((((a0 - (((a0.toUInt32 >>> ((nI 1).toUInt32 &&& Int32.toUInt32 31)).toInt32) &&& (nI 1431655765))).toUInt32 >>> ((nI 2).toUInt32 &&& Int32.toUInt32 31)).toInt32) &&& (nI 858993459))).toUInt32 >>> ((nI 4).toUInt32 &&& Int32.toUInt32 31)).toInt32)) &&& (nI 252645135)) + (((((((a0 - (((a0.toUInt32 >>> ((nI 1).toUInt32 &&& Int32.toUInt32 31)).toInt32) &&& (nI 1431655765))) &&& (nI 858993459)) + ((((a0 - (((a0.toUInt32 >>> ((nI 1).toUInt32 &&& Int32.toUInt32 31)).toInt32) &&& (nI 1431655765))).toUInt32 >>> ((nI 2).toUInt32 &&& Int32.toUInt32 31)).toInt32) &&& (nI 858993459))) + (((((a0 - (((a0.toUInt32 >>> ((nI 1).toUInt32 &&& Int32.toUInt32 31)).toInt32) &&& (nI 1431655765))) &&& (nI 858993459)) + ((((a0 - (((a0.toUInt32 >>> ((nI 1).toUInt32 &&& Int32.toUInt32 31)).toInt32) &&& (nI 1431655765))).toUInt32 >>> ((nI 2).toUInt32 &&& Int32.toUInt32 31)).toInt32) &&& (nI 858993459))).toUInt32 >>> ((nI 4).toUInt32 &&& Int32.toUInt32 31)).toInt32)) &&& (nI 252645135)).toUInt32 >>> ((nI 8).toUInt32 &&& Int32.toUInt32 31)).toInt32)).toUInt32 >>> ((nI 16).toUInt32 &&& Int32.toUInt32 31)).toInt32)) &&& (nI 63))
set_option maxRecDepth 20000 in
set_option maxHeartbeats 4000000 in
theorem a_J6_bitCount {G : qG} {a0 : Int32} {M : qM} {J : qJ} {r : Int32} (h : f_J6_bitCount a0 M = some (r)) : QM G 0 0 0 YJ6_bitCount_0f7a4 [.int a0] SH M J (some (.int r), SH, M, J) := by
  refine ⟨Nat.le_of_ble_eq_true rfl, Or.inl rfl, ?_⟩
  show QW G (qrm 0 0 0) YJ6_bitCount_0f7a4 0 0 0 [some (.int a0)] [] SH M J _
  unfold f_J6_bitCount at h
  refine q_iload_n (pc := 0) dJ6_bitCount_0f7a4_0 rfl ?_
  refine q_iload_n (pc := 1) dJ6_bitCount_0f7a4_1 rfl ?_
  refine q_iconst (pc := 2) (v := nI 1) dJ6_bitCount_0f7a4_2 (by decide) ?_
  refine q_iushr (pc := 3) dJ6_bitCount_0f7a4_3 ?_
  refine q_ldcw (pc := 4) (v := nI 1431655765) dJ6_bitCount_0f7a4_4 (show Cond.constant YJ6_bitCount_0f7a4.1.cls 265 (nI 1431655765) ∈ qT from lk_J6_265) ?_
  refine q_iand (pc := 7) dJ6_bitCount_0f7a4_7 ?_
  refine q_isub (pc := 8) dJ6_bitCount_0f7a4_8 ?_
  refine q_istore_n (pc := 9) (ls' := [some (.int (a0 - (((a0.toUInt32 >>> ((nI 1).toUInt32 &&& Int32.toUInt32 31)).toInt32) &&& (nI 1431655765))))]) dJ6_bitCount_0f7a4_9 (by decide) rfl rfl ?_
  refine q_iload_n (pc := 10) dJ6_bitCount_0f7a4_10 rfl ?_
  refine q_ldcw (pc := 11) (v := nI 858993459) dJ6_bitCount_0f7a4_11 (show Cond.constant YJ6_bitCount_0f7a4.1.cls 266 (nI 858993459) ∈ qT from lk_J6_266) ?_
  refine q_iand (pc := 14) dJ6_bitCount_0f7a4_14 ?_
  refine q_iload_n (pc := 15) dJ6_bitCount_0f7a4_15 rfl ?_
  refine q_iconst (pc := 16) (v := nI 2) dJ6_bitCount_0f7a4_16 (by decide) ?_
  refine q_iushr (pc := 17) dJ6_bitCount_0f7a4_17 ?_
  refine q_ldcw (pc := 18) (v := nI 858993459) dJ6_bitCount_0f7a4_18 (show Cond.constant YJ6_bitCount_0f7a4.1.cls 266 (nI 858993459) ∈ qT from lk_J6_266) ?_
  refine q_iand (pc := 21) dJ6_bitCount_0f7a4_21 ?_
  refine q_iadd (pc := 22) dJ6_bitCount_0f7a4_22 ?_
  refine q_istore_n (pc := 23) (ls' := [some (.int (((a0 - (((a0.toUInt32 >>> ((nI 1).toUInt32 &&& Int32.toUInt32 31)).toInt32) &&& (nI 1431655765))) &&& (nI 858993459)) + ((((a0 - (((a0.toUInt32 >>> ((nI 1).toUInt32 &&& Int32.toUInt32 31)).toInt32) &&& (nI 1431655765))).toUInt32 >>> ((nI 2).toUInt32 &&& Int32.toUInt32 31)).toInt32) &&& (nI 858993459))))]) dJ6_bitCount_0f7a4_23 (by decide) rfl rfl ?_
  refine q_iload_n (pc := 24) dJ6_bitCount_0f7a4_24 rfl ?_
  refine q_iload_n (pc := 25) dJ6_bitCount_0f7a4_25 rfl ?_
  refine q_iconst (pc := 26) (v := nI 4) dJ6_bitCount_0f7a4_26 (by decide) ?_
  refine q_iushr (pc := 27) dJ6_bitCount_0f7a4_27 ?_
  refine q_iadd (pc := 28) dJ6_bitCount_0f7a4_28 ?_
  refine q_ldcw (pc := 29) (v := nI 252645135) dJ6_bitCount_0f7a4_29 (show Cond.constant YJ6_bitCount_0f7a4.1.cls 267 (nI 252645135) ∈ qT from lk_J6_267) ?_
  refine q_iand (pc := 32) dJ6_bitCount_0f7a4_32 ?_
  refine q_istore_n (pc := 33) (ls' := [some (.int (((((a0 - (((a0.toUInt32 >>> ((nI 1).toUInt32 &&& Int32.toUInt32 31)).toInt32) &&& (nI 1431655765))) &&& (nI 858993459)) + ((((a0 - (((a0.toUInt32 >>> ((nI 1).toUInt32 &&& Int32.toUInt32 31)).toInt32) &&& (nI 1431655765))).toUInt32 >>> ((nI 2).toUInt32 &&& Int32.toUInt32 31)).toInt32) &&& (nI 858993459))) + (((((a0 - (((a0.toUInt32 >>> ((nI 1).toUInt32 &&& Int32.toUInt32 31)).toInt32) &&& (nI 1431655765))) &&& (nI 858993459)) + ((((a0 - (((a0.toUInt32 >>> ((nI 1).toUInt32 &&& Int32.toUInt32 31)).toInt32) &&& (nI 1431655765))).toUInt32 >>> ((nI 2).toUInt32 &&& Int32.toUInt32 31)).toInt32) &&& (nI 858993459))).toUInt32 >>> ((nI 4).toUInt32 &&& Int32.toUInt32 31)).toInt32)) &&& (nI 252645135)))]) dJ6_bitCount_0f7a4_33 (by decide) rfl rfl ?_
  refine q_iload_n (pc := 34) dJ6_bitCount_0f7a4_34 rfl ?_
  refine q_iload_n (pc := 35) dJ6_bitCount_0f7a4_35 rfl ?_
  refine q_bipush (pc := 36) (v := nI 8) dJ6_bitCount_0f7a4_36 (by decide) ?_
  refine q_iushr (pc := 38) dJ6_bitCount_0f7a4_38 ?_
  refine q_iadd (pc := 39) dJ6_bitCount_0f7a4_39 ?_
  refine q_istore_n (pc := 40) (ls' := [some (.int ((((((a0 - (((a0.toUInt32 >>> ((nI 1).toUInt32 &&& Int32.toUInt32 31)).toInt32) &&& (nI 1431655765))) &&& (nI 858993459)) + ((((a0 - (((a0.toUInt32 >>> ((nI 1).toUInt32 &&& Int32.toUInt32 31)).toInt32) &&& (nI 1431655765))).toUInt32 >>> ((nI 2).toUInt32 &&& Int32.toUInt32 31)).toInt32) &&& (nI 858993459))) + (((((a0 - (((a0.toUInt32 >>> ((nI 1).toUInt32 &&& Int32.toUInt32 31)).toInt32) &&& (nI 1431655765))) &&& (nI 858993459)) + ((((a0 - (((a0.toUInt32 >>> ((nI 1).toUInt32 &&& Int32.toUInt32 31)).toInt32) &&& (nI 1431655765))).toUInt32 >>> ((nI 2).toUInt32 &&& Int32.toUInt32 31)).toInt32) &&& (nI 858993459))).toUInt32 >>> ((nI 4).toUInt32 &&& Int32.toUInt32 31)).toInt32)) &&& (nI 252645135)) + (((((((a0 - (((a0.toUInt32 >>> ((nI 1).toUInt32 &&& Int32.toUInt32 31)).toInt32) &&& (nI 1431655765))) &&& (nI 858993459)) + ((((a0 - (((a0.toUInt32 >>> ((nI 1).toUInt32 &&& Int32.toUInt32 31)).toInt32) &&& (nI 1431655765))).toUInt32 >>> ((nI 2).toUInt32 &&& Int32.toUInt32 31)).toInt32) &&& (nI 858993459))) + (((((a0 - (((a0.toUInt32 >>> ((nI 1).toUInt32 &&& Int32.toUInt32 31)).toInt32) &&& (nI 1431655765))) &&& (nI 858993459)) + ((((a0 - (((a0.toUInt32 >>> ((nI 1).toUInt32 &&& Int32.toUInt32 31)).toInt32) &&& (nI 1431655765))).toUInt32 >>> ((nI 2).toUInt32 &&& Int32.toUInt32 31)).toInt32) &&& (nI 858993459))).toUInt32 >>> ((nI 4).toUInt32 &&& Int32.toUInt32 31)).toInt32)) &&& (nI 252645135)).toUInt32 >>> ((nI 8).toUInt32 &&& Int32.toUInt32 31)).toInt32)))]) dJ6_bitCount_0f7a4_40 (by decide) rfl rfl ?_
  refine q_iload_n (pc := 41) dJ6_bitCount_0f7a4_41 rfl ?_
  refine q_iload_n (pc := 42) dJ6_bitCount_0f7a4_42 rfl ?_
  refine q_bipush (pc := 43) (v := nI 16) dJ6_bitCount_0f7a4_43 (by decide) ?_
  refine q_iushr (pc := 45) dJ6_bitCount_0f7a4_45 ?_
  refine q_iadd (pc := 46) dJ6_bitCount_0f7a4_46 ?_
  refine q_istore_n (pc := 47) (ls' := [some (.int (((((((a0 - (((a0.toUInt32 >>> ((nI 1).toUInt32 &&& Int32.toUInt32 31)).toInt32) &&& (nI 1431655765))) &&& (nI 858993459)) + ((((a0 - (((a0.toUInt32 >>> ((nI 1).toUInt32 &&& Int32.toUInt32 31)).toInt32) &&& (nI 1431655765))).toUInt32 >>> ((nI 2).toUInt32 &&& Int32.toUInt32 31)).toInt32) &&& (nI 858993459))) + (((((a0 - (((a0.toUInt32 >>> ((nI 1).toUInt32 &&& Int32.toUInt32 31)).toInt32) &&& (nI 1431655765))) &&& (nI 858993459)) + ((((a0 - (((a0.toUInt32 >>> ((nI 1).toUInt32 &&& Int32.toUInt32 31)).toInt32) &&& (nI 1431655765))).toUInt32 >>> ((nI 2).toUInt32 &&& Int32.toUInt32 31)).toInt32) &&& (nI 858993459))).toUInt32 >>> ((nI 4).toUInt32 &&& Int32.toUInt32 31)).toInt32)) &&& (nI 252645135)) + (((((((a0 - (((a0.toUInt32 >>> ((nI 1).toUInt32 &&& Int32.toUInt32 31)).toInt32) &&& (nI 1431655765))) &&& (nI 858993459)) + ((((a0 - (((a0.toUInt32 >>> ((nI 1).toUInt32 &&& Int32.toUInt32 31)).toInt32) &&& (nI 1431655765))).toUInt32 >>> ((nI 2).toUInt32 &&& Int32.toUInt32 31)).toInt32) &&& (nI 858993459))) + (((((a0 - (((a0.toUInt32 >>> ((nI 1).toUInt32 &&& Int32.toUInt32 31)).toInt32) &&& (nI 1431655765))) &&& (nI 858993459)) + ((((a0 - (((a0.toUInt32 >>> ((nI 1).toUInt32 &&& Int32.toUInt32 31)).toInt32) &&& (nI 1431655765))).toUInt32 >>> ((nI 2).toUInt32 &&& Int32.toUInt32 31)).toInt32) &&& (nI 858993459))).toUInt32 >>> ((nI 4).toUInt32 &&& Int32.toUInt32 31)).toInt32)) &&& (nI 252645135)).toUInt32 >>> ((nI 8).toUInt32 &&& Int32.toUInt32 31)).toInt32)) + ((((((((a0 - (((a0.toUInt32 >>> ((nI 1).toUInt32 &&& Int32.toUInt32 31)).toInt32) &&& (nI 1431655765))) &&& (nI 858993459)) + ((((a0 - (((a0.toUInt32 >>> ((nI 1).toUInt32 &&& Int32.toUInt32 31)).toInt32) &&& (nI 1431655765))).toUInt32 >>> ((nI 2).toUInt32 &&& Int32.toUInt32 31)).toInt32) &&& (nI 858993459))) + (((((a0 - (((a0.toUInt32 >>> ((nI 1).toUInt32 &&& Int32.toUInt32 31)).toInt32) &&& (nI 1431655765))) &&& (nI 858993459)) + ((((a0 - (((a0.toUInt32 >>> ((nI 1).toUInt32 &&& Int32.toUInt32 31)).toInt32) &&& (nI 1431655765))).toUInt32 >>> ((nI 2).toUInt32 &&& Int32.toUInt32 31)).toInt32) &&& (nI 858993459))).toUInt32 >>> ((nI 4).toUInt32 &&& Int32.toUInt32 31)).toInt32)) &&& (nI 252645135)) + (((((((a0 - (((a0.toUInt32 >>> ((nI 1).toUInt32 &&& Int32.toUInt32 31)).toInt32) &&& (nI 1431655765))) &&& (nI 858993459)) + ((((a0 - (((a0.toUInt32 >>> ((nI 1).toUInt32 &&& Int32.toUInt32 31)).toInt32) &&& (nI 1431655765))).toUInt32 >>> ((nI 2).toUInt32 &&& Int32.toUInt32 31)).toInt32) &&& (nI 858993459))) + (((((a0 - (((a0.toUInt32 >>> ((nI 1).toUInt32 &&& Int32.toUInt32 31)).toInt32) &&& (nI 1431655765))) &&& (nI 858993459)) + ((((a0 - (((a0.toUInt32 >>> ((nI 1).toUInt32 &&& Int32.toUInt32 31)).toInt32) &&& (nI 1431655765))).toUInt32 >>> ((nI 2).toUInt32 &&& Int32.toUInt32 31)).toInt32) &&& (nI 858993459))).toUInt32 >>> ((nI 4).toUInt32 &&& Int32.toUInt32 31)).toInt32)) &&& (nI 252645135)).toUInt32 >>> ((nI 8).toUInt32 &&& Int32.toUInt32 31)).toInt32)).toUInt32 >>> ((nI 16).toUInt32 &&& Int32.toUInt32 31)).toInt32)))]) dJ6_bitCount_0f7a4_47 (by decide) rfl rfl ?_
  refine q_iload_n (pc := 48) dJ6_bitCount_0f7a4_48 rfl ?_
  refine q_bipush (pc := 49) (v := nI 63) dJ6_bitCount_0f7a4_49 (by decide) ?_
  refine q_iand (pc := 51) dJ6_bitCount_0f7a4_51 ?_
  obtain rfl := Option.some.inj h
  exact q_iret (pc := 52) dJ6_bitCount_0f7a4_52 rfl rfl rfl
def f_X1_few_L2  : Nat → Int32 → qM → Option (Int32 × qM)
  | 0, _, _ => none
  | n + 1, c2, M =>
  (f_X5_couples M).bind fun r3 => if r3 ≤ c2 then some (c2, M)
    else (f_X10_can c2 M).bind fun r7 => (qwr M 19 6 c2 r7).bind fun M8 => f_X1_few_L2  n (c2 + nI 1) M8
set_option maxRecDepth 20000 in
set_option maxHeartbeats 4000000 in
theorem l_X1_few_L2 {G : qG} {ρ : qR}  (J : qJ) : ∀ (n : Nat) (c2 : Int32) (M : qM) (res : Int32 × qM), f_X1_few_L2  n c2 M = some res → (∀ x : Int32 × qM, res = x → QW G (qrm 5 0 0) YX1_few 0 0 27 [some (.ref 18), some (.ref 1), none, none, none] [] SH x.2 J ρ) → QW G (qrm 5 0 0) YX1_few 0 0 2 [some (.ref 18), some (.ref 1), some (.int c2), none, none] [] SH M J ρ
  | 0, _, _, _, h, _ => by simp [f_X1_few_L2] at h
  | n + 1, c2, M, res, h, hk => by
    rw [f_X1_few_L2] at h
    refine q_iload_n (pc := 2) dX1_few_2 rfl ?_
    refine q_aload_n (pc := 3) dX1_few_3 rfl ?_
    obtain ⟨r3, h2, h⟩ := Option.bind_eq_some_iff.mp h
    refine q_callv (pc := 4) (st := [.int c2]) (a_X5_couples h2) okX5_couples rfl dX1_few_4 lk_X1_15 sh_1 cl_5 rfl (by decide) (by decide) (Nat.le_of_ble_eq_true rfl) ⟨Nat.le_of_ble_eq_true rfl, Nat.le_of_ble_eq_true rfl⟩ rfl ?_
    show QW G (qrm 5 0 0) YX1_few 0 0 7 [some (.ref 18), some (.ref 1), some (.int c2), none, none] [.int r3, .int c2] SH M J _
    by_cases k4 : r3 ≤ c2
    · rw [if_pos k4] at h
      refine q_icmp_ge_t (pc := 7) (tgt := 27) dX1_few_7 (by decide) k4 ?_
      refine q_weak (ls' := [some (.ref 18), some (.ref 1), none, none, none]) ⟨rfl, ⟨rfl, trivial⟩⟩ ?_
      obtain rfl := Option.some.inj h
      exact hk (c2, M) rfl
    · rw [if_neg k4] at h
      refine q_icmp_ge_f (pc := 7) (tgt := 27) dX1_few_7 (by decide) k4 ?_
      refine q_aload_n (pc := 10) dX1_few_10 rfl ?_
      refine q_getf (pc := 11) (f := 0) (v := .ref 19) dX1_few_11 sh_18 cl_1 inX1 rfl (by decide) lk_X1_9 rfl ?_
      refine q_iload_n (pc := 14) dX1_few_14 rfl ?_
      refine q_aload_n (pc := 15) dX1_few_15 rfl ?_
      refine q_iload_n (pc := 16) dX1_few_16 rfl ?_
      obtain ⟨r7, h6, h⟩ := Option.bind_eq_some_iff.mp h
      refine q_calls (pc := 17) (st := [.int c2, .ref 19]) (a_X10_can h6) okX10_can rfl dX1_few_17 lk_X1_21 rfl (by decide) (by decide) (Nat.le_of_ble_eq_true rfl) ⟨Nat.le_of_ble_eq_true rfl, Nat.le_of_ble_eq_true rfl⟩ rfl ?_
      show QW G (qrm 5 0 0) YX1_few 0 0 20 [some (.ref 18), some (.ref 1), some (.int c2), none, none] [.int r7, .int c2, .ref 19] SH M J _
      obtain ⟨M8, h9, h⟩ := Option.bind_eq_some_iff.mp h
      refine q_iast (pc := 20) dX1_few_20 sh_19 h9 ?_
      refine q_iincW (pc := 21) (w := nI 1) (ls' := [some (.ref 18), some (.ref 1), some (.int (c2 + nI 1)), none, none]) dX1_few_21 rfl (by decide) (by decide) rfl rfl ?_
      refine q_goto (pc := 24) (tgt := 2) dX1_few_24 (by decide) ?_
      exact l_X1_few_L2  J n (c2 + nI 1) M8 res h hk
def f_X1_few_L31  (M : qM) : Nat → Int32 → Int32 → Option (Int32 × Int32)
  | 0, _, _ => none
  | n + 1, c2, c3 =>
  (f_X5_objectors M).bind fun r14 => if ((nI 1) <<< (r14 &&& 31)) ≤ c3 then some (c2, c3)
    else if c2 = (-1 : Int32) then (f_X1_weddable c3 M).bind fun b19 => if b19 = true then f_X1_few_L31  M n c3 (c3 + nI 1)
    else f_X1_few_L31  M n c2 (c3 + nI 1)
    else (f_J6_bitCount c3 M).bind fun r23 => (f_J6_bitCount c2 M).bind fun r26 => if r26 ≤ r23 then f_X1_few_L31  M n c2 (c3 + nI 1)
    else (f_X1_weddable c3 M).bind fun b30 => if b30 = true then f_X1_few_L31  M n c3 (c3 + nI 1)
    else f_X1_few_L31  M n c2 (c3 + nI 1)
set_option maxRecDepth 20000 in
set_option maxHeartbeats 4000000 in
theorem l_X1_few_L31 {G : qG} {ρ : qR}  (M : qM) (J : qJ) : ∀ (n : Nat) (c2 : Int32) (c3 : Int32) (res : Int32 × Int32), f_X1_few_L31  M n c2 c3 = some res → (∀ x : Int32 × Int32, res = x → QW G (qrm 5 0 0) YX1_few 0 0 86 [none, none, some (.int x.1), none, none] [] SH M J ρ) → QW G (qrm 5 0 0) YX1_few 0 0 31 [some (.ref 18), some (.ref 1), some (.int c2), some (.int c3), none] [] SH M J ρ
  | 0, _, _, _, h, _ => by simp [f_X1_few_L31] at h
  | n + 1, c2, c3, res, h, hk => by
    rw [f_X1_few_L31] at h
    refine q_iload_n (pc := 31) dX1_few_31 rfl ?_
    refine q_iconst (pc := 32) (v := nI 1) dX1_few_32 (by decide) ?_
    refine q_aload_n (pc := 33) dX1_few_33 rfl ?_
    obtain ⟨r14, h13, h⟩ := Option.bind_eq_some_iff.mp h
    refine q_callv (pc := 34) (st := [.int (nI 1), .int c3]) (a_X5_objectors h13) okX5_objectors rfl dX1_few_34 lk_X1_27 sh_1 cl_5 rfl (by decide) (by decide) (Nat.le_of_ble_eq_true rfl) ⟨Nat.le_of_ble_eq_true rfl, Nat.le_of_ble_eq_true rfl⟩ rfl ?_
    show QW G (qrm 5 0 0) YX1_few 0 0 37 [some (.ref 18), some (.ref 1), some (.int c2), some (.int c3), none] [.int r14, .int (nI 1), .int c3] SH M J _
    refine q_ishl (pc := 37) dX1_few_37 ?_
    by_cases k15 : ((nI 1) <<< (r14 &&& 31)) ≤ c3
    · rw [if_pos k15] at h
      refine q_icmp_ge_t (pc := 38) (tgt := 86) dX1_few_38 (by decide) k15 ?_
      refine q_weak (ls' := [none, none, some (.int c2), none, none]) ⟨rfl, trivial⟩ ?_
      obtain rfl := Option.some.inj h
      exact hk (c2, c3) rfl
    · rw [if_neg k15] at h
      refine q_icmp_ge_f (pc := 38) (tgt := 86) dX1_few_38 (by decide) k15 ?_
      refine q_iload_n (pc := 41) dX1_few_41 rfl ?_
      refine q_iconst (pc := 42) (v := (-1 : Int32)) dX1_few_42 (by decide) ?_
      by_cases k16 : c2 = (-1 : Int32)
      · rw [if_pos k16] at h
        refine q_icmp_eq_t (pc := 43) (tgt := 57) dX1_few_43 (by decide) k16 ?_
        refine q_iconst (pc := 57) (v := nI 1) dX1_few_57 (by decide) ?_
        refine q_goto (pc := 58) (tgt := 62) dX1_few_58 (by decide) ?_
        refine q_istore (pc := 62) (ls' := [some (.ref 18), some (.ref 1), some (.int c2), some (.int c3), some (.int (nI 1))]) dX1_few_62 (by decide) rfl rfl ?_
        refine q_iload (pc := 64) dX1_few_64 rfl ?_
        refine q_if_eq_f (pc := 66) (tgt := 80) dX1_few_66 (by decide) (by decide) ?_
        refine q_aload_n (pc := 69) dX1_few_69 rfl ?_
        refine q_aload_n (pc := 70) dX1_few_70 rfl ?_
        refine q_iload_n (pc := 71) dX1_few_71 rfl ?_
        obtain ⟨b19, h18, h⟩ := Option.bind_eq_some_iff.mp h
        refine q_callv (pc := 72) (st := []) (a_X1_weddable h18) okX1_weddable rfl dX1_few_72 lk_X1_36 sh_18 cl_1 rfl (by decide) (by decide) (Nat.le_of_ble_eq_true rfl) ⟨Nat.le_of_ble_eq_true rfl, Nat.le_of_ble_eq_true rfl⟩ rfl ?_
        show QW G (qrm 5 0 0) YX1_few 0 0 75 [some (.ref 18), some (.ref 1), some (.int c2), some (.int c3), some (.int (nI 1))] [.int (qb b19)] SH M J _
        by_cases k20 : b19 = true
        · rw [if_pos k20] at h
          refine q_if_eq_f (pc := 75) (tgt := 80) dX1_few_75 (by decide) (qb_t k20) ?_
          refine q_iload_n (pc := 78) dX1_few_78 rfl ?_
          refine q_istore_n (pc := 79) (ls' := [some (.ref 18), some (.ref 1), some (.int c3), some (.int c3), some (.int (nI 1))]) dX1_few_79 (by decide) rfl rfl ?_
          refine q_iincW (pc := 80) (w := nI 1) (ls' := [some (.ref 18), some (.ref 1), some (.int c3), some (.int (c3 + nI 1)), some (.int (nI 1))]) dX1_few_80 rfl (by decide) (by decide) rfl rfl ?_
          refine q_goto (pc := 83) (tgt := 31) dX1_few_83 (by decide) ?_
          refine q_weak (ls' := [some (.ref 18), some (.ref 1), some (.int c3), some (.int (c3 + nI 1)), none]) ⟨rfl, ⟨rfl, ⟨rfl, ⟨rfl, trivial⟩⟩⟩⟩ ?_
          exact l_X1_few_L31  M J n c3 (c3 + nI 1) res h hk
        · rw [if_neg k20] at h
          refine q_if_eq_t (pc := 75) (tgt := 80) dX1_few_75 (by decide) (qb_f k20) ?_
          refine q_iincW (pc := 80) (w := nI 1) (ls' := [some (.ref 18), some (.ref 1), some (.int c2), some (.int (c3 + nI 1)), some (.int (nI 1))]) dX1_few_80 rfl (by decide) (by decide) rfl rfl ?_
          refine q_goto (pc := 83) (tgt := 31) dX1_few_83 (by decide) ?_
          refine q_weak (ls' := [some (.ref 18), some (.ref 1), some (.int c2), some (.int (c3 + nI 1)), none]) ⟨rfl, ⟨rfl, ⟨rfl, ⟨rfl, trivial⟩⟩⟩⟩ ?_
          exact l_X1_few_L31  M J n c2 (c3 + nI 1) res h hk
      · rw [if_neg k16] at h
        refine q_icmp_eq_f (pc := 43) (tgt := 57) dX1_few_43 (by decide) k16 ?_
        refine q_iload_n (pc := 46) dX1_few_46 rfl ?_
        obtain ⟨r23, h22, h⟩ := Option.bind_eq_some_iff.mp h
        refine q_calls (pc := 47) (st := []) (a_J6_bitCount h22) okJ6_bitCount_0f7a4 rfl dX1_few_47 lk_X1_30 rfl (by decide) (by decide) (Nat.le_of_ble_eq_true rfl) ⟨Nat.le_of_ble_eq_true rfl, Nat.le_of_ble_eq_true rfl⟩ rfl ?_
        show QW G (qrm 5 0 0) YX1_few 0 0 50 [some (.ref 18), some (.ref 1), some (.int c2), some (.int c3), none] [.int r23] SH M J _
        refine q_iload_n (pc := 50) dX1_few_50 rfl ?_
        obtain ⟨r26, h25, h⟩ := Option.bind_eq_some_iff.mp h
        refine q_calls (pc := 51) (st := [.int r23]) (a_J6_bitCount h25) okJ6_bitCount_0f7a4 rfl dX1_few_51 lk_X1_30 rfl (by decide) (by decide) (Nat.le_of_ble_eq_true rfl) ⟨Nat.le_of_ble_eq_true rfl, Nat.le_of_ble_eq_true rfl⟩ rfl ?_
        show QW G (qrm 5 0 0) YX1_few 0 0 54 [some (.ref 18), some (.ref 1), some (.int c2), some (.int c3), none] [.int r26, .int r23] SH M J _
        by_cases k27 : r26 ≤ r23
        · rw [if_pos k27] at h
          refine q_icmp_ge_t (pc := 54) (tgt := 61) dX1_few_54 (by decide) k27 ?_
          refine q_iconst (pc := 61) (v := nI 0) dX1_few_61 (by decide) ?_
          refine q_istore (pc := 62) (ls' := [some (.ref 18), some (.ref 1), some (.int c2), some (.int c3), some (.int (nI 0))]) dX1_few_62 (by decide) rfl rfl ?_
          refine q_iload (pc := 64) dX1_few_64 rfl ?_
          refine q_if_eq_t (pc := 66) (tgt := 80) dX1_few_66 (by decide) (by decide) ?_
          refine q_iincW (pc := 80) (w := nI 1) (ls' := [some (.ref 18), some (.ref 1), some (.int c2), some (.int (c3 + nI 1)), some (.int (nI 0))]) dX1_few_80 rfl (by decide) (by decide) rfl rfl ?_
          refine q_goto (pc := 83) (tgt := 31) dX1_few_83 (by decide) ?_
          refine q_weak (ls' := [some (.ref 18), some (.ref 1), some (.int c2), some (.int (c3 + nI 1)), none]) ⟨rfl, ⟨rfl, ⟨rfl, ⟨rfl, trivial⟩⟩⟩⟩ ?_
          exact l_X1_few_L31  M J n c2 (c3 + nI 1) res h hk
        · rw [if_neg k27] at h
          refine q_icmp_ge_f (pc := 54) (tgt := 61) dX1_few_54 (by decide) k27 ?_
          refine q_iconst (pc := 57) (v := nI 1) dX1_few_57 (by decide) ?_
          refine q_goto (pc := 58) (tgt := 62) dX1_few_58 (by decide) ?_
          refine q_istore (pc := 62) (ls' := [some (.ref 18), some (.ref 1), some (.int c2), some (.int c3), some (.int (nI 1))]) dX1_few_62 (by decide) rfl rfl ?_
          refine q_iload (pc := 64) dX1_few_64 rfl ?_
          refine q_if_eq_f (pc := 66) (tgt := 80) dX1_few_66 (by decide) (by decide) ?_
          refine q_aload_n (pc := 69) dX1_few_69 rfl ?_
          refine q_aload_n (pc := 70) dX1_few_70 rfl ?_
          refine q_iload_n (pc := 71) dX1_few_71 rfl ?_
          obtain ⟨b30, h29, h⟩ := Option.bind_eq_some_iff.mp h
          refine q_callv (pc := 72) (st := []) (a_X1_weddable h29) okX1_weddable rfl dX1_few_72 lk_X1_36 sh_18 cl_1 rfl (by decide) (by decide) (Nat.le_of_ble_eq_true rfl) ⟨Nat.le_of_ble_eq_true rfl, Nat.le_of_ble_eq_true rfl⟩ rfl ?_
          show QW G (qrm 5 0 0) YX1_few 0 0 75 [some (.ref 18), some (.ref 1), some (.int c2), some (.int c3), some (.int (nI 1))] [.int (qb b30)] SH M J _
          by_cases k31 : b30 = true
          · rw [if_pos k31] at h
            refine q_if_eq_f (pc := 75) (tgt := 80) dX1_few_75 (by decide) (qb_t k31) ?_
            refine q_iload_n (pc := 78) dX1_few_78 rfl ?_
            refine q_istore_n (pc := 79) (ls' := [some (.ref 18), some (.ref 1), some (.int c3), some (.int c3), some (.int (nI 1))]) dX1_few_79 (by decide) rfl rfl ?_
            refine q_iincW (pc := 80) (w := nI 1) (ls' := [some (.ref 18), some (.ref 1), some (.int c3), some (.int (c3 + nI 1)), some (.int (nI 1))]) dX1_few_80 rfl (by decide) (by decide) rfl rfl ?_
            refine q_goto (pc := 83) (tgt := 31) dX1_few_83 (by decide) ?_
            refine q_weak (ls' := [some (.ref 18), some (.ref 1), some (.int c3), some (.int (c3 + nI 1)), none]) ⟨rfl, ⟨rfl, ⟨rfl, ⟨rfl, trivial⟩⟩⟩⟩ ?_
            exact l_X1_few_L31  M J n c3 (c3 + nI 1) res h hk
          · rw [if_neg k31] at h
            refine q_if_eq_t (pc := 75) (tgt := 80) dX1_few_75 (by decide) (qb_f k31) ?_
            refine q_iincW (pc := 80) (w := nI 1) (ls' := [some (.ref 18), some (.ref 1), some (.int c2), some (.int (c3 + nI 1)), some (.int (nI 1))]) dX1_few_80 rfl (by decide) (by decide) rfl rfl ?_
            refine q_goto (pc := 83) (tgt := 31) dX1_few_83 (by decide) ?_
            refine q_weak (ls' := [some (.ref 18), some (.ref 1), some (.int c2), some (.int (c3 + nI 1)), none]) ⟨rfl, ⟨rfl, ⟨rfl, ⟨rfl, trivial⟩⟩⟩⟩ ?_
            exact l_X1_few_L31  M J n c2 (c3 + nI 1) res h hk
def f_X1_few  (M : qM) : Option (Int32 × qM) :=
  (f_X1_few_L2  qF (nI 0) M).bind fun e10 => (f_X1_few_L31 e10.2 qF (-1 : Int32) (nI 0)).bind fun e32 => some (e32.1, e10.2)
set_option maxRecDepth 20000 in
set_option maxHeartbeats 4000000 in
theorem a_X1_few {G : qG}  {M : qM} {J : qJ} {r : Int32} {M' : qM} (h : f_X1_few  M = some (r, M')) : QM G 5 0 0 YX1_few [.ref 18, .ref 1] SH M J (some (.int r), SH, M', J) := by
  refine ⟨Nat.le_of_ble_eq_true rfl, Or.inl rfl, ?_⟩
  show QW G (qrm 5 0 0) YX1_few 0 0 0 [some (.ref 18), some (.ref 1), none, none, none] [] SH M J _
  unfold f_X1_few at h
  refine q_iconst (pc := 0) (v := nI 0) dX1_few_0 (by decide) ?_
  refine q_istore_n (pc := 1) (ls' := [some (.ref 18), some (.ref 1), some (.int (nI 0)), none, none]) dX1_few_1 (by decide) rfl rfl ?_
  obtain ⟨⟨e10_2, M11⟩, h34, h⟩ := Option.bind_eq_some_iff.mp h
  try dsimp only at h
  refine l_X1_few_L2  J qF (nI 0) M _ h34 (fun x hx => ?_)
  subst hx
  show QW G (qrm 5 0 0) YX1_few 0 0 27 [some (.ref 18), some (.ref 1), none, none, none] [] SH M11 J _
  refine q_iconst (pc := 27) (v := (-1 : Int32)) dX1_few_27 (by decide) ?_
  refine q_istore_n (pc := 28) (ls' := [some (.ref 18), some (.ref 1), some (.int (-1 : Int32)), none, none]) dX1_few_28 (by decide) rfl rfl ?_
  refine q_iconst (pc := 29) (v := nI 0) dX1_few_29 (by decide) ?_
  refine q_istore_n (pc := 30) (ls' := [some (.ref 18), some (.ref 1), some (.int (-1 : Int32)), some (.int (nI 0)), none]) dX1_few_30 (by decide) rfl rfl ?_
  obtain ⟨⟨e32_2, e32_3⟩, h33, h⟩ := Option.bind_eq_some_iff.mp h
  try dsimp only at h
  refine l_X1_few_L31 M11 J qF (-1 : Int32) (nI 0) _ h33 (fun x hx => ?_)
  subst hx
  show QW G (qrm 5 0 0) YX1_few 0 0 86 [none, none, some (.int e32_2), none, none] [] SH M11 J _
  refine q_iload_n (pc := 86) dX1_few_86 rfl ?_
  have h := Option.some.inj h
  obtain ⟨rfl, rfl⟩ := Prod.mk.inj h
  exact q_iret (pc := 87) dX1_few_87 rfl rfl rfl
def f_X11_told (a1 : Int32) (M : qM) : Option (Int32 × qM) :=
  if a1 = nI 0 then (f_X5_least M).bind fun r4 => some (r4, M)
    else if a1 = nI 1 then (f_X5_couples M).bind fun r8 => some (r8, M)
    else if a1 = nI 2 then (f_X5_objectors M).bind fun r12 => some (r12, M)
    else if a1 = nI 3 then some (M 3 1, M)
    else if a1 = nI 4 then (f_X5_years M).bind fun r17 => some (r17, M)
    else if a1 = nI 5 then (f_X5_couplesThat (nI 0) M).bind fun r21 => some (r21, M)
    else if a1 = nI 6 then (f_X5_couplesThat (nI 1) M).bind fun r25 => some (r25, M)
    else if a1 = nI 7 then (f_X5_couplesThat (nI 2) M).bind fun r29 => some (r29, M)
    else if a1 = nI 8 then (f_X5_stood M).bind fun r33 => some (r33, M)
    else if a1 = nI 9 then (f_X5_boxed M).bind fun r37 => some (r37, M)
    else if a1 = nI 10 then (f_X10_plain M).bind fun r41 => some (r41, M)
    else if a1 = nI 11 then (f_X10_firmest M).bind fun r45 => some (r45, M)
    else if a1 = nI 12 then (f_X1_few M).bind fun p47 => some (p47.1, p47.2)
    else if a1 = nI 13 then some (M 20 0, M)
    else if a1 = nI 14 then some (M 22 0, M)
    else if a1 = nI 15 then some (M 7 0, M)
    else some ((-1000000002 : Int32), M)
set_option maxRecDepth 20000 in
set_option maxHeartbeats 4000000 in
theorem a_X11_told {G : qG} {a1 : Int32} {M : qM} {J : qJ} {r : Int32} {M' : qM} (h : f_X11_told a1 M = some (r, M')) : QM G 6 0 0 YX11_told [.ref 0, .int a1] SH M J (some (.int r), SH, M', J) := by
  refine ⟨Nat.le_of_ble_eq_true rfl, Or.inl rfl, ?_⟩
  show QW G (qrm 6 0 0) YX11_told 0 0 0 [some (.ref 0), some (.int a1)] [] SH M J _
  unfold f_X11_told at h
  refine q_iload_n (pc := 0) dX11_told_0 rfl ?_
  by_cases k1 : a1 = nI 0
  · rw [if_pos k1] at h
    refine q_tabIn (pc := 1) (tgt := 80) (off := 79) (j := 0) dX11_told_1 (by rw [k1]; rfl) (by decide) (by decide) rfl (by decide) ?_
    refine q_aload_n (pc := 80) dX11_told_80 rfl ?_
    refine q_getf (pc := 81) (f := 0) (v := .ref 1) dX11_told_81 sh_0 cl_10 inX11 rfl (by decide) lk_X11_10 rfl ?_
    obtain ⟨r4, h3, h⟩ := Option.bind_eq_some_iff.mp h
    refine q_callv (pc := 84) (st := []) (a_X5_least h3) okX5_least rfl dX11_told_84 lk_X11_123 sh_1 cl_5 rfl (by decide) (by decide) (Nat.le_of_ble_eq_true rfl) ⟨Nat.le_of_ble_eq_true rfl, Nat.le_of_ble_eq_true rfl⟩ rfl ?_
    show QW G (qrm 6 0 0) YX11_told 0 0 87 [some (.ref 0), some (.int a1)] [.int r4] SH M J _
    have h := Option.some.inj h
    obtain ⟨rfl, rfl⟩ := Prod.mk.inj h
    exact q_iret (pc := 87) dX11_told_87 rfl rfl rfl
  · rw [if_neg k1] at h
    by_cases k5 : a1 = nI 1
    · rw [if_pos k5] at h
      refine q_tabIn (pc := 1) (tgt := 88) (off := 87) (j := 1) dX11_told_1 (by rw [k5]; rfl) (by decide) (by decide) rfl (by decide) ?_
      refine q_aload_n (pc := 88) dX11_told_88 rfl ?_
      refine q_getf (pc := 89) (f := 0) (v := .ref 1) dX11_told_89 sh_0 cl_10 inX11 rfl (by decide) lk_X11_10 rfl ?_
      obtain ⟨r8, h7, h⟩ := Option.bind_eq_some_iff.mp h
      refine q_callv (pc := 92) (st := []) (a_X5_couples h7) okX5_couples rfl dX11_told_92 lk_X11_116 sh_1 cl_5 rfl (by decide) (by decide) (Nat.le_of_ble_eq_true rfl) ⟨Nat.le_of_ble_eq_true rfl, Nat.le_of_ble_eq_true rfl⟩ rfl ?_
      show QW G (qrm 6 0 0) YX11_told 0 0 95 [some (.ref 0), some (.int a1)] [.int r8] SH M J _
      have h := Option.some.inj h
      obtain ⟨rfl, rfl⟩ := Prod.mk.inj h
      exact q_iret (pc := 95) dX11_told_95 rfl rfl rfl
    · rw [if_neg k5] at h
      by_cases k9 : a1 = nI 2
      · rw [if_pos k9] at h
        refine q_tabIn (pc := 1) (tgt := 96) (off := 95) (j := 2) dX11_told_1 (by rw [k9]; rfl) (by decide) (by decide) rfl (by decide) ?_
        refine q_aload_n (pc := 96) dX11_told_96 rfl ?_
        refine q_getf (pc := 97) (f := 0) (v := .ref 1) dX11_told_97 sh_0 cl_10 inX11 rfl (by decide) lk_X11_10 rfl ?_
        obtain ⟨r12, h11, h⟩ := Option.bind_eq_some_iff.mp h
        refine q_callv (pc := 100) (st := []) (a_X5_objectors h11) okX5_objectors rfl dX11_told_100 lk_X11_126 sh_1 cl_5 rfl (by decide) (by decide) (Nat.le_of_ble_eq_true rfl) ⟨Nat.le_of_ble_eq_true rfl, Nat.le_of_ble_eq_true rfl⟩ rfl ?_
        show QW G (qrm 6 0 0) YX11_told 0 0 103 [some (.ref 0), some (.int a1)] [.int r12] SH M J _
        have h := Option.some.inj h
        obtain ⟨rfl, rfl⟩ := Prod.mk.inj h
        exact q_iret (pc := 103) dX11_told_103 rfl rfl rfl
      · rw [if_neg k9] at h
        by_cases k13 : a1 = nI 3
        · rw [if_pos k13] at h
          refine q_tabIn (pc := 1) (tgt := 104) (off := 103) (j := 3) dX11_told_1 (by rw [k13]; rfl) (by decide) (by decide) rfl (by decide) ?_
          refine q_aload_n (pc := 104) dX11_told_104 rfl ?_
          refine q_getf (pc := 105) (f := 1) (v := .ref 3) dX11_told_105 sh_0 cl_10 inX11 rfl (by decide) lk_X11_19 rfl ?_
          refine q_getf (pc := 108) (f := 1) (v := .int (M 3 1)) dX11_told_108 sh_3 cl_7 inX7 rfl (by decide) lk_X11_129 rfl ?_
          have h := Option.some.inj h
          obtain ⟨rfl, rfl⟩ := Prod.mk.inj h
          exact q_iret (pc := 111) dX11_told_111 rfl rfl rfl
        · rw [if_neg k13] at h
          by_cases k14 : a1 = nI 4
          · rw [if_pos k14] at h
            refine q_tabIn (pc := 1) (tgt := 112) (off := 111) (j := 4) dX11_told_1 (by rw [k14]; rfl) (by decide) (by decide) rfl (by decide) ?_
            refine q_aload_n (pc := 112) dX11_told_112 rfl ?_
            refine q_getf (pc := 113) (f := 0) (v := .ref 1) dX11_told_113 sh_0 cl_10 inX11 rfl (by decide) lk_X11_10 rfl ?_
            obtain ⟨r17, h16, h⟩ := Option.bind_eq_some_iff.mp h
            refine q_callv (pc := 116) (st := []) (a_X5_years h16) okX5_years rfl dX11_told_116 lk_X11_132 sh_1 cl_5 rfl (by decide) (by decide) (Nat.le_of_ble_eq_true rfl) ⟨Nat.le_of_ble_eq_true rfl, Nat.le_of_ble_eq_true rfl⟩ rfl ?_
            show QW G (qrm 6 0 0) YX11_told 0 0 119 [some (.ref 0), some (.int a1)] [.int r17] SH M J _
            have h := Option.some.inj h
            obtain ⟨rfl, rfl⟩ := Prod.mk.inj h
            exact q_iret (pc := 119) dX11_told_119 rfl rfl rfl
          · rw [if_neg k14] at h
            by_cases k18 : a1 = nI 5
            · rw [if_pos k18] at h
              refine q_tabIn (pc := 1) (tgt := 120) (off := 119) (j := 5) dX11_told_1 (by rw [k18]; rfl) (by decide) (by decide) rfl (by decide) ?_
              refine q_aload_n (pc := 120) dX11_told_120 rfl ?_
              refine q_getf (pc := 121) (f := 0) (v := .ref 1) dX11_told_121 sh_0 cl_10 inX11 rfl (by decide) lk_X11_10 rfl ?_
              refine q_iconst (pc := 124) (v := nI 0) dX11_told_124 (by decide) ?_
              obtain ⟨r21, h20, h⟩ := Option.bind_eq_some_iff.mp h
              refine q_callv (pc := 125) (st := []) (a_X5_couplesThat h20) okX5_couplesThat rfl dX11_told_125 lk_X11_135 sh_1 cl_5 rfl (by decide) (by decide) (Nat.le_of_ble_eq_true rfl) ⟨Nat.le_of_ble_eq_true rfl, Nat.le_of_ble_eq_true rfl⟩ rfl ?_
              show QW G (qrm 6 0 0) YX11_told 0 0 128 [some (.ref 0), some (.int a1)] [.int r21] SH M J _
              have h := Option.some.inj h
              obtain ⟨rfl, rfl⟩ := Prod.mk.inj h
              exact q_iret (pc := 128) dX11_told_128 rfl rfl rfl
            · rw [if_neg k18] at h
              by_cases k22 : a1 = nI 6
              · rw [if_pos k22] at h
                refine q_tabIn (pc := 1) (tgt := 129) (off := 128) (j := 6) dX11_told_1 (by rw [k22]; rfl) (by decide) (by decide) rfl (by decide) ?_
                refine q_aload_n (pc := 129) dX11_told_129 rfl ?_
                refine q_getf (pc := 130) (f := 0) (v := .ref 1) dX11_told_130 sh_0 cl_10 inX11 rfl (by decide) lk_X11_10 rfl ?_
                refine q_iconst (pc := 133) (v := nI 1) dX11_told_133 (by decide) ?_
                obtain ⟨r25, h24, h⟩ := Option.bind_eq_some_iff.mp h
                refine q_callv (pc := 134) (st := []) (a_X5_couplesThat h24) okX5_couplesThat rfl dX11_told_134 lk_X11_135 sh_1 cl_5 rfl (by decide) (by decide) (Nat.le_of_ble_eq_true rfl) ⟨Nat.le_of_ble_eq_true rfl, Nat.le_of_ble_eq_true rfl⟩ rfl ?_
                show QW G (qrm 6 0 0) YX11_told 0 0 137 [some (.ref 0), some (.int a1)] [.int r25] SH M J _
                have h := Option.some.inj h
                obtain ⟨rfl, rfl⟩ := Prod.mk.inj h
                exact q_iret (pc := 137) dX11_told_137 rfl rfl rfl
              · rw [if_neg k22] at h
                by_cases k26 : a1 = nI 7
                · rw [if_pos k26] at h
                  refine q_tabIn (pc := 1) (tgt := 138) (off := 137) (j := 7) dX11_told_1 (by rw [k26]; rfl) (by decide) (by decide) rfl (by decide) ?_
                  refine q_aload_n (pc := 138) dX11_told_138 rfl ?_
                  refine q_getf (pc := 139) (f := 0) (v := .ref 1) dX11_told_139 sh_0 cl_10 inX11 rfl (by decide) lk_X11_10 rfl ?_
                  refine q_iconst (pc := 142) (v := nI 2) dX11_told_142 (by decide) ?_
                  obtain ⟨r29, h28, h⟩ := Option.bind_eq_some_iff.mp h
                  refine q_callv (pc := 143) (st := []) (a_X5_couplesThat h28) okX5_couplesThat rfl dX11_told_143 lk_X11_135 sh_1 cl_5 rfl (by decide) (by decide) (Nat.le_of_ble_eq_true rfl) ⟨Nat.le_of_ble_eq_true rfl, Nat.le_of_ble_eq_true rfl⟩ rfl ?_
                  show QW G (qrm 6 0 0) YX11_told 0 0 146 [some (.ref 0), some (.int a1)] [.int r29] SH M J _
                  have h := Option.some.inj h
                  obtain ⟨rfl, rfl⟩ := Prod.mk.inj h
                  exact q_iret (pc := 146) dX11_told_146 rfl rfl rfl
                · rw [if_neg k26] at h
                  by_cases k30 : a1 = nI 8
                  · rw [if_pos k30] at h
                    refine q_tabIn (pc := 1) (tgt := 147) (off := 146) (j := 8) dX11_told_1 (by rw [k30]; rfl) (by decide) (by decide) rfl (by decide) ?_
                    refine q_aload_n (pc := 147) dX11_told_147 rfl ?_
                    refine q_getf (pc := 148) (f := 0) (v := .ref 1) dX11_told_148 sh_0 cl_10 inX11 rfl (by decide) lk_X11_10 rfl ?_
                    obtain ⟨r33, h32, h⟩ := Option.bind_eq_some_iff.mp h
                    refine q_callv (pc := 151) (st := []) (a_X5_stood h32) okX5_stood rfl dX11_told_151 lk_X11_138 sh_1 cl_5 rfl (by decide) (by decide) (Nat.le_of_ble_eq_true rfl) ⟨Nat.le_of_ble_eq_true rfl, Nat.le_of_ble_eq_true rfl⟩ rfl ?_
                    show QW G (qrm 6 0 0) YX11_told 0 0 154 [some (.ref 0), some (.int a1)] [.int r33] SH M J _
                    have h := Option.some.inj h
                    obtain ⟨rfl, rfl⟩ := Prod.mk.inj h
                    exact q_iret (pc := 154) dX11_told_154 rfl rfl rfl
                  · rw [if_neg k30] at h
                    by_cases k34 : a1 = nI 9
                    · rw [if_pos k34] at h
                      refine q_tabIn (pc := 1) (tgt := 155) (off := 154) (j := 9) dX11_told_1 (by rw [k34]; rfl) (by decide) (by decide) rfl (by decide) ?_
                      refine q_aload_n (pc := 155) dX11_told_155 rfl ?_
                      refine q_getf (pc := 156) (f := 0) (v := .ref 1) dX11_told_156 sh_0 cl_10 inX11 rfl (by decide) lk_X11_10 rfl ?_
                      obtain ⟨r37, h36, h⟩ := Option.bind_eq_some_iff.mp h
                      refine q_callv (pc := 159) (st := []) (a_X5_boxed h36) okX5_boxed rfl dX11_told_159 lk_X11_141 sh_1 cl_5 rfl (by decide) (by decide) (Nat.le_of_ble_eq_true rfl) ⟨Nat.le_of_ble_eq_true rfl, Nat.le_of_ble_eq_true rfl⟩ rfl ?_
                      show QW G (qrm 6 0 0) YX11_told 0 0 162 [some (.ref 0), some (.int a1)] [.int r37] SH M J _
                      have h := Option.some.inj h
                      obtain ⟨rfl, rfl⟩ := Prod.mk.inj h
                      exact q_iret (pc := 162) dX11_told_162 rfl rfl rfl
                    · rw [if_neg k34] at h
                      by_cases k38 : a1 = nI 10
                      · rw [if_pos k38] at h
                        refine q_tabIn (pc := 1) (tgt := 163) (off := 162) (j := 10) dX11_told_1 (by rw [k38]; rfl) (by decide) (by decide) rfl (by decide) ?_
                        refine q_aload_n (pc := 163) dX11_told_163 rfl ?_
                        refine q_getf (pc := 164) (f := 0) (v := .ref 1) dX11_told_164 sh_0 cl_10 inX11 rfl (by decide) lk_X11_10 rfl ?_
                        obtain ⟨r41, h40, h⟩ := Option.bind_eq_some_iff.mp h
                        refine q_calls (pc := 167) (st := []) (a_X10_plain h40) okX10_plain rfl dX11_told_167 lk_X11_144 rfl (by decide) (by decide) (Nat.le_of_ble_eq_true rfl) ⟨Nat.le_of_ble_eq_true rfl, Nat.le_of_ble_eq_true rfl⟩ rfl ?_
                        show QW G (qrm 6 0 0) YX11_told 0 0 170 [some (.ref 0), some (.int a1)] [.int r41] SH M J _
                        have h := Option.some.inj h
                        obtain ⟨rfl, rfl⟩ := Prod.mk.inj h
                        exact q_iret (pc := 170) dX11_told_170 rfl rfl rfl
                      · rw [if_neg k38] at h
                        by_cases k42 : a1 = nI 11
                        · rw [if_pos k42] at h
                          refine q_tabIn (pc := 1) (tgt := 171) (off := 170) (j := 11) dX11_told_1 (by rw [k42]; rfl) (by decide) (by decide) rfl (by decide) ?_
                          refine q_aload_n (pc := 171) dX11_told_171 rfl ?_
                          refine q_getf (pc := 172) (f := 0) (v := .ref 1) dX11_told_172 sh_0 cl_10 inX11 rfl (by decide) lk_X11_10 rfl ?_
                          obtain ⟨r45, h44, h⟩ := Option.bind_eq_some_iff.mp h
                          refine q_calls (pc := 175) (st := []) (a_X10_firmest h44) okX10_firmest rfl dX11_told_175 lk_X11_150 rfl (by decide) (by decide) (Nat.le_of_ble_eq_true rfl) ⟨Nat.le_of_ble_eq_true rfl, Nat.le_of_ble_eq_true rfl⟩ rfl ?_
                          show QW G (qrm 6 0 0) YX11_told 0 0 178 [some (.ref 0), some (.int a1)] [.int r45] SH M J _
                          have h := Option.some.inj h
                          obtain ⟨rfl, rfl⟩ := Prod.mk.inj h
                          exact q_iret (pc := 178) dX11_told_178 rfl rfl rfl
                        · rw [if_neg k42] at h
                          by_cases k46 : a1 = nI 12
                          · rw [if_pos k46] at h
                            refine q_tabIn (pc := 1) (tgt := 179) (off := 178) (j := 12) dX11_told_1 (by rw [k46]; rfl) (by decide) (by decide) rfl (by decide) ?_
                            refine q_aload_n (pc := 179) dX11_told_179 rfl ?_
                            refine q_getf (pc := 180) (f := 7) (v := .ref 18) dX11_told_180 sh_0 cl_10 inX11 rfl (by decide) lk_X11_61 rfl ?_
                            refine q_aload_n (pc := 183) dX11_told_183 rfl ?_
                            refine q_getf (pc := 184) (f := 0) (v := .ref 1) dX11_told_184 sh_0 cl_10 inX11 rfl (by decide) lk_X11_10 rfl ?_
                            obtain ⟨⟨r49, M50⟩, h48, h⟩ := Option.bind_eq_some_iff.mp h
                            try dsimp only at h
                            refine q_callv (pc := 187) (st := []) (a_X1_few h48) okX1_few rfl dX11_told_187 lk_X11_153 sh_18 cl_1 rfl (by decide) (by decide) (Nat.le_of_ble_eq_true rfl) ⟨Nat.le_of_ble_eq_true rfl, Nat.le_of_ble_eq_true rfl⟩ rfl ?_
                            show QW G (qrm 6 0 0) YX11_told 0 0 190 [some (.ref 0), some (.int a1)] [.int r49] SH M50 J _
                            have h := Option.some.inj h
                            obtain ⟨rfl, rfl⟩ := Prod.mk.inj h
                            exact q_iret (pc := 190) dX11_told_190 rfl rfl rfl
                          · rw [if_neg k46] at h
                            by_cases k51 : a1 = nI 13
                            · rw [if_pos k51] at h
                              refine q_tabIn (pc := 1) (tgt := 191) (off := 190) (j := 13) dX11_told_1 (by rw [k51]; rfl) (by decide) (by decide) rfl (by decide) ?_
                              refine q_aload_n (pc := 191) dX11_told_191 rfl ?_
                              refine q_getf (pc := 192) (f := 8) (v := .ref 20) dX11_told_192 sh_0 cl_10 inX11 rfl (by decide) lk_X11_68 rfl ?_
                              refine q_getf (pc := 195) (f := 0) (v := .int (M 20 0)) dX11_told_195 sh_20 cl_9 inX9 rfl (by decide) lk_X11_156 rfl ?_
                              have h := Option.some.inj h
                              obtain ⟨rfl, rfl⟩ := Prod.mk.inj h
                              exact q_iret (pc := 198) dX11_told_198 rfl rfl rfl
                            · rw [if_neg k51] at h
                              by_cases k52 : a1 = nI 14
                              · rw [if_pos k52] at h
                                refine q_tabIn (pc := 1) (tgt := 199) (off := 198) (j := 14) dX11_told_1 (by rw [k52]; rfl) (by decide) (by decide) rfl (by decide) ?_
                                refine q_aload_n (pc := 199) dX11_told_199 rfl ?_
                                refine q_getf (pc := 200) (f := 9) (v := .ref 22) dX11_told_200 sh_0 cl_10 inX11 rfl (by decide) lk_X11_75 rfl ?_
                                refine q_getf (pc := 203) (f := 0) (v := .int (M 22 0)) dX11_told_203 sh_22 cl_0 inX0 rfl (by decide) lk_X11_159 rfl ?_
                                have h := Option.some.inj h
                                obtain ⟨rfl, rfl⟩ := Prod.mk.inj h
                                exact q_iret (pc := 206) dX11_told_206 rfl rfl rfl
                              · rw [if_neg k52] at h
                                by_cases k53 : a1 = nI 15
                                · rw [if_pos k53] at h
                                  refine q_tabIn (pc := 1) (tgt := 207) (off := 206) (j := 15) dX11_told_1 (by rw [k53]; rfl) (by decide) (by decide) rfl (by decide) ?_
                                  refine q_aload_n (pc := 207) dX11_told_207 rfl ?_
                                  refine q_getf (pc := 208) (f := 2) (v := .ref 7) dX11_told_208 sh_0 cl_10 inX11 rfl (by decide) lk_X11_26 rfl ?_
                                  refine q_getf (pc := 211) (f := 0) (v := .int (M 7 0)) dX11_told_211 sh_7 cl_6 inX6 rfl (by decide) lk_X11_160 rfl ?_
                                  have h := Option.some.inj h
                                  obtain ⟨rfl, rfl⟩ := Prod.mk.inj h
                                  exact q_iret (pc := 214) dX11_told_214 rfl rfl rfl
                                · rw [if_neg k53] at h
                                  have hsw : a1.toInt < (0) ∨ (15) < a1.toInt := by
                                    have := lv_neT k1 (show (nI 0).toInt = 0 from rfl)
                                    have := lv_neT k5 (show (nI 1).toInt = 1 from rfl)
                                    have := lv_neT k9 (show (nI 2).toInt = 2 from rfl)
                                    have := lv_neT k13 (show (nI 3).toInt = 3 from rfl)
                                    have := lv_neT k14 (show (nI 4).toInt = 4 from rfl)
                                    have := lv_neT k18 (show (nI 5).toInt = 5 from rfl)
                                    have := lv_neT k22 (show (nI 6).toInt = 6 from rfl)
                                    have := lv_neT k26 (show (nI 7).toInt = 7 from rfl)
                                    have := lv_neT k30 (show (nI 8).toInt = 8 from rfl)
                                    have := lv_neT k34 (show (nI 9).toInt = 9 from rfl)
                                    have := lv_neT k38 (show (nI 10).toInt = 10 from rfl)
                                    have := lv_neT k42 (show (nI 11).toInt = 11 from rfl)
                                    have := lv_neT k46 (show (nI 12).toInt = 12 from rfl)
                                    have := lv_neT k51 (show (nI 13).toInt = 13 from rfl)
                                    have := lv_neT k52 (show (nI 14).toInt = 14 from rfl)
                                    have := lv_neT k53 (show (nI 15).toInt = 15 from rfl)
                                    omega
                                  refine q_tabOut (pc := 1) (tgt := 215) dX11_told_1 hsw (by decide) ?_
                                  refine q_ldc (pc := 215) (v := (-1000000002 : Int32)) dX11_told_215 lk_X11_83 ?_
                                  have h := Option.some.inj h
                                  obtain ⟨rfl, rfl⟩ := Prod.mk.inj h
                                  exact q_iret (pc := 217) dX11_told_217 rfl rfl rfl
def f_X5_hasCouple (a1 : Int32) (M : qM) : Option Bool :=
  if a1 < 0 then some (false)
    else (qrd M 2 172 (nI 1)).bind fun v2 => if v2 ≤ a1 then some (false)
    else some (true)
set_option maxRecDepth 20000 in
set_option maxHeartbeats 4000000 in
theorem a_X5_hasCouple {G : qG} {a1 : Int32} {M : qM} {J : qJ} {r : Bool} (h : f_X5_hasCouple a1 M = some (r)) : QM G 0 0 0 YX5_hasCouple [.ref 1, .int a1] SH M J (some (.int (qb r)), SH, M, J) := by
  refine ⟨Nat.le_of_ble_eq_true rfl, Or.inr ⟨rfl, _, rfl⟩, ?_⟩
  show QW G (qrm 0 0 0) YX5_hasCouple 0 0 0 [some (.ref 1), some (.int a1)] [] SH M J _
  unfold f_X5_hasCouple at h
  refine q_iload_n (pc := 0) dX5_hasCouple_0 rfl ?_
  by_cases k1 : a1 < 0
  · rw [if_pos k1] at h
    refine q_if_lt_t (pc := 1) (tgt := 18) dX5_hasCouple_1 (by decide) k1 ?_
    refine q_iconst (pc := 18) (v := nI 0) dX5_hasCouple_18 (by decide) ?_
    obtain rfl := Option.some.inj h
    exact q_iret (pc := 19) dX5_hasCouple_19 rfl rfl rfl
  · rw [if_neg k1] at h
    refine q_if_lt_f (pc := 1) (tgt := 18) dX5_hasCouple_1 (by decide) k1 ?_
    refine q_iload_n (pc := 4) dX5_hasCouple_4 rfl ?_
    refine q_aload_n (pc := 5) dX5_hasCouple_5 rfl ?_
    refine q_getf (pc := 6) (f := 0) (v := .ref 2) dX5_hasCouple_6 sh_1 cl_5 inX5 rfl (by decide) lk_X5_11 rfl ?_
    refine q_iconst (pc := 9) (v := nI 1) dX5_hasCouple_9 (by decide) ?_
    obtain ⟨v2, h3, h⟩ := Option.bind_eq_some_iff.mp h
    refine q_iald (pc := 10) dX5_hasCouple_10 sh_2 h3 ?_
    by_cases k4 : v2 ≤ a1
    · rw [if_pos k4] at h
      refine q_icmp_ge_t (pc := 11) (tgt := 18) dX5_hasCouple_11 (by decide) k4 ?_
      refine q_iconst (pc := 18) (v := nI 0) dX5_hasCouple_18 (by decide) ?_
      obtain rfl := Option.some.inj h
      exact q_iret (pc := 19) dX5_hasCouple_19 rfl rfl rfl
    · rw [if_neg k4] at h
      refine q_icmp_ge_f (pc := 11) (tgt := 18) dX5_hasCouple_11 (by decide) k4 ?_
      refine q_iconst (pc := 14) (v := nI 1) dX5_hasCouple_14 (by decide) ?_
      refine q_goto (pc := 15) (tgt := 19) dX5_hasCouple_15 (by decide) ?_
      obtain rfl := Option.some.inj h
      exact q_iret (pc := 19) dX5_hasCouple_19 rfl rfl rfl
def f_X10_weakest_L4 (x1 : Int32) (M : qM) : Nat → Int32 → Int32 → Option (Int32 × Int32)
  | 0, _, _ => none
  | n + 1, c2, c3 =>
  (f_X5_objectors M).bind fun r3 => if r3 ≤ c3 then some (c2, c3)
    else if c2 = (-1 : Int32) then f_X10_weakest_L4 x1 M n c3 (c3 + nI 1)
    else (f_X5_strengthIn c3 x1 (nI 0) M).bind fun r8 => (f_X5_strengthIn c2 x1 (nI 0) M).bind fun r11 => if r11 ≤ r8 then f_X10_weakest_L4 x1 M n c2 (c3 + nI 1)
    else f_X10_weakest_L4 x1 M n c3 (c3 + nI 1)
set_option maxRecDepth 20000 in
set_option maxHeartbeats 4000000 in
theorem l_X10_weakest_L4 {G : qG} {ρ : qR} (x1 : Int32) (M : qM) (J : qJ) : ∀ (n : Nat) (c2 : Int32) (c3 : Int32) (res : Int32 × Int32), f_X10_weakest_L4 x1 M n c2 c3 = some res → (∀ x : Int32 × Int32, res = x → QW G (qrm 3 0 0) YX10_weakest 0 0 42 [none, none, some (.int x.1), none] [] SH M J ρ) → QW G (qrm 3 0 0) YX10_weakest 0 0 4 [some (.ref 1), some (.int x1), some (.int c2), some (.int c3)] [] SH M J ρ
  | 0, _, _, _, h, _ => by simp [f_X10_weakest_L4] at h
  | n + 1, c2, c3, res, h, hk => by
    rw [f_X10_weakest_L4] at h
    refine q_iload_n (pc := 4) dX10_weakest_4 rfl ?_
    refine q_aload_n (pc := 5) dX10_weakest_5 rfl ?_
    obtain ⟨r3, h2, h⟩ := Option.bind_eq_some_iff.mp h
    refine q_callv (pc := 6) (st := [.int c3]) (a_X5_objectors h2) okX5_objectors rfl dX10_weakest_6 lk_X10_9 sh_1 cl_5 rfl (by decide) (by decide) (Nat.le_of_ble_eq_true rfl) ⟨Nat.le_of_ble_eq_true rfl, Nat.le_of_ble_eq_true rfl⟩ rfl ?_
    show QW G (qrm 3 0 0) YX10_weakest 0 0 9 [some (.ref 1), some (.int x1), some (.int c2), some (.int c3)] [.int r3, .int c3] SH M J _
    by_cases k4 : r3 ≤ c3
    · rw [if_pos k4] at h
      refine q_icmp_ge_t (pc := 9) (tgt := 42) dX10_weakest_9 (by decide) k4 ?_
      refine q_weak (ls' := [none, none, some (.int c2), none]) ⟨rfl, trivial⟩ ?_
      obtain rfl := Option.some.inj h
      exact hk (c2, c3) rfl
    · rw [if_neg k4] at h
      refine q_icmp_ge_f (pc := 9) (tgt := 42) dX10_weakest_9 (by decide) k4 ?_
      refine q_iload_n (pc := 12) dX10_weakest_12 rfl ?_
      refine q_iconst (pc := 13) (v := (-1 : Int32)) dX10_weakest_13 (by decide) ?_
      by_cases k5 : c2 = (-1 : Int32)
      · rw [if_pos k5] at h
        refine q_icmp_eq_t (pc := 14) (tgt := 34) dX10_weakest_14 (by decide) k5 ?_
        refine q_iload_n (pc := 34) dX10_weakest_34 rfl ?_
        refine q_istore_n (pc := 35) (ls' := [some (.ref 1), some (.int x1), some (.int c3), some (.int c3)]) dX10_weakest_35 (by decide) rfl rfl ?_
        refine q_iincW (pc := 36) (w := nI 1) (ls' := [some (.ref 1), some (.int x1), some (.int c3), some (.int (c3 + nI 1))]) dX10_weakest_36 rfl (by decide) (by decide) rfl rfl ?_
        refine q_goto (pc := 39) (tgt := 4) dX10_weakest_39 (by decide) ?_
        exact l_X10_weakest_L4 x1 M J n c3 (c3 + nI 1) res h hk
      · rw [if_neg k5] at h
        refine q_icmp_eq_f (pc := 14) (tgt := 34) dX10_weakest_14 (by decide) k5 ?_
        refine q_aload_n (pc := 17) dX10_weakest_17 rfl ?_
        refine q_iload_n (pc := 18) dX10_weakest_18 rfl ?_
        refine q_iload_n (pc := 19) dX10_weakest_19 rfl ?_
        refine q_iconst (pc := 20) (v := nI 0) dX10_weakest_20 (by decide) ?_
        obtain ⟨r8, h7, h⟩ := Option.bind_eq_some_iff.mp h
        refine q_callv (pc := 21) (st := []) (a_X5_strengthIn h7) okX5_strengthIn rfl dX10_weakest_21 lk_X10_25 sh_1 cl_5 rfl (by decide) (by decide) (Nat.le_of_ble_eq_true rfl) ⟨Nat.le_of_ble_eq_true rfl, Nat.le_of_ble_eq_true rfl⟩ rfl ?_
        show QW G (qrm 3 0 0) YX10_weakest 0 0 24 [some (.ref 1), some (.int x1), some (.int c2), some (.int c3)] [.int r8] SH M J _
        refine q_aload_n (pc := 24) dX10_weakest_24 rfl ?_
        refine q_iload_n (pc := 25) dX10_weakest_25 rfl ?_
        refine q_iload_n (pc := 26) dX10_weakest_26 rfl ?_
        refine q_iconst (pc := 27) (v := nI 0) dX10_weakest_27 (by decide) ?_
        obtain ⟨r11, h10, h⟩ := Option.bind_eq_some_iff.mp h
        refine q_callv (pc := 28) (st := [.int r8]) (a_X5_strengthIn h10) okX5_strengthIn rfl dX10_weakest_28 lk_X10_25 sh_1 cl_5 rfl (by decide) (by decide) (Nat.le_of_ble_eq_true rfl) ⟨Nat.le_of_ble_eq_true rfl, Nat.le_of_ble_eq_true rfl⟩ rfl ?_
        show QW G (qrm 3 0 0) YX10_weakest 0 0 31 [some (.ref 1), some (.int x1), some (.int c2), some (.int c3)] [.int r11, .int r8] SH M J _
        by_cases k12 : r11 ≤ r8
        · rw [if_pos k12] at h
          refine q_icmp_ge_t (pc := 31) (tgt := 36) dX10_weakest_31 (by decide) k12 ?_
          refine q_iincW (pc := 36) (w := nI 1) (ls' := [some (.ref 1), some (.int x1), some (.int c2), some (.int (c3 + nI 1))]) dX10_weakest_36 rfl (by decide) (by decide) rfl rfl ?_
          refine q_goto (pc := 39) (tgt := 4) dX10_weakest_39 (by decide) ?_
          exact l_X10_weakest_L4 x1 M J n c2 (c3 + nI 1) res h hk
        · rw [if_neg k12] at h
          refine q_icmp_ge_f (pc := 31) (tgt := 36) dX10_weakest_31 (by decide) k12 ?_
          refine q_iload_n (pc := 34) dX10_weakest_34 rfl ?_
          refine q_istore_n (pc := 35) (ls' := [some (.ref 1), some (.int x1), some (.int c3), some (.int c3)]) dX10_weakest_35 (by decide) rfl rfl ?_
          refine q_iincW (pc := 36) (w := nI 1) (ls' := [some (.ref 1), some (.int x1), some (.int c3), some (.int (c3 + nI 1))]) dX10_weakest_36 rfl (by decide) (by decide) rfl rfl ?_
          refine q_goto (pc := 39) (tgt := 4) dX10_weakest_39 (by decide) ?_
          exact l_X10_weakest_L4 x1 M J n c3 (c3 + nI 1) res h hk
def f_X10_weakest (a1 : Int32) (M : qM) : Option Int32 :=
  (f_X10_weakest_L4 a1 M qF (-1 : Int32) (nI 0)).bind fun e13 => some (e13.1)
set_option maxRecDepth 20000 in
set_option maxHeartbeats 4000000 in
theorem a_X10_weakest {G : qG} {a1 : Int32} {M : qM} {J : qJ} {r : Int32} (h : f_X10_weakest a1 M = some (r)) : QM G 3 0 0 YX10_weakest [.ref 1, .int a1] SH M J (some (.int r), SH, M, J) := by
  refine ⟨Nat.le_of_ble_eq_true rfl, Or.inl rfl, ?_⟩
  show QW G (qrm 3 0 0) YX10_weakest 0 0 0 [some (.ref 1), some (.int a1), none, none] [] SH M J _
  unfold f_X10_weakest at h
  refine q_iconst (pc := 0) (v := (-1 : Int32)) dX10_weakest_0 (by decide) ?_
  refine q_istore_n (pc := 1) (ls' := [some (.ref 1), some (.int a1), some (.int (-1 : Int32)), none]) dX10_weakest_1 (by decide) rfl rfl ?_
  refine q_iconst (pc := 2) (v := nI 0) dX10_weakest_2 (by decide) ?_
  refine q_istore_n (pc := 3) (ls' := [some (.ref 1), some (.int a1), some (.int (-1 : Int32)), some (.int (nI 0))]) dX10_weakest_3 (by decide) rfl rfl ?_
  obtain ⟨⟨e13_2, e13_3⟩, h14, h⟩ := Option.bind_eq_some_iff.mp h
  try dsimp only at h
  refine l_X10_weakest_L4 a1 M J qF (-1 : Int32) (nI 0) _ h14 (fun x hx => ?_)
  subst hx
  show QW G (qrm 3 0 0) YX10_weakest 0 0 42 [none, none, some (.int e13_2), none] [] SH M J _
  refine q_iload_n (pc := 42) dX10_weakest_42 rfl ?_
  obtain rfl := Option.some.inj h
  exact q_iret (pc := 43) dX10_weakest_43 rfl rfl rfl
