def f_X12_judge_L2  (M : qM) : Nat → Int32 → Option ((Int32) ⊕ (Int32))
  | 0, _ => none
  | n + 1, c1 =>
  if (M 25 15) ≤ c1 then some (.inr (c1))
    else (qrd M 35 30 ((nI 2) * c1)).bind fun v10 => (qrd M 28 163 ((nI 1) + v10)).bind fun v12 => (qrd M 35 30 (((nI 2) * c1) + (nI 1))).bind fun v14 => if v12 = v14 then f_X12_judge_L2  M n (c1 + nI 1)
    else some (.inl (c1))
set_option maxRecDepth 20000 in
set_option maxHeartbeats 4000000 in
theorem l_X12_judge_L2 {G : qG} {ρ : qR}  (M : qM) (J : qJ) : ∀ (n : Nat) (c1 : Int32) (res : (Int32) ⊕ (Int32)), f_X12_judge_L2  M n c1 = some res → (∀ x : Int32, res = .inr x → QW G (qrm 0 0 0) YX12_judge 0 0 46 [none, none] [] SH M J ρ) → (∀ r : Int32, res = .inl r → (some (.int r), SH, M, J) = ρ) → QW G (qrm 0 0 0) YX12_judge 0 0 2 [some (.ref 25), some (.int c1)] [] SH M J ρ
  | 0, _, _, h, _, _ => by simp [f_X12_judge_L2] at h
  | n + 1, c1, res, h, hk, hr => by
    rw [f_X12_judge_L2] at h
    refine q_iload_n (pc := 2) dX12_judge_2 rfl ?_
    refine q_aload_n (pc := 3) dX12_judge_3 rfl ?_
    refine q_getf (pc := 4) (f := 15) (v := .int (M 25 15)) dX12_judge_4 sh_25 cl_11 inX12 rfl (by decide) lk_X12_72 rfl ?_
    by_cases k9 : (M 25 15) ≤ c1
    · rw [if_pos k9] at h
      refine q_icmp_ge_t (pc := 7) (tgt := 46) dX12_judge_7 (by decide) k9 ?_
      refine q_weak (ls' := [none, none]) trivial ?_
      obtain rfl := Option.some.inj h
      exact hk (c1) rfl
    · rw [if_neg k9] at h
      refine q_icmp_ge_f (pc := 7) (tgt := 46) dX12_judge_7 (by decide) k9 ?_
      refine q_aload_n (pc := 10) dX12_judge_10 rfl ?_
      refine q_getf (pc := 11) (f := 2) (v := .ref 28) dX12_judge_11 sh_25 cl_11 inX12 rfl (by decide) lk_X12_16 rfl ?_
      refine q_iconst (pc := 14) (v := nI 1) dX12_judge_14 (by decide) ?_
      refine q_aload_n (pc := 15) dX12_judge_15 rfl ?_
      refine q_getf (pc := 16) (f := 14) (v := .ref 35) dX12_judge_16 sh_25 cl_11 inX12 rfl (by decide) lk_X12_42 rfl ?_
      refine q_iconst (pc := 19) (v := nI 2) dX12_judge_19 (by decide) ?_
      refine q_iload_n (pc := 20) dX12_judge_20 rfl ?_
      refine q_imul (pc := 21) dX12_judge_21 ?_
      obtain ⟨v10, h11, h⟩ := Option.bind_eq_some_iff.mp h
      refine q_iald (pc := 22) dX12_judge_22 sh_35 h11 ?_
      refine q_iadd (pc := 23) dX12_judge_23 ?_
      obtain ⟨v12, h13, h⟩ := Option.bind_eq_some_iff.mp h
      refine q_iald (pc := 24) dX12_judge_24 sh_28 h13 ?_
      refine q_aload_n (pc := 25) dX12_judge_25 rfl ?_
      refine q_getf (pc := 26) (f := 14) (v := .ref 35) dX12_judge_26 sh_25 cl_11 inX12 rfl (by decide) lk_X12_42 rfl ?_
      refine q_iconst (pc := 29) (v := nI 2) dX12_judge_29 (by decide) ?_
      refine q_iload_n (pc := 30) dX12_judge_30 rfl ?_
      refine q_imul (pc := 31) dX12_judge_31 ?_
      refine q_iconst (pc := 32) (v := nI 1) dX12_judge_32 (by decide) ?_
      refine q_iadd (pc := 33) dX12_judge_33 ?_
      obtain ⟨v14, h15, h⟩ := Option.bind_eq_some_iff.mp h
      refine q_iald (pc := 34) dX12_judge_34 sh_35 h15 ?_
      by_cases k16 : v12 = v14
      · rw [if_pos k16] at h
        refine q_icmp_eq_t (pc := 35) (tgt := 40) dX12_judge_35 (by decide) k16 ?_
        refine q_iincW (pc := 40) (w := nI 1) (ls' := [some (.ref 25), some (.int (c1 + nI 1))]) dX12_judge_40 rfl (by decide) (by decide) rfl rfl ?_
        refine q_goto (pc := 43) (tgt := 2) dX12_judge_43 (by decide) ?_
        exact l_X12_judge_L2  M J n (c1 + nI 1) res h hk hr
      · rw [if_neg k16] at h
        refine q_icmp_eq_f (pc := 35) (tgt := 40) dX12_judge_35 (by decide) k16 ?_
        refine q_iload_n (pc := 38) dX12_judge_38 rfl ?_
        obtain rfl := Option.some.inj h
        exact q_iret (pc := 39) dX12_judge_39 rfl rfl (hr (c1) rfl)
def f_X12_judge  (M : qM) : Option Int32 :=
  (f_X12_judge_L2 M qF (nI 0)).bind fun e17 => Sum.elim some (fun e17 => some ((-1 : Int32))) e17
set_option maxRecDepth 20000 in
set_option maxHeartbeats 4000000 in
theorem a_X12_judge {G : qG}  {M : qM} {J : qJ} {r : Int32} (h : f_X12_judge  M = some (r)) : QM G 0 0 0 YX12_judge [.ref 25] SH M J (some (.int r), SH, M, J) := by
  refine ⟨Nat.le_of_ble_eq_true rfl, Or.inl rfl, ?_⟩
  show QW G (qrm 0 0 0) YX12_judge 0 0 0 [some (.ref 25), none] [] SH M J _
  unfold f_X12_judge at h
  refine q_iconst (pc := 0) (v := nI 0) dX12_judge_0 (by decide) ?_
  refine q_istore_n (pc := 1) (ls' := [some (.ref 25), some (.int (nI 0))]) dX12_judge_1 (by decide) rfl rfl ?_
  obtain ⟨e17, h18, h⟩ := Option.bind_eq_some_iff.mp h
  rcases e17 with r | e17_1
  · simp only [Sum.elim_inl] at h
    obtain rfl := Option.some.inj h
    exact l_X12_judge_L2 M J qF (nI 0) _ h18 (fun x hx => by cases hx) (fun r2 hx => by have hx := Sum.inl.inj hx; subst hx; rfl)
  · simp only [Sum.elim_inr] at h
    refine l_X12_judge_L2 M J qF (nI 0) _ h18 (fun x hx => ?_) (fun r hx => by cases hx)
    have hx := Sum.inr.inj hx
    subst hx
    show QW G (qrm 0 0 0) YX12_judge 0 0 46 [none, none] [] SH M J _
    refine q_iconst (pc := 46) (v := (-1 : Int32)) dX12_judge_46 (by decide) ?_
    obtain rfl := Option.some.inj h
    exact q_iret (pc := 47) dX12_judge_47 rfl rfl rfl
def f_X12_seed (a1 : Int32) (M : qM) (J : qJ) : Option (Int32 × qJ) :=
  if 0 ≤ a1 then (qpl J 25 8 a1.toInt64).bind fun J2 => some ((J 25 8).toInt32, J2)
    else some ((-1000000002 : Int32), J)
set_option maxRecDepth 20000 in
set_option maxHeartbeats 4000000 in
theorem a_X12_seed {G : qG} {a1 : Int32} {M : qM} {J : qJ} {r : Int32} {J' : qJ} (h : f_X12_seed a1 M J = some (r, J')) : QM G 0 0 0 YX12_seed [.ref 25, .int a1] SH M J (some (.int r), SH, M, J') := by
  refine ⟨Nat.le_of_ble_eq_true rfl, Or.inl rfl, ?_⟩
  show QW G (qrm 0 0 0) YX12_seed 0 0 0 [some (.ref 25), some (.int a1), none] [] SH M J _
  unfold f_X12_seed at h
  refine q_iload_n (pc := 0) dX12_seed_0 rfl ?_
  by_cases k1 : 0 ≤ a1
  · rw [if_pos k1] at h
    refine q_if_ge_t (pc := 1) (tgt := 7) dX12_seed_1 (by decide) k1 ?_
    refine q_aload_n (pc := 7) dX12_seed_7 rfl ?_
    refine q_getf (pc := 8) (f := 8) (v := .long (J 25 8)) dX12_seed_8 sh_25 cl_11 inX12 rfl (by decide) lk_X12_218 rfl ?_
    refine q_l2i (pc := 11) dX12_seed_11 ?_
    refine q_istore_n (pc := 12) (ls' := [some (.ref 25), some (.int a1), some (.int ((J 25 8).toInt32))]) dX12_seed_12 (by decide) rfl rfl ?_
    refine q_aload_n (pc := 13) dX12_seed_13 rfl ?_
    refine q_iload_n (pc := 14) dX12_seed_14 rfl ?_
    refine q_i2l (pc := 15) dX12_seed_15 ?_
    obtain ⟨J2, h3, h⟩ := Option.bind_eq_some_iff.mp h
    refine q_putL (pc := 16) (f := 8) tyX12 dX12_seed_16 sh_25 cl_11 inX12 tyX12_ok nmX12 rfl (by decide) lk_X12_218 rfl rfl rfl h3 ?_
    refine q_iload_n (pc := 19) dX12_seed_19 rfl ?_
    have h := Option.some.inj h
    obtain ⟨rfl, rfl⟩ := Prod.mk.inj h
    exact q_iret (pc := 20) dX12_seed_20 rfl rfl rfl
  · rw [if_neg k1] at h
    refine q_if_ge_f (pc := 1) (tgt := 7) dX12_seed_1 (by decide) k1 ?_
    refine q_ldc (pc := 4) (v := (-1000000002 : Int32)) dX12_seed_4 lk_X12_77 ?_
    have h := Option.some.inj h
    obtain ⟨rfl, rfl⟩ := Prod.mk.inj h
    exact q_iret (pc := 6) dX12_seed_6 rfl rfl rfl
def f_X12_copies_at28_31_L3 (x1 : Int32) (x3 : Int32) (x4 : Int32) : Nat → Int32 → qM → Option (Int32 × qM)
  | 0, _, _ => none
  | n + 1, c5, M =>
  if x4 ≤ c5 then some (c5, M)
    else (qrd M 28 163 (x1 + c5)).bind fun v2 => (qwr M 31 328 (x3 + c5) v2).bind fun M4 => f_X12_copies_at28_31_L3 x1 x3 x4 n (c5 + nI 1) M4
set_option maxRecDepth 20000 in
set_option maxHeartbeats 4000000 in
theorem l_X12_copies_at28_31_L3 {G : qG} {ρ : qR} (x1 : Int32) (x3 : Int32) (x4 : Int32) (J : qJ) : ∀ (n : Nat) (c5 : Int32) (M : qM) (res : Int32 × qM), f_X12_copies_at28_31_L3 x1 x3 x4 n c5 M = some res → (∀ x : Int32 × qM, res = x → QW G (qrm 0 0 0) YX12_copies 0 0 28 [none, none, none, none, none, none] [] SH x.2 J ρ) → QW G (qrm 0 0 0) YX12_copies 0 0 3 [some (.ref 28), some (.int x1), some (.ref 31), some (.int x3), some (.int x4), some (.int c5)] [] SH M J ρ
  | 0, _, _, _, h, _ => by simp [f_X12_copies_at28_31_L3] at h
  | n + 1, c5, M, res, h, hk => by
    rw [f_X12_copies_at28_31_L3] at h
    refine q_iload (pc := 3) dX12_copies_3 rfl ?_
    refine q_iload (pc := 5) dX12_copies_5 rfl ?_
    by_cases k1 : x4 ≤ c5
    · rw [if_pos k1] at h
      refine q_icmp_ge_t (pc := 7) (tgt := 28) dX12_copies_7 (by decide) k1 ?_
      refine q_weak (ls' := [none, none, none, none, none, none]) trivial ?_
      obtain rfl := Option.some.inj h
      exact hk (c5, M) rfl
    · rw [if_neg k1] at h
      refine q_icmp_ge_f (pc := 7) (tgt := 28) dX12_copies_7 (by decide) k1 ?_
      refine q_aload_n (pc := 10) dX12_copies_10 rfl ?_
      refine q_iload_n (pc := 11) dX12_copies_11 rfl ?_
      refine q_iload (pc := 12) dX12_copies_12 rfl ?_
      refine q_iadd (pc := 14) dX12_copies_14 ?_
      refine q_aload_n (pc := 15) dX12_copies_15 rfl ?_
      refine q_iload_n (pc := 16) dX12_copies_16 rfl ?_
      refine q_iload (pc := 17) dX12_copies_17 rfl ?_
      refine q_iadd (pc := 19) dX12_copies_19 ?_
      obtain ⟨v2, h3, h⟩ := Option.bind_eq_some_iff.mp h
      refine q_iald (pc := 20) dX12_copies_20 sh_28 h3 ?_
      obtain ⟨M4, h5, h⟩ := Option.bind_eq_some_iff.mp h
      refine q_iast (pc := 21) dX12_copies_21 sh_31 h5 ?_
      refine q_iincW (pc := 22) (w := nI 1) (ls' := [some (.ref 28), some (.int x1), some (.ref 31), some (.int x3), some (.int x4), some (.int (c5 + nI 1))]) dX12_copies_22 rfl (by decide) (by decide) rfl rfl ?_
      refine q_goto (pc := 25) (tgt := 3) dX12_copies_25 (by decide) ?_
      exact l_X12_copies_at28_31_L3 x1 x3 x4 J n (c5 + nI 1) M4 res h hk
def f_X12_copies_at28_31 (a1 : Int32) (a3 : Int32) (a4 : Int32) (M : qM) : Option qM :=
  (f_X12_copies_at28_31_L3 a1 a3 a4 qF (nI 0) M).bind fun e6 => some (e6.2)
set_option maxRecDepth 20000 in
set_option maxHeartbeats 4000000 in
theorem a_X12_copies_at28_31 {G : qG} {a1 : Int32} {a3 : Int32} {a4 : Int32} {M : qM} {J : qJ} {M' : qM} (h : f_X12_copies_at28_31 a1 a3 a4 M = some (M')) : QM G 0 0 0 YX12_copies [.ref 28, .int a1, .ref 31, .int a3, .int a4] SH M J (none, SH, M', J) := by
  refine ⟨Nat.le_of_ble_eq_true rfl, rfl, ?_⟩
  show QW G (qrm 0 0 0) YX12_copies 0 0 0 [some (.ref 28), some (.int a1), some (.ref 31), some (.int a3), some (.int a4), none] [] SH M J _
  unfold f_X12_copies_at28_31 at h
  refine q_iconst (pc := 0) (v := nI 0) dX12_copies_0 (by decide) ?_
  refine q_istore (pc := 1) (ls' := [some (.ref 28), some (.int a1), some (.ref 31), some (.int a3), some (.int a4), some (.int (nI 0))]) dX12_copies_1 (by decide) rfl rfl ?_
  obtain ⟨⟨e6_5, M7⟩, h8, h⟩ := Option.bind_eq_some_iff.mp h
  try dsimp only at h
  refine l_X12_copies_at28_31_L3 a1 a3 a4 J qF (nI 0) M _ h8 (fun x hx => ?_)
  subst hx
  show QW G (qrm 0 0 0) YX12_copies 0 0 28 [none, none, none, none, none, none] [] SH M7 J _
  obtain rfl := Option.some.inj h
  exact q_vret (pc := 28) dX12_copies_28 rfl rfl rfl
def f_X12_keep (a1 : Int32) (M : qM) (J : qJ) : Option (Int32 × qM) :=
  (f_X12_in a1.toInt64 (lN 0) (lN 1) M).bind fun b3 => if b3 = true then (f_X12_copies_at28_31 (nI 0) ((nI 164) * a1) (nI 163) M).bind fun M7 => (qwr M7 31 328 (((nI 164) * a1) + (nI 163)) ((J 25 8).toInt32)).bind fun M8 => (qwz M8 32 2 a1 (nI 1)).bind fun M10 => (qpu M10 25 5 (nI 0)).bind fun M12 => some (nI 1, M12)
    else some ((-1000000001 : Int32), M)
set_option maxRecDepth 20000 in
set_option maxHeartbeats 4000000 in
theorem a_X12_keep {G : qG} {a1 : Int32} {M : qM} {J : qJ} {r : Int32} {M' : qM} (h : f_X12_keep a1 M J = some (r, M')) : QM G 1 0 0 YX12_keep [.ref 25, .int a1] SH M J (some (.int r), SH, M', J) := by
  refine ⟨Nat.le_of_ble_eq_true rfl, Or.inl rfl, ?_⟩
  show QW G (qrm 1 0 0) YX12_keep 0 0 0 [some (.ref 25), some (.int a1)] [] SH M J _
  unfold f_X12_keep at h
  refine q_iload_n (pc := 0) dX12_keep_0 rfl ?_
  refine q_i2l (pc := 1) dX12_keep_1 ?_
  refine q_lconst (pc := 2) (v := lN 0) dX12_keep_2 rfl ?_
  refine q_lconst (pc := 3) (v := lN 1) dX12_keep_3 rfl ?_
  obtain ⟨b3, h2, h⟩ := Option.bind_eq_some_iff.mp h
  refine q_calls (pc := 4) (st := []) (a_X12_in h2) okX12_in rfl dX12_keep_4 lk_X12_58 rfl (by decide) (by decide) (Nat.le_of_ble_eq_true rfl) ⟨Nat.le_of_ble_eq_true rfl, Nat.le_of_ble_eq_true rfl⟩ rfl ?_
  show QW G (qrm 1 0 0) YX12_keep 0 0 7 [some (.ref 25), some (.int a1)] [.int (qb b3)] SH M J _
  by_cases k4 : b3 = true
  · rw [if_pos k4] at h
    refine q_if_ne_t (pc := 7) (tgt := 13) dX12_keep_7 (by decide) (qb_t k4) ?_
    refine q_aload_n (pc := 13) dX12_keep_13 rfl ?_
    refine q_getf (pc := 14) (f := 2) (v := .ref 28) dX12_keep_14 sh_25 cl_11 inX12 rfl (by decide) lk_X12_16 rfl ?_
    refine q_iconst (pc := 17) (v := nI 0) dX12_keep_17 (by decide) ?_
    refine q_aload_n (pc := 18) dX12_keep_18 rfl ?_
    refine q_getf (pc := 19) (f := 6) (v := .ref 31) dX12_keep_19 sh_25 cl_11 inX12 rfl (by decide) lk_X12_25 rfl ?_
    refine q_sipush (pc := 22) (v := nI 164) dX12_keep_22 (by decide) ?_
    refine q_iload_n (pc := 25) dX12_keep_25 rfl ?_
    refine q_imul (pc := 26) dX12_keep_26 ?_
    refine q_sipush (pc := 27) (v := nI 163) dX12_keep_27 (by decide) ?_
    obtain ⟨M7, h6, h⟩ := Option.bind_eq_some_iff.mp h
    refine q_calls (pc := 30) (st := []) (a_X12_copies_at28_31 h6) okX12_copies rfl dX12_keep_30 lk_X12_62 rfl (by decide) (by decide) (Nat.le_of_ble_eq_true rfl) ⟨Nat.le_of_ble_eq_true rfl, Nat.le_of_ble_eq_true rfl⟩ rfl ?_
    show QW G (qrm 1 0 0) YX12_keep 0 0 33 [some (.ref 25), some (.int a1)] [] SH M7 J _
    refine q_aload_n (pc := 33) dX12_keep_33 rfl ?_
    refine q_getf (pc := 34) (f := 6) (v := .ref 31) dX12_keep_34 sh_25 cl_11 inX12 rfl (by decide) lk_X12_25 rfl ?_
    refine q_sipush (pc := 37) (v := nI 164) dX12_keep_37 (by decide) ?_
    refine q_iload_n (pc := 40) dX12_keep_40 rfl ?_
    refine q_imul (pc := 41) dX12_keep_41 ?_
    refine q_sipush (pc := 42) (v := nI 163) dX12_keep_42 (by decide) ?_
    refine q_iadd (pc := 45) dX12_keep_45 ?_
    refine q_aload_n (pc := 46) dX12_keep_46 rfl ?_
    refine q_getf (pc := 47) (f := 8) (v := .long (J 25 8)) dX12_keep_47 sh_25 cl_11 inX12 rfl (by decide) lk_X12_218 rfl ?_
    refine q_l2i (pc := 50) dX12_keep_50 ?_
    obtain ⟨M8, h9, h⟩ := Option.bind_eq_some_iff.mp h
    refine q_iast (pc := 51) dX12_keep_51 sh_31 h9 ?_
    refine q_aload_n (pc := 52) dX12_keep_52 rfl ?_
    refine q_getf (pc := 53) (f := 7) (v := .ref 32) dX12_keep_53 sh_25 cl_11 inX12 rfl (by decide) lk_X12_28 rfl ?_
    refine q_iload_n (pc := 56) dX12_keep_56 rfl ?_
    refine q_iconst (pc := 57) (v := nI 1) dX12_keep_57 (by decide) ?_
    obtain ⟨M10, h11, h⟩ := Option.bind_eq_some_iff.mp h
    refine q_bast (pc := 58) dX12_keep_58 sh_32 h11 ?_
    refine q_aload_n (pc := 59) dX12_keep_59 rfl ?_
    refine q_iconst (pc := 60) (v := nI 0) dX12_keep_60 (by decide) ?_
    obtain ⟨M12, h13, h⟩ := Option.bind_eq_some_iff.mp h
    refine q_putI (pc := 61) (f := 5) tyX12 dX12_keep_61 sh_25 cl_11 inX12 tyX12_ok nmX12 rfl (by decide) lk_X12_66 rfl rfl rfl h13 ?_
    refine q_iconst (pc := 64) (v := nI 1) dX12_keep_64 (by decide) ?_
    have h := Option.some.inj h
    obtain ⟨rfl, rfl⟩ := Prod.mk.inj h
    exact q_iret (pc := 65) dX12_keep_65 rfl rfl rfl
  · rw [if_neg k4] at h
    refine q_if_ne_f (pc := 7) (tgt := 13) dX12_keep_7 (by decide) (qb_f k4) ?_
    refine q_ldc (pc := 10) (v := (-1000000001 : Int32)) dX12_keep_10 lk_X12_176 ?_
    have h := Option.some.inj h
    obtain ⟨rfl, rfl⟩ := Prod.mk.inj h
    exact q_iret (pc := 12) dX12_keep_12 rfl rfl rfl
def f_X12_copies_at31_28_L3 (x1 : Int32) (x3 : Int32) (x4 : Int32) : Nat → Int32 → qM → Option (Int32 × qM)
  | 0, _, _ => none
  | n + 1, c5, M =>
  if x4 ≤ c5 then some (c5, M)
    else (qrd M 31 328 (x1 + c5)).bind fun v2 => (qwr M 28 163 (x3 + c5) v2).bind fun M4 => f_X12_copies_at31_28_L3 x1 x3 x4 n (c5 + nI 1) M4
set_option maxRecDepth 20000 in
set_option maxHeartbeats 4000000 in
theorem l_X12_copies_at31_28_L3 {G : qG} {ρ : qR} (x1 : Int32) (x3 : Int32) (x4 : Int32) (J : qJ) : ∀ (n : Nat) (c5 : Int32) (M : qM) (res : Int32 × qM), f_X12_copies_at31_28_L3 x1 x3 x4 n c5 M = some res → (∀ x : Int32 × qM, res = x → QW G (qrm 0 0 0) YX12_copies 0 0 28 [none, none, none, none, none, none] [] SH x.2 J ρ) → QW G (qrm 0 0 0) YX12_copies 0 0 3 [some (.ref 31), some (.int x1), some (.ref 28), some (.int x3), some (.int x4), some (.int c5)] [] SH M J ρ
  | 0, _, _, _, h, _ => by simp [f_X12_copies_at31_28_L3] at h
  | n + 1, c5, M, res, h, hk => by
    rw [f_X12_copies_at31_28_L3] at h
    refine q_iload (pc := 3) dX12_copies_3 rfl ?_
    refine q_iload (pc := 5) dX12_copies_5 rfl ?_
    by_cases k1 : x4 ≤ c5
    · rw [if_pos k1] at h
      refine q_icmp_ge_t (pc := 7) (tgt := 28) dX12_copies_7 (by decide) k1 ?_
      refine q_weak (ls' := [none, none, none, none, none, none]) trivial ?_
      obtain rfl := Option.some.inj h
      exact hk (c5, M) rfl
    · rw [if_neg k1] at h
      refine q_icmp_ge_f (pc := 7) (tgt := 28) dX12_copies_7 (by decide) k1 ?_
      refine q_aload_n (pc := 10) dX12_copies_10 rfl ?_
      refine q_iload_n (pc := 11) dX12_copies_11 rfl ?_
      refine q_iload (pc := 12) dX12_copies_12 rfl ?_
      refine q_iadd (pc := 14) dX12_copies_14 ?_
      refine q_aload_n (pc := 15) dX12_copies_15 rfl ?_
      refine q_iload_n (pc := 16) dX12_copies_16 rfl ?_
      refine q_iload (pc := 17) dX12_copies_17 rfl ?_
      refine q_iadd (pc := 19) dX12_copies_19 ?_
      obtain ⟨v2, h3, h⟩ := Option.bind_eq_some_iff.mp h
      refine q_iald (pc := 20) dX12_copies_20 sh_31 h3 ?_
      obtain ⟨M4, h5, h⟩ := Option.bind_eq_some_iff.mp h
      refine q_iast (pc := 21) dX12_copies_21 sh_28 h5 ?_
      refine q_iincW (pc := 22) (w := nI 1) (ls' := [some (.ref 31), some (.int x1), some (.ref 28), some (.int x3), some (.int x4), some (.int (c5 + nI 1))]) dX12_copies_22 rfl (by decide) (by decide) rfl rfl ?_
      refine q_goto (pc := 25) (tgt := 3) dX12_copies_25 (by decide) ?_
      exact l_X12_copies_at31_28_L3 x1 x3 x4 J n (c5 + nI 1) M4 res h hk
def f_X12_copies_at31_28 (a1 : Int32) (a3 : Int32) (a4 : Int32) (M : qM) : Option qM :=
  (f_X12_copies_at31_28_L3 a1 a3 a4 qF (nI 0) M).bind fun e6 => some (e6.2)
set_option maxRecDepth 20000 in
set_option maxHeartbeats 4000000 in
theorem a_X12_copies_at31_28 {G : qG} {a1 : Int32} {a3 : Int32} {a4 : Int32} {M : qM} {J : qJ} {M' : qM} (h : f_X12_copies_at31_28 a1 a3 a4 M = some (M')) : QM G 0 0 0 YX12_copies [.ref 31, .int a1, .ref 28, .int a3, .int a4] SH M J (none, SH, M', J) := by
  refine ⟨Nat.le_of_ble_eq_true rfl, rfl, ?_⟩
  show QW G (qrm 0 0 0) YX12_copies 0 0 0 [some (.ref 31), some (.int a1), some (.ref 28), some (.int a3), some (.int a4), none] [] SH M J _
  unfold f_X12_copies_at31_28 at h
  refine q_iconst (pc := 0) (v := nI 0) dX12_copies_0 (by decide) ?_
  refine q_istore (pc := 1) (ls' := [some (.ref 31), some (.int a1), some (.ref 28), some (.int a3), some (.int a4), some (.int (nI 0))]) dX12_copies_1 (by decide) rfl rfl ?_
  obtain ⟨⟨e6_5, M7⟩, h8, h⟩ := Option.bind_eq_some_iff.mp h
  try dsimp only at h
  refine l_X12_copies_at31_28_L3 a1 a3 a4 J qF (nI 0) M _ h8 (fun x hx => ?_)
  subst hx
  show QW G (qrm 0 0 0) YX12_copies 0 0 28 [none, none, none, none, none, none] [] SH M7 J _
  obtain rfl := Option.some.inj h
  exact q_vret (pc := 28) dX12_copies_28 rfl rfl rfl
def f_X12_goBack (a1 : Int32) (M : qM) (J : qJ) : Option (Int32 × qM × qJ) :=
  (f_X12_in a1.toInt64 (lN 0) (lN 1) M).bind fun b3 => if b3 = true then (qrd M 32 2 a1).bind fun v5 => if v5 = 0 then some ((-1000000003 : Int32), M, J)
    else (f_X12_copies_at31_28 ((nI 164) * a1) (nI 0) (nI 163) M).bind fun M10 => (qrd M10 31 328 (((nI 164) * a1) + (nI 163))).bind fun v11 => (qpl J 25 8 v11.toInt64).bind fun J13 => (qpu M10 25 5 (nI 0)).bind fun M15 => some (nI 1, M15, J13)
    else some ((-1000000001 : Int32), M, J)
set_option maxRecDepth 20000 in
set_option maxHeartbeats 4000000 in
theorem a_X12_goBack {G : qG} {a1 : Int32} {M : qM} {J : qJ} {r : Int32} {M' : qM} {J' : qJ} (h : f_X12_goBack a1 M J = some (r, M', J')) : QM G 1 0 0 YX12_goBack [.ref 25, .int a1] SH M J (some (.int r), SH, M', J') := by
  refine ⟨Nat.le_of_ble_eq_true rfl, Or.inl rfl, ?_⟩
  show QW G (qrm 1 0 0) YX12_goBack 0 0 0 [some (.ref 25), some (.int a1)] [] SH M J _
  unfold f_X12_goBack at h
  refine q_iload_n (pc := 0) dX12_goBack_0 rfl ?_
  refine q_i2l (pc := 1) dX12_goBack_1 ?_
  refine q_lconst (pc := 2) (v := lN 0) dX12_goBack_2 rfl ?_
  refine q_lconst (pc := 3) (v := lN 1) dX12_goBack_3 rfl ?_
  obtain ⟨b3, h2, h⟩ := Option.bind_eq_some_iff.mp h
  refine q_calls (pc := 4) (st := []) (a_X12_in h2) okX12_in rfl dX12_goBack_4 lk_X12_58 rfl (by decide) (by decide) (Nat.le_of_ble_eq_true rfl) ⟨Nat.le_of_ble_eq_true rfl, Nat.le_of_ble_eq_true rfl⟩ rfl ?_
  show QW G (qrm 1 0 0) YX12_goBack 0 0 7 [some (.ref 25), some (.int a1)] [.int (qb b3)] SH M J _
  by_cases k4 : b3 = true
  · rw [if_pos k4] at h
    refine q_if_ne_t (pc := 7) (tgt := 13) dX12_goBack_7 (by decide) (qb_t k4) ?_
    refine q_aload_n (pc := 13) dX12_goBack_13 rfl ?_
    refine q_getf (pc := 14) (f := 7) (v := .ref 32) dX12_goBack_14 sh_25 cl_11 inX12 rfl (by decide) lk_X12_28 rfl ?_
    refine q_iload_n (pc := 17) dX12_goBack_17 rfl ?_
    obtain ⟨v5, h6, h⟩ := Option.bind_eq_some_iff.mp h
    refine q_bald (pc := 18) dX12_goBack_18 sh_32 h6 ?_
    by_cases k7 : v5 = 0
    · rw [if_pos k7] at h
      refine q_if_ne_f (pc := 19) (tgt := 25) dX12_goBack_19 (by decide) k7 ?_
      refine q_ldc (pc := 22) (v := (-1000000003 : Int32)) dX12_goBack_22 lk_X12_192 ?_
      have h := Option.some.inj h
      obtain ⟨rfl, h9⟩ := Prod.mk.inj h
      obtain ⟨rfl, rfl⟩ := Prod.mk.inj h9
      exact q_iret (pc := 24) dX12_goBack_24 rfl rfl rfl
    · rw [if_neg k7] at h
      refine q_if_ne_t (pc := 19) (tgt := 25) dX12_goBack_19 (by decide) k7 ?_
      refine q_aload_n (pc := 25) dX12_goBack_25 rfl ?_
      refine q_getf (pc := 26) (f := 6) (v := .ref 31) dX12_goBack_26 sh_25 cl_11 inX12 rfl (by decide) lk_X12_25 rfl ?_
      refine q_sipush (pc := 29) (v := nI 164) dX12_goBack_29 (by decide) ?_
      refine q_iload_n (pc := 32) dX12_goBack_32 rfl ?_
      refine q_imul (pc := 33) dX12_goBack_33 ?_
      refine q_aload_n (pc := 34) dX12_goBack_34 rfl ?_
      refine q_getf (pc := 35) (f := 2) (v := .ref 28) dX12_goBack_35 sh_25 cl_11 inX12 rfl (by decide) lk_X12_16 rfl ?_
      refine q_iconst (pc := 38) (v := nI 0) dX12_goBack_38 (by decide) ?_
      refine q_sipush (pc := 39) (v := nI 163) dX12_goBack_39 (by decide) ?_
      obtain ⟨M10, h9, h⟩ := Option.bind_eq_some_iff.mp h
      refine q_calls (pc := 42) (st := []) (a_X12_copies_at31_28 h9) okX12_copies rfl dX12_goBack_42 lk_X12_62 rfl (by decide) (by decide) (Nat.le_of_ble_eq_true rfl) ⟨Nat.le_of_ble_eq_true rfl, Nat.le_of_ble_eq_true rfl⟩ rfl ?_
      show QW G (qrm 1 0 0) YX12_goBack 0 0 45 [some (.ref 25), some (.int a1)] [] SH M10 J _
      refine q_aload_n (pc := 45) dX12_goBack_45 rfl ?_
      refine q_aload_n (pc := 46) dX12_goBack_46 rfl ?_
      refine q_getf (pc := 47) (f := 6) (v := .ref 31) dX12_goBack_47 sh_25 cl_11 inX12 rfl (by decide) lk_X12_25 rfl ?_
      refine q_sipush (pc := 50) (v := nI 164) dX12_goBack_50 (by decide) ?_
      refine q_iload_n (pc := 53) dX12_goBack_53 rfl ?_
      refine q_imul (pc := 54) dX12_goBack_54 ?_
      refine q_sipush (pc := 55) (v := nI 163) dX12_goBack_55 (by decide) ?_
      refine q_iadd (pc := 58) dX12_goBack_58 ?_
      obtain ⟨v11, h12, h⟩ := Option.bind_eq_some_iff.mp h
      refine q_iald (pc := 59) dX12_goBack_59 sh_31 h12 ?_
      refine q_i2l (pc := 60) dX12_goBack_60 ?_
      obtain ⟨J13, h14, h⟩ := Option.bind_eq_some_iff.mp h
      refine q_putL (pc := 61) (f := 8) tyX12 dX12_goBack_61 sh_25 cl_11 inX12 tyX12_ok nmX12 rfl (by decide) lk_X12_218 rfl rfl rfl h14 ?_
      refine q_aload_n (pc := 64) dX12_goBack_64 rfl ?_
      refine q_iconst (pc := 65) (v := nI 0) dX12_goBack_65 (by decide) ?_
      obtain ⟨M15, h16, h⟩ := Option.bind_eq_some_iff.mp h
      refine q_putI (pc := 66) (f := 5) tyX12 dX12_goBack_66 sh_25 cl_11 inX12 tyX12_ok nmX12 rfl (by decide) lk_X12_66 rfl rfl rfl h16 ?_
      refine q_iconst (pc := 69) (v := nI 1) dX12_goBack_69 (by decide) ?_
      have h := Option.some.inj h
      obtain ⟨rfl, h9⟩ := Prod.mk.inj h
      obtain ⟨rfl, rfl⟩ := Prod.mk.inj h9
      exact q_iret (pc := 70) dX12_goBack_70 rfl rfl rfl
  · rw [if_neg k4] at h
    refine q_if_ne_f (pc := 7) (tgt := 13) dX12_goBack_7 (by decide) (qb_f k4) ?_
    refine q_ldc (pc := 10) (v := (-1000000001 : Int32)) dX12_goBack_10 lk_X12_176 ?_
    have h := Option.some.inj h
    obtain ⟨rfl, h9⟩ := Prod.mk.inj h
    obtain ⟨rfl, rfl⟩ := Prod.mk.inj h9
    exact q_iret (pc := 12) dX12_goBack_12 rfl rfl rfl
