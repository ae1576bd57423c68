def f_X12_counts_at25_28 (a2 : Int32) (a3 : Int32) (M : qM) : Option Bool :=
  (f_X12_strengthOn_at25_28 a2 a3 M).bind fun r3 => (qrd M 26 57 (nI 0)).bind fun v4 => if r3 < v4 then some (false)
    else some (true)
set_option maxRecDepth 20000 in
set_option maxHeartbeats 4000000 in
theorem a_X12_counts_at25_28 {G : qG} {a2 : Int32} {a3 : Int32} {M : qM} {J : qJ} {r : Bool} (h : f_X12_counts_at25_28 a2 a3 M = some (r)) : QM G 3 0 0 YX12_counts [.ref 25, .ref 28, .int a2, .int a3] SH M J (some (.int (qb r)), SH, M, J) := by
  refine ⟨Nat.le_of_ble_eq_true rfl, Or.inr ⟨rfl, _, rfl⟩, ?_⟩
  show QW G (qrm 3 0 0) YX12_counts 0 0 0 [some (.ref 25), some (.ref 28), some (.int a2), some (.int a3)] [] SH M J _
  unfold f_X12_counts_at25_28 at h
  refine q_aload_n (pc := 0) dX12_counts_0 rfl ?_
  refine q_aload_n (pc := 1) dX12_counts_1 rfl ?_
  refine q_iload_n (pc := 2) dX12_counts_2 rfl ?_
  refine q_iload_n (pc := 3) dX12_counts_3 rfl ?_
  obtain ⟨r3, h2, h⟩ := Option.bind_eq_some_iff.mp h
  refine q_callv (pc := 4) (st := []) (a_X12_strengthOn_at25_28 h2) okX12_strengthOn rfl dX12_counts_4 lk_X12_144 sh_25 cl_11 rfl (by decide) (by decide) (Nat.le_of_ble_eq_true rfl) ⟨Nat.le_of_ble_eq_true rfl, Nat.le_of_ble_eq_true rfl⟩ rfl ?_
  show QW G (qrm 3 0 0) YX12_counts 0 0 7 [some (.ref 25), some (.ref 28), some (.int a2), some (.int a3)] [.int r3] SH M J _
  refine q_aload_n (pc := 7) dX12_counts_7 rfl ?_
  refine q_getf (pc := 8) (f := 0) (v := .ref 26) dX12_counts_8 sh_25 cl_11 inX12 rfl (by decide) lk_X12_7 rfl ?_
  refine q_iconst (pc := 11) (v := nI 0) dX12_counts_11 (by decide) ?_
  obtain ⟨v4, h5, h⟩ := Option.bind_eq_some_iff.mp h
  refine q_iald (pc := 12) dX12_counts_12 sh_26 h5 ?_
  by_cases k6 : r3 < v4
  · rw [if_pos k6] at h
    refine q_icmp_lt_t (pc := 13) (tgt := 20) dX12_counts_13 (by decide) k6 ?_
    refine q_iconst (pc := 20) (v := nI 0) dX12_counts_20 (by decide) ?_
    obtain rfl := Option.some.inj h
    exact q_iret (pc := 21) dX12_counts_21 rfl rfl rfl
  · rw [if_neg k6] at h
    refine q_icmp_lt_f (pc := 13) (tgt := 20) dX12_counts_13 (by decide) k6 ?_
    refine q_iconst (pc := 16) (v := nI 1) dX12_counts_16 (by decide) ?_
    refine q_goto (pc := 17) (tgt := 21) dX12_counts_17 (by decide) ?_
    obtain rfl := Option.some.inj h
    exact q_iret (pc := 21) dX12_counts_21 rfl rfl rfl
def f_X12_plain_L20 (x2 : Int32) (M : qM) : Nat → Int32 → Int32 → Option (Int32 × Int32)
  | 0, _, _ => none
  | n + 1, c1, c3 =>
  (qrd M 26 57 (nI 2)).bind fun v7 => if v7 ≤ c3 then some (c1, c3)
    else (f_X12_counts_at25_28 c3 x2 M).bind fun b12 => if b12 = true then f_X12_plain_L20 x2 M n (c1 &&& (((nI 1) <<< (x2 &&& 31)) ^^^ (-1 : Int32))) (c3 + nI 1)
    else f_X12_plain_L20 x2 M n (c1 &&& (-1 : Int32)) (c3 + nI 1)
set_option maxRecDepth 20000 in
set_option maxHeartbeats 4000000 in
theorem l_X12_plain_L20 {G : qG} {ρ : qR} (x2 : Int32) (M : qM) (J : qJ) : ∀ (n : Nat) (c1 : Int32) (c3 : Int32) (res : Int32 × Int32), f_X12_plain_L20 x2 M n c1 c3 = some res → (∀ x : Int32 × Int32, res = x → QW G (qrm 4 0 0) YX12_plain 0 0 61 [some (.ref 25), some (.int x.1), some (.int x2), none] [] SH M J ρ) → QW G (qrm 4 0 0) YX12_plain 0 0 20 [some (.ref 25), some (.int c1), some (.int x2), some (.int c3)] [] SH M J ρ
  | 0, _, _, _, h, _ => by simp [f_X12_plain_L20] at h
  | n + 1, c1, c3, res, h, hk => by
    rw [f_X12_plain_L20] at h
    refine q_iload_n (pc := 20) dX12_plain_20 rfl ?_
    refine q_aload_n (pc := 21) dX12_plain_21 rfl ?_
    refine q_getf (pc := 22) (f := 0) (v := .ref 26) dX12_plain_22 sh_25 cl_11 inX12 rfl (by decide) lk_X12_7 rfl ?_
    refine q_iconst (pc := 25) (v := nI 2) dX12_plain_25 (by decide) ?_
    obtain ⟨v7, h8, h⟩ := Option.bind_eq_some_iff.mp h
    refine q_iald (pc := 26) dX12_plain_26 sh_26 h8 ?_
    by_cases k9 : v7 ≤ c3
    · rw [if_pos k9] at h
      refine q_icmp_ge_t (pc := 27) (tgt := 61) dX12_plain_27 (by decide) k9 ?_
      refine q_weak (ls' := [some (.ref 25), some (.int c1), some (.int x2), none]) ⟨rfl, ⟨rfl, ⟨rfl, trivial⟩⟩⟩ ?_
      obtain rfl := Option.some.inj h
      exact hk (c1, c3) rfl
    · rw [if_neg k9] at h
      refine q_icmp_ge_f (pc := 27) (tgt := 61) dX12_plain_27 (by decide) k9 ?_
      refine q_iload_n (pc := 30) dX12_plain_30 rfl ?_
      refine q_aload_n (pc := 31) dX12_plain_31 rfl ?_
      refine q_aload_n (pc := 32) dX12_plain_32 rfl ?_
      refine q_getf (pc := 33) (f := 2) (v := .ref 28) dX12_plain_33 sh_25 cl_11 inX12 rfl (by decide) lk_X12_16 rfl ?_
      refine q_iload_n (pc := 36) dX12_plain_36 rfl ?_
      refine q_iload_n (pc := 37) dX12_plain_37 rfl ?_
      obtain ⟨b12, h11, h⟩ := Option.bind_eq_some_iff.mp h
      refine q_callv (pc := 38) (st := [.int c1]) (a_X12_counts_at25_28 h11) okX12_counts rfl dX12_plain_38 lk_X12_147 sh_25 cl_11 rfl (by decide) (by decide) (Nat.le_of_ble_eq_true rfl) ⟨Nat.le_of_ble_eq_true rfl, Nat.le_of_ble_eq_true rfl⟩ rfl ?_
      show QW G (qrm 4 0 0) YX12_plain 0 0 41 [some (.ref 25), some (.int c1), some (.int x2), some (.int c3)] [.int (qb b12), .int c1] SH M J _
      by_cases k13 : b12 = true
      · rw [if_pos k13] at h
        refine q_if_eq_f (pc := 41) (tgt := 52) dX12_plain_41 (by decide) (qb_t k13) ?_
        refine q_iconst (pc := 44) (v := nI 1) dX12_plain_44 (by decide) ?_
        refine q_iload_n (pc := 45) dX12_plain_45 rfl ?_
        refine q_ishl (pc := 46) dX12_plain_46 ?_
        refine q_iconst (pc := 47) (v := (-1 : Int32)) dX12_plain_47 (by decide) ?_
        refine q_ixor (pc := 48) dX12_plain_48 ?_
        refine q_goto (pc := 49) (tgt := 53) dX12_plain_49 (by decide) ?_
        refine q_iand (pc := 53) dX12_plain_53 ?_
        refine q_istore_n (pc := 54) (ls' := [some (.ref 25), some (.int (c1 &&& (((nI 1) <<< (x2 &&& 31)) ^^^ (-1 : Int32)))), some (.int x2), some (.int c3)]) dX12_plain_54 (by decide) rfl rfl ?_
        refine q_iincW (pc := 55) (w := nI 1) (ls' := [some (.ref 25), some (.int (c1 &&& (((nI 1) <<< (x2 &&& 31)) ^^^ (-1 : Int32)))), some (.int x2), some (.int (c3 + nI 1))]) dX12_plain_55 rfl (by decide) (by decide) rfl rfl ?_
        refine q_goto (pc := 58) (tgt := 20) dX12_plain_58 (by decide) ?_
        exact l_X12_plain_L20 x2 M J n (c1 &&& (((nI 1) <<< (x2 &&& 31)) ^^^ (-1 : Int32))) (c3 + nI 1) res h hk
      · rw [if_neg k13] at h
        refine q_if_eq_t (pc := 41) (tgt := 52) dX12_plain_41 (by decide) (qb_f k13) ?_
        refine q_iconst (pc := 52) (v := (-1 : Int32)) dX12_plain_52 (by decide) ?_
        refine q_iand (pc := 53) dX12_plain_53 ?_
        refine q_istore_n (pc := 54) (ls' := [some (.ref 25), some (.int (c1 &&& (-1 : Int32))), some (.int x2), some (.int c3)]) dX12_plain_54 (by decide) rfl rfl ?_
        refine q_iincW (pc := 55) (w := nI 1) (ls' := [some (.ref 25), some (.int (c1 &&& (-1 : Int32))), some (.int x2), some (.int (c3 + nI 1))]) dX12_plain_55 rfl (by decide) (by decide) rfl rfl ?_
        refine q_goto (pc := 58) (tgt := 20) dX12_plain_58 (by decide) ?_
        exact l_X12_plain_L20 x2 M J n (c1 &&& (-1 : Int32)) (c3 + nI 1) res h hk
def f_X12_plain_L8  (M : qM) : Nat → Int32 → Int32 → Option (Int32 × Int32)
  | 0, _, _ => none
  | n + 1, c1, c2 =>
  (qrd M 26 57 (nI 1)).bind fun v4 => if v4 ≤ c2 then some (c1, c2)
    else (f_X12_plain_L20 c2 M qF c1 (nI 0)).bind fun e14 => f_X12_plain_L8  M n e14.1 (c2 + nI 1)
set_option maxRecDepth 20000 in
set_option maxHeartbeats 4000000 in
theorem l_X12_plain_L8 {G : qG} {ρ : qR}  (M : qM) (J : qJ) : ∀ (n : Nat) (c1 : Int32) (c2 : Int32) (res : Int32 × Int32), f_X12_plain_L8  M n c1 c2 = some res → (∀ x : Int32 × Int32, res = x → QW G (qrm 4 0 0) YX12_plain 0 0 67 [none, some (.int x.1), none, none] [] SH M J ρ) → QW G (qrm 4 0 0) YX12_plain 0 0 8 [some (.ref 25), some (.int c1), some (.int c2), none] [] SH M J ρ
  | 0, _, _, _, h, _ => by simp [f_X12_plain_L8] at h
  | n + 1, c1, c2, res, h, hk => by
    rw [f_X12_plain_L8] at h
    refine q_iload_n (pc := 8) dX12_plain_8 rfl ?_
    refine q_aload_n (pc := 9) dX12_plain_9 rfl ?_
    refine q_getf (pc := 10) (f := 0) (v := .ref 26) dX12_plain_10 sh_25 cl_11 inX12 rfl (by decide) lk_X12_7 rfl ?_
    refine q_iconst (pc := 13) (v := nI 1) dX12_plain_13 (by decide) ?_
    obtain ⟨v4, h5, h⟩ := Option.bind_eq_some_iff.mp h
    refine q_iald (pc := 14) dX12_plain_14 sh_26 h5 ?_
    by_cases k6 : v4 ≤ c2
    · rw [if_pos k6] at h
      refine q_icmp_ge_t (pc := 15) (tgt := 67) dX12_plain_15 (by decide) k6 ?_
      refine q_weak (ls' := [none, some (.int c1), none, none]) ⟨rfl, trivial⟩ ?_
      obtain rfl := Option.some.inj h
      exact hk (c1, c2) rfl
    · rw [if_neg k6] at h
      refine q_icmp_ge_f (pc := 15) (tgt := 67) dX12_plain_15 (by decide) k6 ?_
      refine q_iconst (pc := 18) (v := nI 0) dX12_plain_18 (by decide) ?_
      refine q_istore_n (pc := 19) (ls' := [some (.ref 25), some (.int c1), some (.int c2), some (.int (nI 0))]) dX12_plain_19 (by decide) rfl rfl ?_
      obtain ⟨⟨e14_1, e14_3⟩, h15, h⟩ := Option.bind_eq_some_iff.mp h
      try dsimp only at h
      refine l_X12_plain_L20 c2 M J qF c1 (nI 0) _ h15 (fun x hx => ?_)
      subst hx
      show QW G (qrm 4 0 0) YX12_plain 0 0 61 [some (.ref 25), some (.int e14_1), some (.int c2), none] [] SH M J _
      refine q_iincW (pc := 61) (w := nI 1) (ls' := [some (.ref 25), some (.int e14_1), some (.int (c2 + nI 1)), none]) dX12_plain_61 rfl (by decide) (by decide) rfl rfl ?_
      refine q_goto (pc := 64) (tgt := 8) dX12_plain_64 (by decide) ?_
      exact l_X12_plain_L8  M J n e14_1 (c2 + nI 1) res h hk
def f_X12_plain  (M : qM) : Option Int32 :=
  (f_X12_those (nI 0) M).bind fun r3 => (f_X12_plain_L8 M qF r3 (nI 0)).bind fun e16 => some (e16.1)
set_option maxRecDepth 20000 in
set_option maxHeartbeats 4000000 in
theorem a_X12_plain {G : qG}  {M : qM} {J : qJ} {r : Int32} (h : f_X12_plain  M = some (r)) : QM G 4 0 0 YX12_plain [.ref 25] SH M J (some (.int r), SH, M, J) := by
  refine ⟨Nat.le_of_ble_eq_true rfl, Or.inl rfl, ?_⟩
  show QW G (qrm 4 0 0) YX12_plain 0 0 0 [some (.ref 25), none, none, none] [] SH M J _
  unfold f_X12_plain at h
  refine q_aload_n (pc := 0) dX12_plain_0 rfl ?_
  refine q_iconst (pc := 1) (v := nI 0) dX12_plain_1 (by decide) ?_
  obtain ⟨r3, h2, h⟩ := Option.bind_eq_some_iff.mp h
  refine q_callv (pc := 2) (st := []) (a_X12_those h2) okX12_those rfl dX12_plain_2 lk_X12_154 sh_25 cl_11 rfl (by decide) (by decide) (Nat.le_of_ble_eq_true rfl) ⟨Nat.le_of_ble_eq_true rfl, Nat.le_of_ble_eq_true rfl⟩ rfl ?_
  show QW G (qrm 4 0 0) YX12_plain 0 0 5 [some (.ref 25), none, none, none] [.int r3] SH M J _
  refine q_istore_n (pc := 5) (ls' := [some (.ref 25), some (.int r3), none, none]) dX12_plain_5 (by decide) rfl rfl ?_
  refine q_iconst (pc := 6) (v := nI 0) dX12_plain_6 (by decide) ?_
  refine q_istore_n (pc := 7) (ls' := [some (.ref 25), some (.int r3), some (.int (nI 0)), none]) dX12_plain_7 (by decide) rfl rfl ?_
  obtain ⟨⟨e16_1, e16_2⟩, h17, h⟩ := Option.bind_eq_some_iff.mp h
  try dsimp only at h
  refine l_X12_plain_L8 M J qF r3 (nI 0) _ h17 (fun x hx => ?_)
  subst hx
  show QW G (qrm 4 0 0) YX12_plain 0 0 67 [none, some (.int e16_1), none, none] [] SH M J _
  refine q_iload_n (pc := 67) dX12_plain_67 rfl ?_
  obtain rfl := Option.some.inj h
  exact q_iret (pc := 68) dX12_plain_68 rfl rfl rfl
def f_X12_firmest_L4  (M : qM) : Nat → Int32 → Int32 → Option (Int32 × Int32)
  | 0, _, _ => none
  | n + 1, c1, c2 =>
  (qrd M 26 57 (nI 1)).bind fun v1 => if v1 ≤ c2 then some (c1, c2)
    else (qrd M 28 163 ((nI 7) + c2)).bind fun v4 => if v4 = (nI 1) then if c1 = (-1 : Int32) then f_X12_firmest_L4  M n c2 (c2 + nI 1)
    else (qrd M 28 163 ((nI 13) + c2)).bind fun v8 => (qrd M 28 163 ((nI 13) + c1)).bind fun v10 => if v8 ≤ v10 then f_X12_firmest_L4  M n c1 (c2 + nI 1)
    else f_X12_firmest_L4  M n c2 (c2 + nI 1)
    else f_X12_firmest_L4  M n c1 (c2 + nI 1)
set_option maxRecDepth 20000 in
set_option maxHeartbeats 4000000 in
theorem l_X12_firmest_L4 {G : qG} {ρ : qR}  (M : qM) (J : qJ) : ∀ (n : Nat) (c1 : Int32) (c2 : Int32) (res : Int32 × Int32), f_X12_firmest_L4  M n c1 c2 = some res → (∀ x : Int32 × Int32, res = x → QW G (qrm 0 0 0) YX12_firmest 0 0 75 [none, some (.int x.1), none, none] [] SH M J ρ) → QW G (qrm 0 0 0) YX12_firmest 0 0 4 [some (.ref 25), some (.int c1), some (.int c2), none] [] SH M J ρ
  | 0, _, _, _, h, _ => by simp [f_X12_firmest_L4] at h
  | n + 1, c1, c2, res, h, hk => by
    rw [f_X12_firmest_L4] at h
    refine q_iload_n (pc := 4) dX12_firmest_4 rfl ?_
    refine q_aload_n (pc := 5) dX12_firmest_5 rfl ?_
    refine q_getf (pc := 6) (f := 0) (v := .ref 26) dX12_firmest_6 sh_25 cl_11 inX12 rfl (by decide) lk_X12_7 rfl ?_
    refine q_iconst (pc := 9) (v := nI 1) dX12_firmest_9 (by decide) ?_
    obtain ⟨v1, h2, h⟩ := Option.bind_eq_some_iff.mp h
    refine q_iald (pc := 10) dX12_firmest_10 sh_26 h2 ?_
    by_cases k3 : v1 ≤ c2
    · rw [if_pos k3] at h
      refine q_icmp_ge_t (pc := 11) (tgt := 75) dX12_firmest_11 (by decide) k3 ?_
      refine q_weak (ls' := [none, some (.int c1), none, none]) ⟨rfl, trivial⟩ ?_
      obtain rfl := Option.some.inj h
      exact hk (c1, c2) rfl
    · rw [if_neg k3] at h
      refine q_icmp_ge_f (pc := 11) (tgt := 75) dX12_firmest_11 (by decide) k3 ?_
      refine q_aload_n (pc := 14) dX12_firmest_14 rfl ?_
      refine q_getf (pc := 15) (f := 2) (v := .ref 28) dX12_firmest_15 sh_25 cl_11 inX12 rfl (by decide) lk_X12_16 rfl ?_
      refine q_bipush (pc := 18) (v := nI 7) dX12_firmest_18 (by decide) ?_
      refine q_iload_n (pc := 20) dX12_firmest_20 rfl ?_
      refine q_iadd (pc := 21) dX12_firmest_21 ?_
      obtain ⟨v4, h5, h⟩ := Option.bind_eq_some_iff.mp h
      refine q_iald (pc := 22) dX12_firmest_22 sh_28 h5 ?_
      refine q_iconst (pc := 23) (v := nI 1) dX12_firmest_23 (by decide) ?_
      by_cases k6 : v4 = (nI 1)
      · rw [if_pos k6] at h
        refine q_icmp_ne_f (pc := 24) (tgt := 31) dX12_firmest_24 (by decide) k6 ?_
        refine q_iconst (pc := 27) (v := nI 1) dX12_firmest_27 (by decide) ?_
        refine q_goto (pc := 28) (tgt := 32) dX12_firmest_28 (by decide) ?_
        refine q_istore_n (pc := 32) (ls' := [some (.ref 25), some (.int c1), some (.int c2), some (.int (nI 1))]) dX12_firmest_32 (by decide) rfl rfl ?_
        refine q_iload_n (pc := 33) dX12_firmest_33 rfl ?_
        refine q_if_eq_f (pc := 34) (tgt := 67) dX12_firmest_34 (by decide) (by decide) ?_
        refine q_iload_n (pc := 37) dX12_firmest_37 rfl ?_
        refine q_iconst (pc := 38) (v := (-1 : Int32)) dX12_firmest_38 (by decide) ?_
        by_cases k7 : c1 = (-1 : Int32)
        · rw [if_pos k7] at h
          refine q_icmp_eq_t (pc := 39) (tgt := 63) dX12_firmest_39 (by decide) k7 ?_
          refine q_iload_n (pc := 63) dX12_firmest_63 rfl ?_
          refine q_goto (pc := 64) (tgt := 68) dX12_firmest_64 (by decide) ?_
          refine q_istore_n (pc := 68) (ls' := [some (.ref 25), some (.int c2), some (.int c2), some (.int (nI 1))]) dX12_firmest_68 (by decide) rfl rfl ?_
          refine q_iincW (pc := 69) (w := nI 1) (ls' := [some (.ref 25), some (.int c2), some (.int (c2 + nI 1)), some (.int (nI 1))]) dX12_firmest_69 rfl (by decide) (by decide) rfl rfl ?_
          refine q_goto (pc := 72) (tgt := 4) dX12_firmest_72 (by decide) ?_
          refine q_weak (ls' := [some (.ref 25), some (.int c2), some (.int (c2 + nI 1)), none]) ⟨rfl, ⟨rfl, ⟨rfl, trivial⟩⟩⟩ ?_
          exact l_X12_firmest_L4  M J n c2 (c2 + nI 1) res h hk
        · rw [if_neg k7] at h
          refine q_icmp_eq_f (pc := 39) (tgt := 63) dX12_firmest_39 (by decide) k7 ?_
          refine q_aload_n (pc := 42) dX12_firmest_42 rfl ?_
          refine q_getf (pc := 43) (f := 2) (v := .ref 28) dX12_firmest_43 sh_25 cl_11 inX12 rfl (by decide) lk_X12_16 rfl ?_
          refine q_bipush (pc := 46) (v := nI 13) dX12_firmest_46 (by decide) ?_
          refine q_iload_n (pc := 48) dX12_firmest_48 rfl ?_
          refine q_iadd (pc := 49) dX12_firmest_49 ?_
          obtain ⟨v8, h9, h⟩ := Option.bind_eq_some_iff.mp h
          refine q_iald (pc := 50) dX12_firmest_50 sh_28 h9 ?_
          refine q_aload_n (pc := 51) dX12_firmest_51 rfl ?_
          refine q_getf (pc := 52) (f := 2) (v := .ref 28) dX12_firmest_52 sh_25 cl_11 inX12 rfl (by decide) lk_X12_16 rfl ?_
          refine q_bipush (pc := 55) (v := nI 13) dX12_firmest_55 (by decide) ?_
          refine q_iload_n (pc := 57) dX12_firmest_57 rfl ?_
          refine q_iadd (pc := 58) dX12_firmest_58 ?_
          obtain ⟨v10, h11, h⟩ := Option.bind_eq_some_iff.mp h
          refine q_iald (pc := 59) dX12_firmest_59 sh_28 h11 ?_
          by_cases k12 : v8 ≤ v10
          · rw [if_pos k12] at h
            refine q_icmp_le_t (pc := 60) (tgt := 67) dX12_firmest_60 (by decide) k12 ?_
            refine q_iload_n (pc := 67) dX12_firmest_67 rfl ?_
            refine q_istore_n (pc := 68) (ls' := [some (.ref 25), some (.int c1), some (.int c2), some (.int (nI 1))]) dX12_firmest_68 (by decide) rfl rfl ?_
            refine q_iincW (pc := 69) (w := nI 1) (ls' := [some (.ref 25), some (.int c1), some (.int (c2 + nI 1)), some (.int (nI 1))]) dX12_firmest_69 rfl (by decide) (by decide) rfl rfl ?_
            refine q_goto (pc := 72) (tgt := 4) dX12_firmest_72 (by decide) ?_
            refine q_weak (ls' := [some (.ref 25), some (.int c1), some (.int (c2 + nI 1)), none]) ⟨rfl, ⟨rfl, ⟨rfl, trivial⟩⟩⟩ ?_
            exact l_X12_firmest_L4  M J n c1 (c2 + nI 1) res h hk
          · rw [if_neg k12] at h
            refine q_icmp_le_f (pc := 60) (tgt := 67) dX12_firmest_60 (by decide) k12 ?_
            refine q_iload_n (pc := 63) dX12_firmest_63 rfl ?_
            refine q_goto (pc := 64) (tgt := 68) dX12_firmest_64 (by decide) ?_
            refine q_istore_n (pc := 68) (ls' := [some (.ref 25), some (.int c2), some (.int c2), some (.int (nI 1))]) dX12_firmest_68 (by decide) rfl rfl ?_
            refine q_iincW (pc := 69) (w := nI 1) (ls' := [some (.ref 25), some (.int c2), some (.int (c2 + nI 1)), some (.int (nI 1))]) dX12_firmest_69 rfl (by decide) (by decide) rfl rfl ?_
            refine q_goto (pc := 72) (tgt := 4) dX12_firmest_72 (by decide) ?_
            refine q_weak (ls' := [some (.ref 25), some (.int c2), some (.int (c2 + nI 1)), none]) ⟨rfl, ⟨rfl, ⟨rfl, trivial⟩⟩⟩ ?_
            exact l_X12_firmest_L4  M J n c2 (c2 + nI 1) res h hk
      · rw [if_neg k6] at h
        refine q_icmp_ne_t (pc := 24) (tgt := 31) dX12_firmest_24 (by decide) k6 ?_
        refine q_iconst (pc := 31) (v := nI 0) dX12_firmest_31 (by decide) ?_
        refine q_istore_n (pc := 32) (ls' := [some (.ref 25), some (.int c1), some (.int c2), some (.int (nI 0))]) dX12_firmest_32 (by decide) rfl rfl ?_
        refine q_iload_n (pc := 33) dX12_firmest_33 rfl ?_
        refine q_if_eq_t (pc := 34) (tgt := 67) dX12_firmest_34 (by decide) (by decide) ?_
        refine q_iload_n (pc := 67) dX12_firmest_67 rfl ?_
        refine q_istore_n (pc := 68) (ls' := [some (.ref 25), some (.int c1), some (.int c2), some (.int (nI 0))]) dX12_firmest_68 (by decide) rfl rfl ?_
        refine q_iincW (pc := 69) (w := nI 1) (ls' := [some (.ref 25), some (.int c1), some (.int (c2 + nI 1)), some (.int (nI 0))]) dX12_firmest_69 rfl (by decide) (by decide) rfl rfl ?_
        refine q_goto (pc := 72) (tgt := 4) dX12_firmest_72 (by decide) ?_
        refine q_weak (ls' := [some (.ref 25), some (.int c1), some (.int (c2 + nI 1)), none]) ⟨rfl, ⟨rfl, ⟨rfl, trivial⟩⟩⟩ ?_
        exact l_X12_firmest_L4  M J n c1 (c2 + nI 1) res h hk
def f_X12_firmest  (M : qM) : Option Int32 :=
  (f_X12_firmest_L4 M qF (-1 : Int32) (nI 0)).bind fun e13 => some (e13.1)
set_option maxRecDepth 20000 in
set_option maxHeartbeats 4000000 in
theorem a_X12_firmest {G : qG}  {M : qM} {J : qJ} {r : Int32} (h : f_X12_firmest  M = some (r)) : QM G 0 0 0 YX12_firmest [.ref 25] SH M J (some (.int r), SH, M, J) := by
  refine ⟨Nat.le_of_ble_eq_true rfl, Or.inl rfl, ?_⟩
  show QW G (qrm 0 0 0) YX12_firmest 0 0 0 [some (.ref 25), none, none, none] [] SH M J _
  unfold f_X12_firmest at h
  refine q_iconst (pc := 0) (v := (-1 : Int32)) dX12_firmest_0 (by decide) ?_
  refine q_istore_n (pc := 1) (ls' := [some (.ref 25), some (.int (-1 : Int32)), none, none]) dX12_firmest_1 (by decide) rfl rfl ?_
  refine q_iconst (pc := 2) (v := nI 0) dX12_firmest_2 (by decide) ?_
  refine q_istore_n (pc := 3) (ls' := [some (.ref 25), some (.int (-1 : Int32)), some (.int (nI 0)), none]) dX12_firmest_3 (by decide) rfl rfl ?_
  obtain ⟨⟨e13_1, e13_2⟩, h14, h⟩ := Option.bind_eq_some_iff.mp h
  try dsimp only at h
  refine l_X12_firmest_L4 M J qF (-1 : Int32) (nI 0) _ h14 (fun x hx => ?_)
  subst hx
  show QW G (qrm 0 0 0) YX12_firmest 0 0 75 [none, some (.int e13_1), none, none] [] SH M J _
  refine q_iload_n (pc := 75) dX12_firmest_75 rfl ?_
  obtain rfl := Option.some.inj h
  exact q_iret (pc := 76) dX12_firmest_76 rfl rfl rfl
def f_X12_weds_at25_28 (a2 : Int32) (a3 : Int32) (M : qM) : Option Bool :=
  (f_X12_counts_at25_28 a2 a3 M).bind fun b3 => if b3 = true then (qrd M 28 163 ((nI 1) + a3)).bind fun v5 => (f_X12_strengthOn_at25_28 a2 a3 M).bind fun r9 => if v5 < r9 then some (false)
    else some (true)
    else some (false)
set_option maxRecDepth 20000 in
set_option maxHeartbeats 4000000 in
theorem a_X12_weds_at25_28 {G : qG} {a2 : Int32} {a3 : Int32} {M : qM} {J : qJ} {r : Bool} (h : f_X12_weds_at25_28 a2 a3 M = some (r)) : QM G 4 0 0 YX12_weds [.ref 25, .ref 28, .int a2, .int a3] SH M J (some (.int (qb r)), SH, M, J) := by
  refine ⟨Nat.le_of_ble_eq_true rfl, Or.inr ⟨rfl, _, rfl⟩, ?_⟩
  show QW G (qrm 4 0 0) YX12_weds 0 0 0 [some (.ref 25), some (.ref 28), some (.int a2), some (.int a3)] [] SH M J _
  unfold f_X12_weds_at25_28 at h
  refine q_aload_n (pc := 0) dX12_weds_0 rfl ?_
  refine q_aload_n (pc := 1) dX12_weds_1 rfl ?_
  refine q_iload_n (pc := 2) dX12_weds_2 rfl ?_
  refine q_iload_n (pc := 3) dX12_weds_3 rfl ?_
  obtain ⟨b3, h2, h⟩ := Option.bind_eq_some_iff.mp h
  refine q_callv (pc := 4) (st := []) (a_X12_counts_at25_28 h2) okX12_counts rfl dX12_weds_4 lk_X12_147 sh_25 cl_11 rfl (by decide) (by decide) (Nat.le_of_ble_eq_true rfl) ⟨Nat.le_of_ble_eq_true rfl, Nat.le_of_ble_eq_true rfl⟩ rfl ?_
  show QW G (qrm 4 0 0) YX12_weds 0 0 7 [some (.ref 25), some (.ref 28), some (.int a2), some (.int a3)] [.int (qb b3)] SH M J _
  by_cases k4 : b3 = true
  · rw [if_pos k4] at h
    refine q_if_eq_f (pc := 7) (tgt := 29) dX12_weds_7 (by decide) (qb_t k4) ?_
    refine q_aload_n (pc := 10) dX12_weds_10 rfl ?_
    refine q_iconst (pc := 11) (v := nI 1) dX12_weds_11 (by decide) ?_
    refine q_iload_n (pc := 12) dX12_weds_12 rfl ?_
    refine q_iadd (pc := 13) dX12_weds_13 ?_
    obtain ⟨v5, h6, h⟩ := Option.bind_eq_some_iff.mp h
    refine q_iald (pc := 14) dX12_weds_14 sh_28 h6 ?_
    refine q_aload_n (pc := 15) dX12_weds_15 rfl ?_
    refine q_aload_n (pc := 16) dX12_weds_16 rfl ?_
    refine q_iload_n (pc := 17) dX12_weds_17 rfl ?_
    refine q_iload_n (pc := 18) dX12_weds_18 rfl ?_
    obtain ⟨r9, h8, h⟩ := Option.bind_eq_some_iff.mp h
    refine q_callv (pc := 19) (st := [.int v5]) (a_X12_strengthOn_at25_28 h8) okX12_strengthOn rfl dX12_weds_19 lk_X12_144 sh_25 cl_11 rfl (by decide) (by decide) (Nat.le_of_ble_eq_true rfl) ⟨Nat.le_of_ble_eq_true rfl, Nat.le_of_ble_eq_true rfl⟩ rfl ?_
    show QW G (qrm 4 0 0) YX12_weds 0 0 22 [some (.ref 25), some (.ref 28), some (.int a2), some (.int a3)] [.int r9, .int v5] SH M J _
    by_cases k10 : v5 < r9
    · rw [if_pos k10] at h
      refine q_icmp_lt_t (pc := 22) (tgt := 29) dX12_weds_22 (by decide) k10 ?_
      refine q_iconst (pc := 29) (v := nI 0) dX12_weds_29 (by decide) ?_
      obtain rfl := Option.some.inj h
      exact q_iret (pc := 30) dX12_weds_30 rfl rfl rfl
    · rw [if_neg k10] at h
      refine q_icmp_lt_f (pc := 22) (tgt := 29) dX12_weds_22 (by decide) k10 ?_
      refine q_iconst (pc := 25) (v := nI 1) dX12_weds_25 (by decide) ?_
      refine q_goto (pc := 26) (tgt := 30) dX12_weds_26 (by decide) ?_
      obtain rfl := Option.some.inj h
      exact q_iret (pc := 30) dX12_weds_30 rfl rfl rfl
  · rw [if_neg k4] at h
    refine q_if_eq_t (pc := 7) (tgt := 29) dX12_weds_7 (by decide) (qb_f k4) ?_
    refine q_iconst (pc := 29) (v := nI 0) dX12_weds_29 (by decide) ?_
    obtain rfl := Option.some.inj h
    exact q_iret (pc := 30) dX12_weds_30 rfl rfl rfl
def f_X12_can_L4 (x1 : Int32) (M : qM) : Nat → Int32 → Int32 → Option (Int32 × Int32)
  | 0, _, _ => none
  | n + 1, c2, c3 =>
  (qrd M 26 57 (nI 2)).bind fun v1 => if v1 ≤ c3 then some (c2, c3)
    else (qrd M 28 163 ((nI 7) + x1)).bind fun v4 => if v4 = 0 then (f_X12_weds_at25_28 c3 x1 M).bind fun b9 => if b9 = true then f_X12_can_L4 x1 M n (c2 ||| ((nI 1) <<< (c3 &&& 31))) (c3 + nI 1)
    else f_X12_can_L4 x1 M n (c2 ||| (nI 0)) (c3 + nI 1)
    else f_X12_can_L4 x1 M n (c2 ||| (nI 0)) (c3 + nI 1)
set_option maxRecDepth 20000 in
set_option maxHeartbeats 4000000 in
theorem l_X12_can_L4 {G : qG} {ρ : qR} (x1 : Int32) (M : qM) (J : qJ) : ∀ (n : Nat) (c2 : Int32) (c3 : Int32) (res : Int32 × Int32), f_X12_can_L4 x1 M n c2 c3 = some res → (∀ x : Int32 × Int32, res = x → QW G (qrm 5 0 0) YX12_can 0 0 55 [none, none, some (.int x.1), none] [] SH M J ρ) → QW G (qrm 5 0 0) YX12_can 0 0 4 [some (.ref 25), some (.int x1), some (.int c2), some (.int c3)] [] SH M J ρ
  | 0, _, _, _, h, _ => by simp [f_X12_can_L4] at h
  | n + 1, c2, c3, res, h, hk => by
    rw [f_X12_can_L4] at h
    refine q_iload_n (pc := 4) dX12_can_4 rfl ?_
    refine q_aload_n (pc := 5) dX12_can_5 rfl ?_
    refine q_getf (pc := 6) (f := 0) (v := .ref 26) dX12_can_6 sh_25 cl_11 inX12 rfl (by decide) lk_X12_7 rfl ?_
    refine q_iconst (pc := 9) (v := nI 2) dX12_can_9 (by decide) ?_
    obtain ⟨v1, h2, h⟩ := Option.bind_eq_some_iff.mp h
    refine q_iald (pc := 10) dX12_can_10 sh_26 h2 ?_
    by_cases k3 : v1 ≤ c3
    · rw [if_pos k3] at h
      refine q_icmp_ge_t (pc := 11) (tgt := 55) dX12_can_11 (by decide) k3 ?_
      refine q_weak (ls' := [none, none, some (.int c2), none]) ⟨rfl, trivial⟩ ?_
      obtain rfl := Option.some.inj h
      exact hk (c2, c3) rfl
    · rw [if_neg k3] at h
      refine q_icmp_ge_f (pc := 11) (tgt := 55) dX12_can_11 (by decide) k3 ?_
      refine q_iload_n (pc := 14) dX12_can_14 rfl ?_
      refine q_aload_n (pc := 15) dX12_can_15 rfl ?_
      refine q_getf (pc := 16) (f := 2) (v := .ref 28) dX12_can_16 sh_25 cl_11 inX12 rfl (by decide) lk_X12_16 rfl ?_
      refine q_bipush (pc := 19) (v := nI 7) dX12_can_19 (by decide) ?_
      refine q_iload_n (pc := 21) dX12_can_21 rfl ?_
      refine q_iadd (pc := 22) dX12_can_22 ?_
      obtain ⟨v4, h5, h⟩ := Option.bind_eq_some_iff.mp h
      refine q_iald (pc := 23) dX12_can_23 sh_28 h5 ?_
      by_cases k6 : v4 = 0
      · rw [if_pos k6] at h
        refine q_if_ne_f (pc := 24) (tgt := 46) dX12_can_24 (by decide) k6 ?_
        refine q_aload_n (pc := 27) dX12_can_27 rfl ?_
        refine q_aload_n (pc := 28) dX12_can_28 rfl ?_
        refine q_getf (pc := 29) (f := 2) (v := .ref 28) dX12_can_29 sh_25 cl_11 inX12 rfl (by decide) lk_X12_16 rfl ?_
        refine q_iload_n (pc := 32) dX12_can_32 rfl ?_
        refine q_iload_n (pc := 33) dX12_can_33 rfl ?_
        obtain ⟨b9, h8, h⟩ := Option.bind_eq_some_iff.mp h
        refine q_callv (pc := 34) (st := [.int c2]) (a_X12_weds_at25_28 h8) okX12_weds rfl dX12_can_34 lk_X12_151 sh_25 cl_11 rfl (by decide) (by decide) (Nat.le_of_ble_eq_true rfl) ⟨Nat.le_of_ble_eq_true rfl, Nat.le_of_ble_eq_true rfl⟩ rfl ?_
        show QW G (qrm 5 0 0) YX12_can 0 0 37 [some (.ref 25), some (.int x1), some (.int c2), some (.int c3)] [.int (qb b9), .int c2] SH M J _
        by_cases k10 : b9 = true
        · rw [if_pos k10] at h
          refine q_if_eq_f (pc := 37) (tgt := 46) dX12_can_37 (by decide) (qb_t k10) ?_
          refine q_iconst (pc := 40) (v := nI 1) dX12_can_40 (by decide) ?_
          refine q_iload_n (pc := 41) dX12_can_41 rfl ?_
          refine q_ishl (pc := 42) dX12_can_42 ?_
          refine q_goto (pc := 43) (tgt := 47) dX12_can_43 (by decide) ?_
          refine q_ior (pc := 47) dX12_can_47 ?_
          refine q_istore_n (pc := 48) (ls' := [some (.ref 25), some (.int x1), some (.int (c2 ||| ((nI 1) <<< (c3 &&& 31)))), some (.int c3)]) dX12_can_48 (by decide) rfl rfl ?_
          refine q_iincW (pc := 49) (w := nI 1) (ls' := [some (.ref 25), some (.int x1), some (.int (c2 ||| ((nI 1) <<< (c3 &&& 31)))), some (.int (c3 + nI 1))]) dX12_can_49 rfl (by decide) (by decide) rfl rfl ?_
          refine q_goto (pc := 52) (tgt := 4) dX12_can_52 (by decide) ?_
          exact l_X12_can_L4 x1 M J n (c2 ||| ((nI 1) <<< (c3 &&& 31))) (c3 + nI 1) res h hk
        · rw [if_neg k10] at h
          refine q_if_eq_t (pc := 37) (tgt := 46) dX12_can_37 (by decide) (qb_f k10) ?_
          refine q_iconst (pc := 46) (v := nI 0) dX12_can_46 (by decide) ?_
          refine q_ior (pc := 47) dX12_can_47 ?_
          refine q_istore_n (pc := 48) (ls' := [some (.ref 25), some (.int x1), some (.int (c2 ||| (nI 0))), some (.int c3)]) dX12_can_48 (by decide) rfl rfl ?_
          refine q_iincW (pc := 49) (w := nI 1) (ls' := [some (.ref 25), some (.int x1), some (.int (c2 ||| (nI 0))), some (.int (c3 + nI 1))]) dX12_can_49 rfl (by decide) (by decide) rfl rfl ?_
          refine q_goto (pc := 52) (tgt := 4) dX12_can_52 (by decide) ?_
          exact l_X12_can_L4 x1 M J n (c2 ||| (nI 0)) (c3 + nI 1) res h hk
      · rw [if_neg k6] at h
        refine q_if_ne_t (pc := 24) (tgt := 46) dX12_can_24 (by decide) k6 ?_
        refine q_iconst (pc := 46) (v := nI 0) dX12_can_46 (by decide) ?_
        refine q_ior (pc := 47) dX12_can_47 ?_
        refine q_istore_n (pc := 48) (ls' := [some (.ref 25), some (.int x1), some (.int (c2 ||| (nI 0))), some (.int c3)]) dX12_can_48 (by decide) rfl rfl ?_
        refine q_iincW (pc := 49) (w := nI 1) (ls' := [some (.ref 25), some (.int x1), some (.int (c2 ||| (nI 0))), some (.int (c3 + nI 1))]) dX12_can_49 rfl (by decide) (by decide) rfl rfl ?_
        refine q_goto (pc := 52) (tgt := 4) dX12_can_52 (by decide) ?_
        exact l_X12_can_L4 x1 M J n (c2 ||| (nI 0)) (c3 + nI 1) res h hk
def f_X12_can (a1 : Int32) (M : qM) : Option Int32 :=
  (f_X12_can_L4 a1 M qF (nI 0) (nI 0)).bind fun e11 => some (e11.1)
set_option maxRecDepth 20000 in
set_option maxHeartbeats 4000000 in
theorem a_X12_can {G : qG} {a1 : Int32} {M : qM} {J : qJ} {r : Int32} (h : f_X12_can a1 M = some (r)) : QM G 5 0 0 YX12_can [.ref 25, .int a1] SH M J (some (.int r), SH, M, J) := by
  refine ⟨Nat.le_of_ble_eq_true rfl, Or.inl rfl, ?_⟩
  show QW G (qrm 5 0 0) YX12_can 0 0 0 [some (.ref 25), some (.int a1), none, none] [] SH M J _
  unfold f_X12_can at h
  refine q_iconst (pc := 0) (v := nI 0) dX12_can_0 (by decide) ?_
  refine q_istore_n (pc := 1) (ls' := [some (.ref 25), some (.int a1), some (.int (nI 0)), none]) dX12_can_1 (by decide) rfl rfl ?_
  refine q_iconst (pc := 2) (v := nI 0) dX12_can_2 (by decide) ?_
  refine q_istore_n (pc := 3) (ls' := [some (.ref 25), some (.int a1), some (.int (nI 0)), some (.int (nI 0))]) dX12_can_3 (by decide) rfl rfl ?_
  obtain ⟨⟨e11_2, e11_3⟩, h12, h⟩ := Option.bind_eq_some_iff.mp h
  try dsimp only at h
  refine l_X12_can_L4 a1 M J qF (nI 0) (nI 0) _ h12 (fun x hx => ?_)
  subst hx
  show QW G (qrm 5 0 0) YX12_can 0 0 55 [none, none, some (.int e11_2), none] [] SH M J _
  refine q_iload_n (pc := 55) dX12_can_55 rfl ?_
  obtain rfl := Option.some.inj h
  exact q_iret (pc := 56) dX12_can_56 rfl rfl rfl
def f_X12_bits_L4  (M : qM) : Nat → Int32 → Int32 → Option (Int32 × Int32)
  | 0, _, _ => none
  | n + 1, c1, c2 =>
  if c2 = 0 then some (c1, c2)
    else f_X12_bits_L4  M n (c1 + nI 1) (c2 &&& (c2 - (nI 1)))
set_option maxRecDepth 20000 in
set_option maxHeartbeats 4000000 in
theorem l_X12_bits_L4 {G : qG} {ρ : qR}  (M : qM) (J : qJ) : ∀ (n : Nat) (c1 : Int32) (c2 : Int32) (res : Int32 × Int32), f_X12_bits_L4  M n c1 c2 = some res → (∀ x : Int32 × Int32, res = x → QW G (qrm 0 0 0) YX12_bits 0 0 20 [none, some (.int x.1), none] [] SH M J ρ) → QW G (qrm 0 0 0) YX12_bits 0 0 4 [none, some (.int c1), some (.int c2)] [] SH M J ρ
  | 0, _, _, _, h, _ => by simp [f_X12_bits_L4] at h
  | n + 1, c1, c2, res, h, hk => by
    rw [f_X12_bits_L4] at h
    refine q_iload_n (pc := 4) dX12_bits_4 rfl ?_
    by_cases k1 : c2 = 0
    · rw [if_pos k1] at h
      refine q_if_eq_t (pc := 5) (tgt := 20) dX12_bits_5 (by decide) k1 ?_
      refine q_weak (ls' := [none, some (.int c1), none]) ⟨rfl, trivial⟩ ?_
      obtain rfl := Option.some.inj h
      exact hk (c1, c2) rfl
    · rw [if_neg k1] at h
      refine q_if_eq_f (pc := 5) (tgt := 20) dX12_bits_5 (by decide) k1 ?_
      refine q_iincW (pc := 8) (w := nI 1) (ls' := [none, some (.int (c1 + nI 1)), some (.int c2)]) dX12_bits_8 rfl (by decide) (by decide) rfl rfl ?_
      refine q_iload_n (pc := 11) dX12_bits_11 rfl ?_
      refine q_iload_n (pc := 12) dX12_bits_12 rfl ?_
      refine q_iconst (pc := 13) (v := nI 1) dX12_bits_13 (by decide) ?_
      refine q_isub (pc := 14) dX12_bits_14 ?_
      refine q_iand (pc := 15) dX12_bits_15 ?_
      refine q_istore_n (pc := 16) (ls' := [none, some (.int (c1 + nI 1)), some (.int (c2 &&& (c2 - (nI 1))))]) dX12_bits_16 (by decide) rfl rfl ?_
      refine q_goto (pc := 17) (tgt := 4) dX12_bits_17 (by decide) ?_
      exact l_X12_bits_L4  M J n (c1 + nI 1) (c2 &&& (c2 - (nI 1))) res h hk
def f_X12_bits (a0 : Int32) (M : qM) : Option Int32 :=
  (f_X12_bits_L4 M qF (nI 0) a0).bind fun e2 => some (e2.1)
set_option maxRecDepth 20000 in
set_option maxHeartbeats 4000000 in
theorem a_X12_bits {G : qG} {a0 : Int32} {M : qM} {J : qJ} {r : Int32} (h : f_X12_bits a0 M = some (r)) : QM G 0 0 0 YX12_bits [.int a0] SH M J (some (.int r), SH, M, J) := by
  refine ⟨Nat.le_of_ble_eq_true rfl, Or.inl rfl, ?_⟩
  show QW G (qrm 0 0 0) YX12_bits 0 0 0 [some (.int a0), none, none] [] SH M J _
  unfold f_X12_bits at h
  refine q_iconst (pc := 0) (v := nI 0) dX12_bits_0 (by decide) ?_
  refine q_istore_n (pc := 1) (ls' := [some (.int a0), some (.int (nI 0)), none]) dX12_bits_1 (by decide) rfl rfl ?_
  refine q_iload_n (pc := 2) dX12_bits_2 rfl ?_
  refine q_istore_n (pc := 3) (ls' := [some (.int a0), some (.int (nI 0)), some (.int a0)]) dX12_bits_3 (by decide) rfl rfl ?_
  refine q_weak (ls' := [none, some (.int (nI 0)), some (.int a0)]) ⟨rfl, ⟨rfl, trivial⟩⟩ ?_
  obtain ⟨⟨e2_1, e2_2⟩, h3, h⟩ := Option.bind_eq_some_iff.mp h
  try dsimp only at h
  refine l_X12_bits_L4 M J qF (nI 0) a0 _ h3 (fun x hx => ?_)
  subst hx
  show QW G (qrm 0 0 0) YX12_bits 0 0 20 [none, some (.int e2_1), none] [] SH M J _
  refine q_iload_n (pc := 20) dX12_bits_20 rfl ?_
  obtain rfl := Option.some.inj h
  exact q_iret (pc := 21) dX12_bits_21 rfl rfl rfl
def f_X12_few_L21 (x1 : Int32) (x2 : Int32) (M : qM) : Nat → Bool → Int32 → Option (Bool × Int32)
  | 0, _, _ => none
  | n + 1, c3, c4 =>
  (qrd M 26 57 (nI 1)).bind fun v4 => if v4 ≤ c4 then some (c3, c4)
    else if c3 = true then (qrd M 28 163 ((nI 7) + c4)).bind fun v8 => if v8 = 0 then (f_X12_can c4 M).bind fun r13 => if (r13 &&& x2) = 0 then f_X12_few_L21 x1 x2 M n false (c4 + nI 1)
    else f_X12_few_L21 x1 x2 M n true (c4 + nI 1)
    else f_X12_few_L21 x1 x2 M n true (c4 + nI 1)
    else f_X12_few_L21 x1 x2 M n false (c4 + nI 1)
set_option maxRecDepth 20000 in
set_option maxHeartbeats 4000000 in
theorem l_X12_few_L21 {G : qG} {ρ : qR} (x1 : Int32) (x2 : Int32) (M : qM) (J : qJ) : ∀ (n : Nat) (c3 : Bool) (c4 : Int32) (res : Bool × Int32), f_X12_few_L21 x1 x2 M n c3 c4 = some res → (∀ x : Bool × Int32, res = x → QW G (qrm 6 0 0) YX12_few 0 0 72 [some (.ref 25), some (.int x1), some (.int x2), some (.int (qb x.1)), none] [] SH M J ρ) → QW G (qrm 6 0 0) YX12_few 0 0 21 [some (.ref 25), some (.int x1), some (.int x2), some (.int (qb c3)), some (.int c4)] [] SH M J ρ
  | 0, _, _, _, h, _ => by simp [f_X12_few_L21] at h
  | n + 1, c3, c4, res, h, hk => by
    rw [f_X12_few_L21] at h
    refine q_iload (pc := 21) dX12_few_21 rfl ?_
    refine q_aload_n (pc := 23) dX12_few_23 rfl ?_
    refine q_getf (pc := 24) (f := 0) (v := .ref 26) dX12_few_24 sh_25 cl_11 inX12 rfl (by decide) lk_X12_7 rfl ?_
    refine q_iconst (pc := 27) (v := nI 1) dX12_few_27 (by decide) ?_
    obtain ⟨v4, h5, h⟩ := Option.bind_eq_some_iff.mp h
    refine q_iald (pc := 28) dX12_few_28 sh_26 h5 ?_
    by_cases k6 : v4 ≤ c4
    · rw [if_pos k6] at h
      refine q_icmp_ge_t (pc := 29) (tgt := 72) dX12_few_29 (by decide) k6 ?_
      refine q_weak (ls' := [some (.ref 25), some (.int x1), some (.int x2), some (.int (qb c3)), none]) ⟨rfl, ⟨rfl, ⟨rfl, ⟨rfl, trivial⟩⟩⟩⟩ ?_
      obtain rfl := Option.some.inj h
      exact hk (c3, c4) rfl
    · rw [if_neg k6] at h
      refine q_icmp_ge_f (pc := 29) (tgt := 72) dX12_few_29 (by decide) k6 ?_
      refine q_iload_n (pc := 32) dX12_few_32 rfl ?_
      by_cases k7 : c3 = true
      · rw [if_pos k7] at h
        refine q_if_eq_f (pc := 33) (tgt := 64) dX12_few_33 (by decide) (qb_t k7) ?_
        refine q_aload_n (pc := 36) dX12_few_36 rfl ?_
        refine q_getf (pc := 37) (f := 2) (v := .ref 28) dX12_few_37 sh_25 cl_11 inX12 rfl (by decide) lk_X12_16 rfl ?_
        refine q_bipush (pc := 40) (v := nI 7) dX12_few_40 (by decide) ?_
        refine q_iload (pc := 42) dX12_few_42 rfl ?_
        refine q_iadd (pc := 44) dX12_few_44 ?_
        obtain ⟨v8, h9, h⟩ := Option.bind_eq_some_iff.mp h
        refine q_iald (pc := 45) dX12_few_45 sh_28 h9 ?_
        by_cases k10 : v8 = 0
        · rw [if_pos k10] at h
          refine q_if_ne_f (pc := 46) (tgt := 60) dX12_few_46 (by decide) k10 ?_
          refine q_aload_n (pc := 49) dX12_few_49 rfl ?_
          refine q_iload (pc := 50) dX12_few_50 rfl ?_
          obtain ⟨r13, h12, h⟩ := Option.bind_eq_some_iff.mp h
          refine q_callv (pc := 52) (st := []) (a_X12_can h12) okX12_can rfl dX12_few_52 lk_X12_158 sh_25 cl_11 rfl (by decide) (by decide) (Nat.le_of_ble_eq_true rfl) ⟨Nat.le_of_ble_eq_true rfl, Nat.le_of_ble_eq_true rfl⟩ rfl ?_
          show QW G (qrm 6 0 0) YX12_few 0 0 55 [some (.ref 25), some (.int x1), some (.int x2), some (.int (qb c3)), some (.int c4)] [.int r13] SH M J _
          refine q_iload_n (pc := 55) dX12_few_55 rfl ?_
          refine q_iand (pc := 56) dX12_few_56 ?_
          by_cases k14 : (r13 &&& x2) = 0
          · rw [if_pos k14] at h
            refine q_if_eq_t (pc := 57) (tgt := 64) dX12_few_57 (by decide) k14 ?_
            refine q_iconst (pc := 64) (v := nI 0) dX12_few_64 (by decide) ?_
            refine q_istore_n (pc := 65) (ls' := [some (.ref 25), some (.int x1), some (.int x2), some (.int (nI 0)), some (.int c4)]) dX12_few_65 (by decide) rfl rfl ?_
            refine q_iincW (pc := 66) (w := nI 1) (ls' := [some (.ref 25), some (.int x1), some (.int x2), some (.int (nI 0)), some (.int (c4 + nI 1))]) dX12_few_66 rfl (by decide) (by decide) rfl rfl ?_
            refine q_goto (pc := 69) (tgt := 21) dX12_few_69 (by decide) ?_
            exact l_X12_few_L21 x1 x2 M J n false (c4 + nI 1) res h hk
          · rw [if_neg k14] at h
            refine q_if_eq_f (pc := 57) (tgt := 64) dX12_few_57 (by decide) k14 ?_
            refine q_iconst (pc := 60) (v := nI 1) dX12_few_60 (by decide) ?_
            refine q_goto (pc := 61) (tgt := 65) dX12_few_61 (by decide) ?_
            refine q_istore_n (pc := 65) (ls' := [some (.ref 25), some (.int x1), some (.int x2), some (.int (nI 1)), some (.int c4)]) dX12_few_65 (by decide) rfl rfl ?_
            refine q_iincW (pc := 66) (w := nI 1) (ls' := [some (.ref 25), some (.int x1), some (.int x2), some (.int (nI 1)), some (.int (c4 + nI 1))]) dX12_few_66 rfl (by decide) (by decide) rfl rfl ?_
            refine q_goto (pc := 69) (tgt := 21) dX12_few_69 (by decide) ?_
            exact l_X12_few_L21 x1 x2 M J n true (c4 + nI 1) res h hk
        · rw [if_neg k10] at h
          refine q_if_ne_t (pc := 46) (tgt := 60) dX12_few_46 (by decide) k10 ?_
          refine q_iconst (pc := 60) (v := nI 1) dX12_few_60 (by decide) ?_
          refine q_goto (pc := 61) (tgt := 65) dX12_few_61 (by decide) ?_
          refine q_istore_n (pc := 65) (ls' := [some (.ref 25), some (.int x1), some (.int x2), some (.int (nI 1)), some (.int c4)]) dX12_few_65 (by decide) rfl rfl ?_
          refine q_iincW (pc := 66) (w := nI 1) (ls' := [some (.ref 25), some (.int x1), some (.int x2), some (.int (nI 1)), some (.int (c4 + nI 1))]) dX12_few_66 rfl (by decide) (by decide) rfl rfl ?_
          refine q_goto (pc := 69) (tgt := 21) dX12_few_69 (by decide) ?_
          exact l_X12_few_L21 x1 x2 M J n true (c4 + nI 1) res h hk
      · rw [if_neg k7] at h
        refine q_if_eq_t (pc := 33) (tgt := 64) dX12_few_33 (by decide) (qb_f k7) ?_
        refine q_iconst (pc := 64) (v := nI 0) dX12_few_64 (by decide) ?_
        refine q_istore_n (pc := 65) (ls' := [some (.ref 25), some (.int x1), some (.int x2), some (.int (nI 0)), some (.int c4)]) dX12_few_65 (by decide) rfl rfl ?_
        refine q_iincW (pc := 66) (w := nI 1) (ls' := [some (.ref 25), some (.int x1), some (.int x2), some (.int (nI 0)), some (.int (c4 + nI 1))]) dX12_few_66 rfl (by decide) (by decide) rfl rfl ?_
        refine q_goto (pc := 69) (tgt := 21) dX12_few_69 (by decide) ?_
        exact l_X12_few_L21 x1 x2 M J n false (c4 + nI 1) res h hk
def f_X12_few_L4  (M : qM) : Nat → Int32 → Int32 → Option (Int32 × Int32)
  | 0, _, _ => none
  | n + 1, c1, c2 =>
  (qrd M 26 57 (nI 2)).bind fun v1 => if ((nI 1) <<< (v1 &&& 31)) ≤ c2 then some (c1, c2)
    else (f_X12_few_L21 c1 c2 M qF true (nI 0)).bind fun e15 => if e15.1 = true then if c1 = (-1 : Int32) then f_X12_few_L4  M n c2 (c2 + nI 1)
    else (f_X12_bits c2 M).bind fun r20 => (f_X12_bits c1 M).bind fun r23 => if r23 ≤ r20 then f_X12_few_L4  M n c1 (c2 + nI 1)
    else f_X12_few_L4  M n c2 (c2 + nI 1)
    else f_X12_few_L4  M n c1 (c2 + nI 1)
set_option maxRecDepth 20000 in
set_option maxHeartbeats 4000000 in
theorem l_X12_few_L4 {G : qG} {ρ : qR}  (M : qM) (J : qJ) : ∀ (n : Nat) (c1 : Int32) (c2 : Int32) (res : Int32 × Int32), f_X12_few_L4  M n c1 c2 = some res → (∀ x : Int32 × Int32, res = x → QW G (qrm 6 0 0) YX12_few 0 0 104 [none, some (.int x.1), none, none, none] [] SH M J ρ) → QW G (qrm 6 0 0) YX12_few 0 0 4 [some (.ref 25), some (.int c1), some (.int c2), none, none] [] SH M J ρ
  | 0, _, _, _, h, _ => by simp [f_X12_few_L4] at h
  | n + 1, c1, c2, res, h, hk => by
    rw [f_X12_few_L4] at h
    refine q_iload_n (pc := 4) dX12_few_4 rfl ?_
    refine q_iconst (pc := 5) (v := nI 1) dX12_few_5 (by decide) ?_
    refine q_aload_n (pc := 6) dX12_few_6 rfl ?_
    refine q_getf (pc := 7) (f := 0) (v := .ref 26) dX12_few_7 sh_25 cl_11 inX12 rfl (by decide) lk_X12_7 rfl ?_
    refine q_iconst (pc := 10) (v := nI 2) dX12_few_10 (by decide) ?_
    obtain ⟨v1, h2, h⟩ := Option.bind_eq_some_iff.mp h
    refine q_iald (pc := 11) dX12_few_11 sh_26 h2 ?_
    refine q_ishl (pc := 12) dX12_few_12 ?_
    by_cases k3 : ((nI 1) <<< (v1 &&& 31)) ≤ c2
    · rw [if_pos k3] at h
      refine q_icmp_ge_t (pc := 13) (tgt := 104) dX12_few_13 (by decide) k3 ?_
      refine q_weak (ls' := [none, some (.int c1), none, none, none]) ⟨rfl, trivial⟩ ?_
      obtain rfl := Option.some.inj h
      exact hk (c1, c2) rfl
    · rw [if_neg k3] at h
      refine q_icmp_ge_f (pc := 13) (tgt := 104) dX12_few_13 (by decide) k3 ?_
      refine q_iconst (pc := 16) (v := nI 1) dX12_few_16 (by decide) ?_
      refine q_istore_n (pc := 17) (ls' := [some (.ref 25), some (.int c1), some (.int c2), some (.int (nI 1)), none]) dX12_few_17 (by decide) rfl rfl ?_
      refine q_iconst (pc := 18) (v := nI 0) dX12_few_18 (by decide) ?_
      refine q_istore (pc := 19) (ls' := [some (.ref 25), some (.int c1), some (.int c2), some (.int (nI 1)), some (.int (nI 0))]) dX12_few_19 (by decide) rfl rfl ?_
      obtain ⟨⟨e15_3, e15_4⟩, h25, h⟩ := Option.bind_eq_some_iff.mp h
      try dsimp only at h
      refine l_X12_few_L21 c1 c2 M J qF true (nI 0) _ h25 (fun x hx => ?_)
      subst hx
      show QW G (qrm 6 0 0) YX12_few 0 0 72 [some (.ref 25), some (.int c1), some (.int c2), some (.int (qb e15_3)), none] [] SH M J _
      refine q_iload_n (pc := 72) dX12_few_72 rfl ?_
      by_cases k16 : e15_3 = true
      · rw [if_pos k16] at h
        refine q_if_eq_f (pc := 73) (tgt := 96) dX12_few_73 (by decide) (qb_t k16) ?_
        refine q_iload_n (pc := 76) dX12_few_76 rfl ?_
        refine q_iconst (pc := 77) (v := (-1 : Int32)) dX12_few_77 (by decide) ?_
        by_cases k17 : c1 = (-1 : Int32)
        · rw [if_pos k17] at h
          refine q_icmp_eq_t (pc := 78) (tgt := 92) dX12_few_78 (by decide) k17 ?_
          refine q_iload_n (pc := 92) dX12_few_92 rfl ?_
          refine q_goto (pc := 93) (tgt := 97) dX12_few_93 (by decide) ?_
          refine q_istore_n (pc := 97) (ls' := [some (.ref 25), some (.int c2), some (.int c2), some (.int (qb e15_3)), none]) dX12_few_97 (by decide) rfl rfl ?_
          refine q_iincW (pc := 98) (w := nI 1) (ls' := [some (.ref 25), some (.int c2), some (.int (c2 + nI 1)), some (.int (qb e15_3)), none]) dX12_few_98 rfl (by decide) (by decide) rfl rfl ?_
          refine q_goto (pc := 101) (tgt := 4) dX12_few_101 (by decide) ?_
          refine q_weak (ls' := [some (.ref 25), some (.int c2), some (.int (c2 + nI 1)), none, none]) ⟨rfl, ⟨rfl, ⟨rfl, trivial⟩⟩⟩ ?_
          exact l_X12_few_L4  M J n c2 (c2 + nI 1) res h hk
        · rw [if_neg k17] at h
          refine q_icmp_eq_f (pc := 78) (tgt := 92) dX12_few_78 (by decide) k17 ?_
          refine q_iload_n (pc := 81) dX12_few_81 rfl ?_
          obtain ⟨r20, h19, h⟩ := Option.bind_eq_some_iff.mp h
          refine q_calls (pc := 82) (st := []) (a_X12_bits h19) okX12_bits rfl dX12_few_82 lk_X12_161 rfl (by decide) (by decide) (Nat.le_of_ble_eq_true rfl) ⟨Nat.le_of_ble_eq_true rfl, Nat.le_of_ble_eq_true rfl⟩ rfl ?_
          show QW G (qrm 6 0 0) YX12_few 0 0 85 [some (.ref 25), some (.int c1), some (.int c2), some (.int (qb e15_3)), none] [.int r20] SH M J _
          refine q_iload_n (pc := 85) dX12_few_85 rfl ?_
          obtain ⟨r23, h22, h⟩ := Option.bind_eq_some_iff.mp h
          refine q_calls (pc := 86) (st := [.int r20]) (a_X12_bits h22) okX12_bits rfl dX12_few_86 lk_X12_161 rfl (by decide) (by decide) (Nat.le_of_ble_eq_true rfl) ⟨Nat.le_of_ble_eq_true rfl, Nat.le_of_ble_eq_true rfl⟩ rfl ?_
          show QW G (qrm 6 0 0) YX12_few 0 0 89 [some (.ref 25), some (.int c1), some (.int c2), some (.int (qb e15_3)), none] [.int r23, .int r20] SH M J _
          by_cases k24 : r23 ≤ r20
          · rw [if_pos k24] at h
            refine q_icmp_ge_t (pc := 89) (tgt := 96) dX12_few_89 (by decide) k24 ?_
            refine q_iload_n (pc := 96) dX12_few_96 rfl ?_
            refine q_istore_n (pc := 97) (ls' := [some (.ref 25), some (.int c1), some (.int c2), some (.int (qb e15_3)), none]) dX12_few_97 (by decide) rfl rfl ?_
            refine q_iincW (pc := 98) (w := nI 1) (ls' := [some (.ref 25), some (.int c1), some (.int (c2 + nI 1)), some (.int (qb e15_3)), none]) dX12_few_98 rfl (by decide) (by decide) rfl rfl ?_
            refine q_goto (pc := 101) (tgt := 4) dX12_few_101 (by decide) ?_
            refine q_weak (ls' := [some (.ref 25), some (.int c1), some (.int (c2 + nI 1)), none, none]) ⟨rfl, ⟨rfl, ⟨rfl, trivial⟩⟩⟩ ?_
            exact l_X12_few_L4  M J n c1 (c2 + nI 1) res h hk
          · rw [if_neg k24] at h
            refine q_icmp_ge_f (pc := 89) (tgt := 96) dX12_few_89 (by decide) k24 ?_
            refine q_iload_n (pc := 92) dX12_few_92 rfl ?_
            refine q_goto (pc := 93) (tgt := 97) dX12_few_93 (by decide) ?_
            refine q_istore_n (pc := 97) (ls' := [some (.ref 25), some (.int c2), some (.int c2), some (.int (qb e15_3)), none]) dX12_few_97 (by decide) rfl rfl ?_
            refine q_iincW (pc := 98) (w := nI 1) (ls' := [some (.ref 25), some (.int c2), some (.int (c2 + nI 1)), some (.int (qb e15_3)), none]) dX12_few_98 rfl (by decide) (by decide) rfl rfl ?_
            refine q_goto (pc := 101) (tgt := 4) dX12_few_101 (by decide) ?_
            refine q_weak (ls' := [some (.ref 25), some (.int c2), some (.int (c2 + nI 1)), none, none]) ⟨rfl, ⟨rfl, ⟨rfl, trivial⟩⟩⟩ ?_
            exact l_X12_few_L4  M J n c2 (c2 + nI 1) res h hk
      · rw [if_neg k16] at h
        refine q_if_eq_t (pc := 73) (tgt := 96) dX12_few_73 (by decide) (qb_f k16) ?_
        refine q_iload_n (pc := 96) dX12_few_96 rfl ?_
        refine q_istore_n (pc := 97) (ls' := [some (.ref 25), some (.int c1), some (.int c2), some (.int (qb e15_3)), none]) dX12_few_97 (by decide) rfl rfl ?_
        refine q_iincW (pc := 98) (w := nI 1) (ls' := [some (.ref 25), some (.int c1), some (.int (c2 + nI 1)), some (.int (qb e15_3)), none]) dX12_few_98 rfl (by decide) (by decide) rfl rfl ?_
        refine q_goto (pc := 101) (tgt := 4) dX12_few_101 (by decide) ?_
        refine q_weak (ls' := [some (.ref 25), some (.int c1), some (.int (c2 + nI 1)), none, none]) ⟨rfl, ⟨rfl, ⟨rfl, trivial⟩⟩⟩ ?_
        exact l_X12_few_L4  M J n c1 (c2 + nI 1) res h hk
def f_X12_few  (M : qM) : Option Int32 :=
  (f_X12_few_L4 M qF (-1 : Int32) (nI 0)).bind fun e26 => some (e26.1)
set_option maxRecDepth 20000 in
set_option maxHeartbeats 4000000 in
theorem a_X12_few {G : qG}  {M : qM} {J : qJ} {r : Int32} (h : f_X12_few  M = some (r)) : QM G 6 0 0 YX12_few [.ref 25] SH M J (some (.int r), SH, M, J) := by
  refine ⟨Nat.le_of_ble_eq_true rfl, Or.inl rfl, ?_⟩
  show QW G (qrm 6 0 0) YX12_few 0 0 0 [some (.ref 25), none, none, none, none] [] SH M J _
  unfold f_X12_few at h
  refine q_iconst (pc := 0) (v := (-1 : Int32)) dX12_few_0 (by decide) ?_
  refine q_istore_n (pc := 1) (ls' := [some (.ref 25), some (.int (-1 : Int32)), none, none, none]) dX12_few_1 (by decide) rfl rfl ?_
  refine q_iconst (pc := 2) (v := nI 0) dX12_few_2 (by decide) ?_
  refine q_istore_n (pc := 3) (ls' := [some (.ref 25), some (.int (-1 : Int32)), some (.int (nI 0)), none, none]) dX12_few_3 (by decide) rfl rfl ?_
  obtain ⟨⟨e26_1, e26_2⟩, h27, h⟩ := Option.bind_eq_some_iff.mp h
  try dsimp only at h
  refine l_X12_few_L4 M J qF (-1 : Int32) (nI 0) _ h27 (fun x hx => ?_)
  subst hx
  show QW G (qrm 6 0 0) YX12_few 0 0 104 [none, some (.int e26_1), none, none, none] [] SH M J _
  refine q_iload_n (pc := 104) dX12_few_104 rfl ?_
  obtain rfl := Option.some.inj h
  exact q_iret (pc := 105) dX12_few_105 rfl rfl rfl
def f_X12_told (a1 : Int32) (M : qM) : Option Int32 :=
  if a1 = nI 0 then (qrd M 26 57 a1).bind fun v2 => some (v2)
    else if a1 = nI 1 then (qrd M 26 57 a1).bind fun v5 => some (v5)
    else if a1 = nI 2 then (qrd M 26 57 a1).bind fun v8 => some (v8)
    else if a1 = nI 3 then some (M 25 10)
    else if a1 = nI 4 then (qrd M 28 163 (nI 0)).bind fun v12 => some (v12)
    else if a1 = nI 5 then (f_X12_those (a1 - (nI 5)) M).bind fun r17 => some (r17)
    else if a1 = nI 6 then (f_X12_those (a1 - (nI 5)) M).bind fun r21 => some (r21)
    else if a1 = nI 7 then (f_X12_those (a1 - (nI 5)) M).bind fun r25 => some (r25)
    else if a1 = nI 8 then (qrd M 28 163 (nI 61)).bind fun v27 => some (v27)
    else if a1 = nI 9 then (qrd M 28 163 (nI 62)).bind fun v30 => some (v30)
    else if a1 = nI 10 then (f_X12_plain M).bind fun r35 => some (r35)
    else if a1 = nI 11 then (f_X12_firmest M).bind fun r39 => some (r39)
    else if a1 = nI 12 then (f_X12_few M).bind fun r43 => some (r43)
    else if a1 = nI 13 then some (M 25 13)
    else if a1 = nI 14 then some (M 25 15)
    else if a1 = nI 15 then some (M 25 5)
    else some ((-1000000002 : Int32))
set_option maxRecDepth 20000 in
set_option maxHeartbeats 4000000 in
theorem a_X12_told {G : qG} {a1 : Int32} {M : qM} {J : qJ} {r : Int32} (h : f_X12_told a1 M = some (r)) : QM G 7 0 0 YX12_told [.ref 25, .int a1] SH M J (some (.int r), SH, M, J) := by
  refine ⟨Nat.le_of_ble_eq_true rfl, Or.inl rfl, ?_⟩
  show QW G (qrm 7 0 0) YX12_told 0 0 0 [some (.ref 25), some (.int a1)] [] SH M J _
  unfold f_X12_told at h
  refine q_iload_n (pc := 0) dX12_told_0 rfl ?_
  by_cases k1 : a1 = nI 0
  · rw [if_pos k1] at h
    refine q_tabIn (pc := 1) (tgt := 80) (off := 79) (j := 0) dX12_told_1 (by rw [k1]; rfl) (by decide) (by decide) rfl (by decide) ?_
    refine q_aload_n (pc := 80) dX12_told_80 rfl ?_
    refine q_getf (pc := 81) (f := 0) (v := .ref 26) dX12_told_81 sh_25 cl_11 inX12 rfl (by decide) lk_X12_7 rfl ?_
    refine q_iload_n (pc := 84) dX12_told_84 rfl ?_
    obtain ⟨v2, h3, h⟩ := Option.bind_eq_some_iff.mp h
    refine q_iald (pc := 85) dX12_told_85 sh_26 h3 ?_
    obtain rfl := Option.some.inj h
    exact q_iret (pc := 86) dX12_told_86 rfl rfl rfl
  · rw [if_neg k1] at h
    by_cases k4 : a1 = nI 1
    · rw [if_pos k4] at h
      refine q_tabIn (pc := 1) (tgt := 80) (off := 79) (j := 1) dX12_told_1 (by rw [k4]; rfl) (by decide) (by decide) rfl (by decide) ?_
      refine q_aload_n (pc := 80) dX12_told_80 rfl ?_
      refine q_getf (pc := 81) (f := 0) (v := .ref 26) dX12_told_81 sh_25 cl_11 inX12 rfl (by decide) lk_X12_7 rfl ?_
      refine q_iload_n (pc := 84) dX12_told_84 rfl ?_
      obtain ⟨v5, h6, h⟩ := Option.bind_eq_some_iff.mp h
      refine q_iald (pc := 85) dX12_told_85 sh_26 h6 ?_
      obtain rfl := Option.some.inj h
      exact q_iret (pc := 86) dX12_told_86 rfl rfl rfl
    · rw [if_neg k4] at h
      by_cases k7 : a1 = nI 2
      · rw [if_pos k7] at h
        refine q_tabIn (pc := 1) (tgt := 80) (off := 79) (j := 2) dX12_told_1 (by rw [k7]; rfl) (by decide) (by decide) rfl (by decide) ?_
        refine q_aload_n (pc := 80) dX12_told_80 rfl ?_
        refine q_getf (pc := 81) (f := 0) (v := .ref 26) dX12_told_81 sh_25 cl_11 inX12 rfl (by decide) lk_X12_7 rfl ?_
        refine q_iload_n (pc := 84) dX12_told_84 rfl ?_
        obtain ⟨v8, h9, h⟩ := Option.bind_eq_some_iff.mp h
        refine q_iald (pc := 85) dX12_told_85 sh_26 h9 ?_
        obtain rfl := Option.some.inj h
        exact q_iret (pc := 86) dX12_told_86 rfl rfl rfl
      · rw [if_neg k7] at h
        by_cases k10 : a1 = nI 3
        · rw [if_pos k10] at h
          refine q_tabIn (pc := 1) (tgt := 87) (off := 86) (j := 3) dX12_told_1 (by rw [k10]; rfl) (by decide) (by decide) rfl (by decide) ?_
          refine q_aload_n (pc := 87) dX12_told_87 rfl ?_
          refine q_getf (pc := 88) (f := 10) (v := .int (M 25 10)) dX12_told_88 sh_25 cl_11 inX12 rfl (by decide) lk_X12_78 rfl ?_
          obtain rfl := Option.some.inj h
          exact q_iret (pc := 91) dX12_told_91 rfl rfl rfl
        · rw [if_neg k10] at h
          by_cases k11 : a1 = nI 4
          · rw [if_pos k11] at h
            refine q_tabIn (pc := 1) (tgt := 92) (off := 91) (j := 4) dX12_told_1 (by rw [k11]; rfl) (by decide) (by decide) rfl (by decide) ?_
            refine q_aload_n (pc := 92) dX12_told_92 rfl ?_
            refine q_getf (pc := 93) (f := 2) (v := .ref 28) dX12_told_93 sh_25 cl_11 inX12 rfl (by decide) lk_X12_16 rfl ?_
            refine q_iconst (pc := 96) (v := nI 0) dX12_told_96 (by decide) ?_
            obtain ⟨v12, h13, h⟩ := Option.bind_eq_some_iff.mp h
            refine q_iald (pc := 97) dX12_told_97 sh_28 h13 ?_
            obtain rfl := Option.some.inj h
            exact q_iret (pc := 98) dX12_told_98 rfl rfl rfl
          · rw [if_neg k11] at h
            by_cases k14 : a1 = nI 5
            · rw [if_pos k14] at h
              refine q_tabIn (pc := 1) (tgt := 99) (off := 98) (j := 5) dX12_told_1 (by rw [k14]; rfl) (by decide) (by decide) rfl (by decide) ?_
              refine q_aload_n (pc := 99) dX12_told_99 rfl ?_
              refine q_iload_n (pc := 100) dX12_told_100 rfl ?_
              refine q_iconst (pc := 101) (v := nI 5) dX12_told_101 (by decide) ?_
              refine q_isub (pc := 102) dX12_told_102 ?_
              obtain ⟨r17, h16, h⟩ := Option.bind_eq_some_iff.mp h
              refine q_callv (pc := 103) (st := []) (a_X12_those h16) okX12_those rfl dX12_told_103 lk_X12_154 sh_25 cl_11 rfl (by decide) (by decide) (Nat.le_of_ble_eq_true rfl) ⟨Nat.le_of_ble_eq_true rfl, Nat.le_of_ble_eq_true rfl⟩ rfl ?_
              show QW G (qrm 7 0 0) YX12_told 0 0 106 [some (.ref 25), some (.int a1)] [.int r17] SH M J _
              obtain rfl := Option.some.inj h
              exact q_iret (pc := 106) dX12_told_106 rfl rfl rfl
            · rw [if_neg k14] at h
              by_cases k18 : a1 = nI 6
              · rw [if_pos k18] at h
                refine q_tabIn (pc := 1) (tgt := 99) (off := 98) (j := 6) dX12_told_1 (by rw [k18]; rfl) (by decide) (by decide) rfl (by decide) ?_
                refine q_aload_n (pc := 99) dX12_told_99 rfl ?_
                refine q_iload_n (pc := 100) dX12_told_100 rfl ?_
                refine q_iconst (pc := 101) (v := nI 5) dX12_told_101 (by decide) ?_
                refine q_isub (pc := 102) dX12_told_102 ?_
                obtain ⟨r21, h20, h⟩ := Option.bind_eq_some_iff.mp h
                refine q_callv (pc := 103) (st := []) (a_X12_those h20) okX12_those rfl dX12_told_103 lk_X12_154 sh_25 cl_11 rfl (by decide) (by decide) (Nat.le_of_ble_eq_true rfl) ⟨Nat.le_of_ble_eq_true rfl, Nat.le_of_ble_eq_true rfl⟩ rfl ?_
                show QW G (qrm 7 0 0) YX12_told 0 0 106 [some (.ref 25), some (.int a1)] [.int r21] SH M J _
                obtain rfl := Option.some.inj h
                exact q_iret (pc := 106) dX12_told_106 rfl rfl rfl
              · rw [if_neg k18] at h
                by_cases k22 : a1 = nI 7
                · rw [if_pos k22] at h
                  refine q_tabIn (pc := 1) (tgt := 99) (off := 98) (j := 7) dX12_told_1 (by rw [k22]; rfl) (by decide) (by decide) rfl (by decide) ?_
                  refine q_aload_n (pc := 99) dX12_told_99 rfl ?_
                  refine q_iload_n (pc := 100) dX12_told_100 rfl ?_
                  refine q_iconst (pc := 101) (v := nI 5) dX12_told_101 (by decide) ?_
                  refine q_isub (pc := 102) dX12_told_102 ?_
                  obtain ⟨r25, h24, h⟩ := Option.bind_eq_some_iff.mp h
                  refine q_callv (pc := 103) (st := []) (a_X12_those h24) okX12_those rfl dX12_told_103 lk_X12_154 sh_25 cl_11 rfl (by decide) (by decide) (Nat.le_of_ble_eq_true rfl) ⟨Nat.le_of_ble_eq_true rfl, Nat.le_of_ble_eq_true rfl⟩ rfl ?_
                  show QW G (qrm 7 0 0) YX12_told 0 0 106 [some (.ref 25), some (.int a1)] [.int r25] SH M J _
                  obtain rfl := Option.some.inj h
                  exact q_iret (pc := 106) dX12_told_106 rfl rfl rfl
                · rw [if_neg k22] at h
                  by_cases k26 : a1 = nI 8
                  · rw [if_pos k26] at h
                    refine q_tabIn (pc := 1) (tgt := 107) (off := 106) (j := 8) dX12_told_1 (by rw [k26]; rfl) (by decide) (by decide) rfl (by decide) ?_
                    refine q_aload_n (pc := 107) dX12_told_107 rfl ?_
                    refine q_getf (pc := 108) (f := 2) (v := .ref 28) dX12_told_108 sh_25 cl_11 inX12 rfl (by decide) lk_X12_16 rfl ?_
                    refine q_bipush (pc := 111) (v := nI 61) dX12_told_111 (by decide) ?_
                    obtain ⟨v27, h28, h⟩ := Option.bind_eq_some_iff.mp h
                    refine q_iald (pc := 113) dX12_told_113 sh_28 h28 ?_
                    obtain rfl := Option.some.inj h
                    exact q_iret (pc := 114) dX12_told_114 rfl rfl rfl
                  · rw [if_neg k26] at h
                    by_cases k29 : a1 = nI 9
                    · rw [if_pos k29] at h
                      refine q_tabIn (pc := 1) (tgt := 115) (off := 114) (j := 9) dX12_told_1 (by rw [k29]; rfl) (by decide) (by decide) rfl (by decide) ?_
                      refine q_aload_n (pc := 115) dX12_told_115 rfl ?_
                      refine q_getf (pc := 116) (f := 2) (v := .ref 28) dX12_told_116 sh_25 cl_11 inX12 rfl (by decide) lk_X12_16 rfl ?_
                      refine q_bipush (pc := 119) (v := nI 62) dX12_told_119 (by decide) ?_
                      obtain ⟨v30, h31, h⟩ := Option.bind_eq_some_iff.mp h
                      refine q_iald (pc := 121) dX12_told_121 sh_28 h31 ?_
                      obtain rfl := Option.some.inj h
                      exact q_iret (pc := 122) dX12_told_122 rfl rfl rfl
                    · rw [if_neg k29] at h
                      by_cases k32 : a1 = nI 10
                      · rw [if_pos k32] at h
                        refine q_tabIn (pc := 1) (tgt := 123) (off := 122) (j := 10) dX12_told_1 (by rw [k32]; rfl) (by decide) (by decide) rfl (by decide) ?_
                        refine q_aload_n (pc := 123) dX12_told_123 rfl ?_
                        obtain ⟨r35, h34, h⟩ := Option.bind_eq_some_iff.mp h
                        refine q_callv (pc := 124) (st := []) (a_X12_plain h34) okX12_plain rfl dX12_told_124 lk_X12_164 sh_25 cl_11 rfl (by decide) (by decide) (Nat.le_of_ble_eq_true rfl) ⟨Nat.le_of_ble_eq_true rfl, Nat.le_of_ble_eq_true rfl⟩ rfl ?_
                        show QW G (qrm 7 0 0) YX12_told 0 0 127 [some (.ref 25), some (.int a1)] [.int r35] SH M J _
                        obtain rfl := Option.some.inj h
                        exact q_iret (pc := 127) dX12_told_127 rfl rfl rfl
                      · rw [if_neg k32] at h
                        by_cases k36 : a1 = nI 11
                        · rw [if_pos k36] at h
                          refine q_tabIn (pc := 1) (tgt := 128) (off := 127) (j := 11) dX12_told_1 (by rw [k36]; rfl) (by decide) (by decide) rfl (by decide) ?_
                          refine q_aload_n (pc := 128) dX12_told_128 rfl ?_
                          obtain ⟨r39, h38, h⟩ := Option.bind_eq_some_iff.mp h
                          refine q_callv (pc := 129) (st := []) (a_X12_firmest h38) okX12_firmest rfl dX12_told_129 lk_X12_167 sh_25 cl_11 rfl (by decide) (by decide) (Nat.le_of_ble_eq_true rfl) ⟨Nat.le_of_ble_eq_true rfl, Nat.le_of_ble_eq_true rfl⟩ rfl ?_
                          show QW G (qrm 7 0 0) YX12_told 0 0 132 [some (.ref 25), some (.int a1)] [.int r39] SH M J _
                          obtain rfl := Option.some.inj h
                          exact q_iret (pc := 132) dX12_told_132 rfl rfl rfl
                        · rw [if_neg k36] at h
                          by_cases k40 : a1 = nI 12
                          · rw [if_pos k40] at h
                            refine q_tabIn (pc := 1) (tgt := 133) (off := 132) (j := 12) dX12_told_1 (by rw [k40]; rfl) (by decide) (by decide) rfl (by decide) ?_
                            refine q_aload_n (pc := 133) dX12_told_133 rfl ?_
                            obtain ⟨r43, h42, h⟩ := Option.bind_eq_some_iff.mp h
                            refine q_callv (pc := 134) (st := []) (a_X12_few h42) okX12_few rfl dX12_told_134 lk_X12_170 sh_25 cl_11 rfl (by decide) (by decide) (Nat.le_of_ble_eq_true rfl) ⟨Nat.le_of_ble_eq_true rfl, Nat.le_of_ble_eq_true rfl⟩ rfl ?_
                            show QW G (qrm 7 0 0) YX12_told 0 0 137 [some (.ref 25), some (.int a1)] [.int r43] SH M J _
                            obtain rfl := Option.some.inj h
                            exact q_iret (pc := 137) dX12_told_137 rfl rfl rfl
                          · rw [if_neg k40] at h
                            by_cases k44 : a1 = nI 13
                            · rw [if_pos k44] at h
                              refine q_tabIn (pc := 1) (tgt := 138) (off := 137) (j := 13) dX12_told_1 (by rw [k44]; rfl) (by decide) (by decide) rfl (by decide) ?_
                              refine q_aload_n (pc := 138) dX12_told_138 rfl ?_
                              refine q_getf (pc := 139) (f := 13) (v := .int (M 25 13)) dX12_told_139 sh_25 cl_11 inX12 rfl (by decide) lk_X12_69 rfl ?_
                              obtain rfl := Option.some.inj h
                              exact q_iret (pc := 142) dX12_told_142 rfl rfl rfl
                            · rw [if_neg k44] at h
                              by_cases k45 : a1 = nI 14
                              · rw [if_pos k45] at h
                                refine q_tabIn (pc := 1) (tgt := 143) (off := 142) (j := 14) dX12_told_1 (by rw [k45]; rfl) (by decide) (by decide) rfl (by decide) ?_
                                refine q_aload_n (pc := 143) dX12_told_143 rfl ?_
                                refine q_getf (pc := 144) (f := 15) (v := .int (M 25 15)) dX12_told_144 sh_25 cl_11 inX12 rfl (by decide) lk_X12_72 rfl ?_
                                obtain rfl := Option.some.inj h
                                exact q_iret (pc := 147) dX12_told_147 rfl rfl rfl
                              · rw [if_neg k45] at h
                                by_cases k46 : a1 = nI 15
                                · rw [if_pos k46] at h
                                  refine q_tabIn (pc := 1) (tgt := 148) (off := 147) (j := 15) dX12_told_1 (by rw [k46]; rfl) (by decide) (by decide) rfl (by decide) ?_
                                  refine q_aload_n (pc := 148) dX12_told_148 rfl ?_
                                  refine q_getf (pc := 149) (f := 5) (v := .int (M 25 5)) dX12_told_149 sh_25 cl_11 inX12 rfl (by decide) lk_X12_66 rfl ?_
                                  obtain rfl := Option.some.inj h
                                  exact q_iret (pc := 152) dX12_told_152 rfl rfl rfl
                                · rw [if_neg k46] at h
                                  have hsw : a1.toInt < (0) ∨ (15) < a1.toInt := by
                                    have := lv_neT k1 (show (nI 0).toInt = 0 from rfl)
                                    have := lv_neT k4 (show (nI 1).toInt = 1 from rfl)
                                    have := lv_neT k7 (show (nI 2).toInt = 2 from rfl)
                                    have := lv_neT k10 (show (nI 3).toInt = 3 from rfl)
                                    have := lv_neT k11 (show (nI 4).toInt = 4 from rfl)
                                    have := lv_neT k14 (show (nI 5).toInt = 5 from rfl)
                                    have := lv_neT k18 (show (nI 6).toInt = 6 from rfl)
                                    have := lv_neT k22 (show (nI 7).toInt = 7 from rfl)
                                    have := lv_neT k26 (show (nI 8).toInt = 8 from rfl)
                                    have := lv_neT k29 (show (nI 9).toInt = 9 from rfl)
                                    have := lv_neT k32 (show (nI 10).toInt = 10 from rfl)
                                    have := lv_neT k36 (show (nI 11).toInt = 11 from rfl)
                                    have := lv_neT k40 (show (nI 12).toInt = 12 from rfl)
                                    have := lv_neT k44 (show (nI 13).toInt = 13 from rfl)
                                    have := lv_neT k45 (show (nI 14).toInt = 14 from rfl)
                                    have := lv_neT k46 (show (nI 15).toInt = 15 from rfl)
                                    omega
                                  refine q_tabOut (pc := 1) (tgt := 153) dX12_told_1 hsw (by decide) ?_
                                  refine q_ldc (pc := 153) (v := (-1000000002 : Int32)) dX12_told_153 lk_X12_77 ?_
                                  obtain rfl := Option.some.inj h
                                  exact q_iret (pc := 155) dX12_told_155 rfl rfl rfl
def f_X12_isCouple (a1 : Int32) (M : qM) : Option Bool :=
  (qrd M 26 57 (nI 1)).bind fun v1 => (f_X12_in a1.toInt64 (lN 0) ((v1 - (nI 1)).toInt64) M).bind fun b5 => some (b5)
set_option maxRecDepth 20000 in
set_option maxHeartbeats 4000000 in
theorem a_X12_isCouple {G : qG} {a1 : Int32} {M : qM} {J : qJ} {r : Bool} (h : f_X12_isCouple a1 M = some (r)) : QM G 1 0 0 YX12_isCouple [.ref 25, .int a1] SH M J (some (.int (qb r)), SH, M, J) := by
  refine ⟨Nat.le_of_ble_eq_true rfl, Or.inr ⟨rfl, _, rfl⟩, ?_⟩
  show QW G (qrm 1 0 0) YX12_isCouple 0 0 0 [some (.ref 25), some (.int a1)] [] SH M J _
  unfold f_X12_isCouple at h
  refine q_iload_n (pc := 0) dX12_isCouple_0 rfl ?_
  refine q_i2l (pc := 1) dX12_isCouple_1 ?_
  refine q_lconst (pc := 2) (v := lN 0) dX12_isCouple_2 rfl ?_
  refine q_aload_n (pc := 3) dX12_isCouple_3 rfl ?_
  refine q_getf (pc := 4) (f := 0) (v := .ref 26) dX12_isCouple_4 sh_25 cl_11 inX12 rfl (by decide) lk_X12_7 rfl ?_
  refine q_iconst (pc := 7) (v := nI 1) dX12_isCouple_7 (by decide) ?_
  obtain ⟨v1, h2, h⟩ := Option.bind_eq_some_iff.mp h
  refine q_iald (pc := 8) dX12_isCouple_8 sh_26 h2 ?_
  refine q_iconst (pc := 9) (v := nI 1) dX12_isCouple_9 (by decide) ?_
  refine q_isub (pc := 10) dX12_isCouple_10 ?_
  refine q_i2l (pc := 11) dX12_isCouple_11 ?_
  obtain ⟨b5, h4, h⟩ := Option.bind_eq_some_iff.mp h
  refine q_calls (pc := 12) (st := []) (a_X12_in h4) okX12_in rfl dX12_isCouple_12 lk_X12_58 rfl (by decide) (by decide) (Nat.le_of_ble_eq_true rfl) ⟨Nat.le_of_ble_eq_true rfl, Nat.le_of_ble_eq_true rfl⟩ rfl ?_
  show QW G (qrm 1 0 0) YX12_isCouple 0 0 15 [some (.ref 25), some (.int a1)] [.int (qb b5)] SH M J _
  obtain rfl := Option.some.inj h
  exact q_iret (pc := 15) dX12_isCouple_15 rfl rfl rfl
def f_X12_weakest_L4 (x1 : Int32) (M : qM) : Nat → Int32 → Int32 → Option (Int32 × Int32)
  | 0, _, _ => none
  | n + 1, c2, c3 =>
  (qrd M 26 57 (nI 2)).bind fun v1 => if v1 ≤ c3 then some (c2, c3)
    else if c2 = (-1 : Int32) then f_X12_weakest_L4 x1 M n c3 (c3 + nI 1)
    else (f_X12_strengthOn_at25_28 c3 x1 M).bind fun r7 => (f_X12_strengthOn_at25_28 c2 x1 M).bind fun r10 => if r10 ≤ r7 then f_X12_weakest_L4 x1 M n c2 (c3 + nI 1)
    else f_X12_weakest_L4 x1 M n c3 (c3 + nI 1)
set_option maxRecDepth 20000 in
set_option maxHeartbeats 4000000 in
theorem l_X12_weakest_L4 {G : qG} {ρ : qR} (x1 : Int32) (M : qM) (J : qJ) : ∀ (n : Nat) (c2 : Int32) (c3 : Int32) (res : Int32 × Int32), f_X12_weakest_L4 x1 M n c2 c3 = some res → (∀ x : Int32 × Int32, res = x → QW G (qrm 3 0 0) YX12_weakest 0 0 54 [none, none, some (.int x.1), none] [] SH M J ρ) → QW G (qrm 3 0 0) YX12_weakest 0 0 4 [some (.ref 25), some (.int x1), some (.int c2), some (.int c3)] [] SH M J ρ
  | 0, _, _, _, h, _ => by simp [f_X12_weakest_L4] at h
  | n + 1, c2, c3, res, h, hk => by
    rw [f_X12_weakest_L4] at h
    refine q_iload_n (pc := 4) dX12_weakest_4 rfl ?_
    refine q_aload_n (pc := 5) dX12_weakest_5 rfl ?_
    refine q_getf (pc := 6) (f := 0) (v := .ref 26) dX12_weakest_6 sh_25 cl_11 inX12 rfl (by decide) lk_X12_7 rfl ?_
    refine q_iconst (pc := 9) (v := nI 2) dX12_weakest_9 (by decide) ?_
    obtain ⟨v1, h2, h⟩ := Option.bind_eq_some_iff.mp h
    refine q_iald (pc := 10) dX12_weakest_10 sh_26 h2 ?_
    by_cases k3 : v1 ≤ c3
    · rw [if_pos k3] at h
      refine q_icmp_ge_t (pc := 11) (tgt := 54) dX12_weakest_11 (by decide) k3 ?_
      refine q_weak (ls' := [none, none, some (.int c2), none]) ⟨rfl, trivial⟩ ?_
      obtain rfl := Option.some.inj h
      exact hk (c2, c3) rfl
    · rw [if_neg k3] at h
      refine q_icmp_ge_f (pc := 11) (tgt := 54) dX12_weakest_11 (by decide) k3 ?_
      refine q_iload_n (pc := 14) dX12_weakest_14 rfl ?_
      refine q_iconst (pc := 15) (v := (-1 : Int32)) dX12_weakest_15 (by decide) ?_
      by_cases k4 : c2 = (-1 : Int32)
      · rw [if_pos k4] at h
        refine q_icmp_eq_t (pc := 16) (tgt := 42) dX12_weakest_16 (by decide) k4 ?_
        refine q_iload_n (pc := 42) dX12_weakest_42 rfl ?_
        refine q_goto (pc := 43) (tgt := 47) dX12_weakest_43 (by decide) ?_
        refine q_istore_n (pc := 47) (ls' := [some (.ref 25), some (.int x1), some (.int c3), some (.int c3)]) dX12_weakest_47 (by decide) rfl rfl ?_
        refine q_iincW (pc := 48) (w := nI 1) (ls' := [some (.ref 25), some (.int x1), some (.int c3), some (.int (c3 + nI 1))]) dX12_weakest_48 rfl (by decide) (by decide) rfl rfl ?_
        refine q_goto (pc := 51) (tgt := 4) dX12_weakest_51 (by decide) ?_
        exact l_X12_weakest_L4 x1 M J n c3 (c3 + nI 1) res h hk
      · rw [if_neg k4] at h
        refine q_icmp_eq_f (pc := 16) (tgt := 42) dX12_weakest_16 (by decide) k4 ?_
        refine q_aload_n (pc := 19) dX12_weakest_19 rfl ?_
        refine q_aload_n (pc := 20) dX12_weakest_20 rfl ?_
        refine q_getf (pc := 21) (f := 2) (v := .ref 28) dX12_weakest_21 sh_25 cl_11 inX12 rfl (by decide) lk_X12_16 rfl ?_
        refine q_iload_n (pc := 24) dX12_weakest_24 rfl ?_
        refine q_iload_n (pc := 25) dX12_weakest_25 rfl ?_
        obtain ⟨r7, h6, h⟩ := Option.bind_eq_some_iff.mp h
        refine q_callv (pc := 26) (st := []) (a_X12_strengthOn_at25_28 h6) okX12_strengthOn rfl dX12_weakest_26 lk_X12_144 sh_25 cl_11 rfl (by decide) (by decide) (Nat.le_of_ble_eq_true rfl) ⟨Nat.le_of_ble_eq_true rfl, Nat.le_of_ble_eq_true rfl⟩ rfl ?_
        show QW G (qrm 3 0 0) YX12_weakest 0 0 29 [some (.ref 25), some (.int x1), some (.int c2), some (.int c3)] [.int r7] SH M J _
        refine q_aload_n (pc := 29) dX12_weakest_29 rfl ?_
        refine q_aload_n (pc := 30) dX12_weakest_30 rfl ?_
        refine q_getf (pc := 31) (f := 2) (v := .ref 28) dX12_weakest_31 sh_25 cl_11 inX12 rfl (by decide) lk_X12_16 rfl ?_
        refine q_iload_n (pc := 34) dX12_weakest_34 rfl ?_
        refine q_iload_n (pc := 35) dX12_weakest_35 rfl ?_
        obtain ⟨r10, h9, h⟩ := Option.bind_eq_some_iff.mp h
        refine q_callv (pc := 36) (st := [.int r7]) (a_X12_strengthOn_at25_28 h9) okX12_strengthOn rfl dX12_weakest_36 lk_X12_144 sh_25 cl_11 rfl (by decide) (by decide) (Nat.le_of_ble_eq_true rfl) ⟨Nat.le_of_ble_eq_true rfl, Nat.le_of_ble_eq_true rfl⟩ rfl ?_
        show QW G (qrm 3 0 0) YX12_weakest 0 0 39 [some (.ref 25), some (.int x1), some (.int c2), some (.int c3)] [.int r10, .int r7] SH M J _
        by_cases k11 : r10 ≤ r7
        · rw [if_pos k11] at h
          refine q_icmp_ge_t (pc := 39) (tgt := 46) dX12_weakest_39 (by decide) k11 ?_
          refine q_iload_n (pc := 46) dX12_weakest_46 rfl ?_
          refine q_istore_n (pc := 47) (ls' := [some (.ref 25), some (.int x1), some (.int c2), some (.int c3)]) dX12_weakest_47 (by decide) rfl rfl ?_
          refine q_iincW (pc := 48) (w := nI 1) (ls' := [some (.ref 25), some (.int x1), some (.int c2), some (.int (c3 + nI 1))]) dX12_weakest_48 rfl (by decide) (by decide) rfl rfl ?_
          refine q_goto (pc := 51) (tgt := 4) dX12_weakest_51 (by decide) ?_
          exact l_X12_weakest_L4 x1 M J n c2 (c3 + nI 1) res h hk
        · rw [if_neg k11] at h
          refine q_icmp_ge_f (pc := 39) (tgt := 46) dX12_weakest_39 (by decide) k11 ?_
          refine q_iload_n (pc := 42) dX12_weakest_42 rfl ?_
          refine q_goto (pc := 43) (tgt := 47) dX12_weakest_43 (by decide) ?_
          refine q_istore_n (pc := 47) (ls' := [some (.ref 25), some (.int x1), some (.int c3), some (.int c3)]) dX12_weakest_47 (by decide) rfl rfl ?_
          refine q_iincW (pc := 48) (w := nI 1) (ls' := [some (.ref 25), some (.int x1), some (.int c3), some (.int (c3 + nI 1))]) dX12_weakest_48 rfl (by decide) (by decide) rfl rfl ?_
          refine q_goto (pc := 51) (tgt := 4) dX12_weakest_51 (by decide) ?_
          exact l_X12_weakest_L4 x1 M J n c3 (c3 + nI 1) res h hk
def f_X12_weakest (a1 : Int32) (M : qM) : Option Int32 :=
  (f_X12_weakest_L4 a1 M qF (-1 : Int32) (nI 0)).bind fun e12 => some (e12.1)
set_option maxRecDepth 20000 in
set_option maxHeartbeats 4000000 in
theorem a_X12_weakest {G : qG} {a1 : Int32} {M : qM} {J : qJ} {r : Int32} (h : f_X12_weakest a1 M = some (r)) : QM G 3 0 0 YX12_weakest [.ref 25, .int a1] SH M J (some (.int r), SH, M, J) := by
  refine ⟨Nat.le_of_ble_eq_true rfl, Or.inl rfl, ?_⟩
  show QW G (qrm 3 0 0) YX12_weakest 0 0 0 [some (.ref 25), some (.int a1), none, none] [] SH M J _
  unfold f_X12_weakest at h
  refine q_iconst (pc := 0) (v := (-1 : Int32)) dX12_weakest_0 (by decide) ?_
  refine q_istore_n (pc := 1) (ls' := [some (.ref 25), some (.int a1), some (.int (-1 : Int32)), none]) dX12_weakest_1 (by decide) rfl rfl ?_
  refine q_iconst (pc := 2) (v := nI 0) dX12_weakest_2 (by decide) ?_
  refine q_istore_n (pc := 3) (ls' := [some (.ref 25), some (.int a1), some (.int (-1 : Int32)), some (.int (nI 0))]) dX12_weakest_3 (by decide) rfl rfl ?_
  obtain ⟨⟨e12_2, e12_3⟩, h13, h⟩ := Option.bind_eq_some_iff.mp h
  try dsimp only at h
  refine l_X12_weakest_L4 a1 M J qF (-1 : Int32) (nI 0) _ h13 (fun x hx => ?_)
  subst hx
  show QW G (qrm 3 0 0) YX12_weakest 0 0 54 [none, none, some (.int e12_2), none] [] SH M J _
  refine q_iload_n (pc := 54) dX12_weakest_54 rfl ?_
  obtain rfl := Option.some.inj h
  exact q_iret (pc := 55) dX12_weakest_55 rfl rfl rfl
def f_X12_couple (a1 : Int32) (a2 : Int32) (M : qM) : Option Int32 :=
  (f_X12_isCouple a1 M).bind fun b3 => if b3 = true then if a2 = nI 0 then (qrd M 28 163 (((nI 19) + ((nI 5) * a1)) + a2)).bind fun v6 => some (v6)
    else if a2 = nI 1 then (qrd M 28 163 (((nI 19) + ((nI 5) * a1)) + a2)).bind fun v9 => some (v9)
    else if a2 = nI 2 then (qrd M 28 163 (((nI 19) + ((nI 5) * a1)) + a2)).bind fun v12 => some (v12)
    else if a2 = nI 3 then (qrd M 28 163 (((nI 19) + ((nI 5) * a1)) + a2)).bind fun v15 => some (v15)
    else if a2 = nI 4 then (qrd M 28 163 (((nI 19) + ((nI 5) * a1)) + a2)).bind fun v18 => some (v18)
    else if a2 = nI 5 then (qrd M 28 163 ((nI 1) + a1)).bind fun v21 => some (v21)
    else if a2 = nI 6 then (qrd M 28 163 ((nI 7) + a1)).bind fun v24 => some (v24)
    else if a2 = nI 7 then (qrd M 28 163 ((nI 13) + a1)).bind fun v27 => some (v27)
    else if a2 = nI 8 then (f_X12_can a1 M).bind fun r32 => some (r32)
    else if a2 = nI 9 then (f_X12_weakest a1 M).bind fun r36 => some (r36)
    else some ((-1000000002 : Int32))
    else some ((-1000000001 : Int32))
set_option maxRecDepth 20000 in
set_option maxHeartbeats 4000000 in
theorem a_X12_couple {G : qG} {a1 : Int32} {a2 : Int32} {M : qM} {J : qJ} {r : Int32} (h : f_X12_couple a1 a2 M = some (r)) : QM G 6 0 0 YX12_couple [.ref 25, .int a1, .int a2] SH M J (some (.int r), SH, M, J) := by
  refine ⟨Nat.le_of_ble_eq_true rfl, Or.inl rfl, ?_⟩
  show QW G (qrm 6 0 0) YX12_couple 0 0 0 [some (.ref 25), some (.int a1), some (.int a2)] [] SH M J _
  unfold f_X12_couple at h
  refine q_aload_n (pc := 0) dX12_couple_0 rfl ?_
  refine q_iload_n (pc := 1) dX12_couple_1 rfl ?_
  obtain ⟨b3, h2, h⟩ := Option.bind_eq_some_iff.mp h
  refine q_callv (pc := 2) (st := []) (a_X12_isCouple h2) okX12_isCouple rfl dX12_couple_2 lk_X12_173 sh_25 cl_11 rfl (by decide) (by decide) (Nat.le_of_ble_eq_true rfl) ⟨Nat.le_of_ble_eq_true rfl, Nat.le_of_ble_eq_true rfl⟩ rfl ?_
  show QW G (qrm 6 0 0) YX12_couple 0 0 5 [some (.ref 25), some (.int a1), some (.int a2)] [.int (qb b3)] SH M J _
  by_cases k4 : b3 = true
  · rw [if_pos k4] at h
    refine q_if_ne_t (pc := 5) (tgt := 11) dX12_couple_5 (by decide) (qb_t k4) ?_
    refine q_iload_n (pc := 11) dX12_couple_11 rfl ?_
    by_cases k5 : a2 = nI 0
    · rw [if_pos k5] at h
      refine q_tabIn (pc := 12) (tgt := 68) (off := 56) (j := 0) dX12_couple_12 (by rw [k5]; rfl) (by decide) (by decide) rfl (by decide) ?_
      refine q_aload_n (pc := 68) dX12_couple_68 rfl ?_
      refine q_getf (pc := 69) (f := 2) (v := .ref 28) dX12_couple_69 sh_25 cl_11 inX12 rfl (by decide) lk_X12_16 rfl ?_
      refine q_bipush (pc := 72) (v := nI 19) dX12_couple_72 (by decide) ?_
      refine q_iconst (pc := 74) (v := nI 5) dX12_couple_74 (by decide) ?_
      refine q_iload_n (pc := 75) dX12_couple_75 rfl ?_
      refine q_imul (pc := 76) dX12_couple_76 ?_
      refine q_iadd (pc := 77) dX12_couple_77 ?_
      refine q_iload_n (pc := 78) dX12_couple_78 rfl ?_
      refine q_iadd (pc := 79) dX12_couple_79 ?_
      obtain ⟨v6, h7, h⟩ := Option.bind_eq_some_iff.mp h
      refine q_iald (pc := 80) dX12_couple_80 sh_28 h7 ?_
      obtain rfl := Option.some.inj h
      exact q_iret (pc := 81) dX12_couple_81 rfl rfl rfl
    · rw [if_neg k5] at h
      by_cases k8 : a2 = nI 1
      · rw [if_pos k8] at h
        refine q_tabIn (pc := 12) (tgt := 68) (off := 56) (j := 1) dX12_couple_12 (by rw [k8]; rfl) (by decide) (by decide) rfl (by decide) ?_
        refine q_aload_n (pc := 68) dX12_couple_68 rfl ?_
        refine q_getf (pc := 69) (f := 2) (v := .ref 28) dX12_couple_69 sh_25 cl_11 inX12 rfl (by decide) lk_X12_16 rfl ?_
        refine q_bipush (pc := 72) (v := nI 19) dX12_couple_72 (by decide) ?_
        refine q_iconst (pc := 74) (v := nI 5) dX12_couple_74 (by decide) ?_
        refine q_iload_n (pc := 75) dX12_couple_75 rfl ?_
        refine q_imul (pc := 76) dX12_couple_76 ?_
        refine q_iadd (pc := 77) dX12_couple_77 ?_
        refine q_iload_n (pc := 78) dX12_couple_78 rfl ?_
        refine q_iadd (pc := 79) dX12_couple_79 ?_
        obtain ⟨v9, h10, h⟩ := Option.bind_eq_some_iff.mp h
        refine q_iald (pc := 80) dX12_couple_80 sh_28 h10 ?_
        obtain rfl := Option.some.inj h
        exact q_iret (pc := 81) dX12_couple_81 rfl rfl rfl
      · rw [if_neg k8] at h
        by_cases k11 : a2 = nI 2
        · rw [if_pos k11] at h
          refine q_tabIn (pc := 12) (tgt := 68) (off := 56) (j := 2) dX12_couple_12 (by rw [k11]; rfl) (by decide) (by decide) rfl (by decide) ?_
          refine q_aload_n (pc := 68) dX12_couple_68 rfl ?_
          refine q_getf (pc := 69) (f := 2) (v := .ref 28) dX12_couple_69 sh_25 cl_11 inX12 rfl (by decide) lk_X12_16 rfl ?_
          refine q_bipush (pc := 72) (v := nI 19) dX12_couple_72 (by decide) ?_
          refine q_iconst (pc := 74) (v := nI 5) dX12_couple_74 (by decide) ?_
          refine q_iload_n (pc := 75) dX12_couple_75 rfl ?_
          refine q_imul (pc := 76) dX12_couple_76 ?_
          refine q_iadd (pc := 77) dX12_couple_77 ?_
          refine q_iload_n (pc := 78) dX12_couple_78 rfl ?_
          refine q_iadd (pc := 79) dX12_couple_79 ?_
          obtain ⟨v12, h13, h⟩ := Option.bind_eq_some_iff.mp h
          refine q_iald (pc := 80) dX12_couple_80 sh_28 h13 ?_
          obtain rfl := Option.some.inj h
          exact q_iret (pc := 81) dX12_couple_81 rfl rfl rfl
        · rw [if_neg k11] at h
          by_cases k14 : a2 = nI 3
          · rw [if_pos k14] at h
            refine q_tabIn (pc := 12) (tgt := 68) (off := 56) (j := 3) dX12_couple_12 (by rw [k14]; rfl) (by decide) (by decide) rfl (by decide) ?_
            refine q_aload_n (pc := 68) dX12_couple_68 rfl ?_
            refine q_getf (pc := 69) (f := 2) (v := .ref 28) dX12_couple_69 sh_25 cl_11 inX12 rfl (by decide) lk_X12_16 rfl ?_
            refine q_bipush (pc := 72) (v := nI 19) dX12_couple_72 (by decide) ?_
            refine q_iconst (pc := 74) (v := nI 5) dX12_couple_74 (by decide) ?_
            refine q_iload_n (pc := 75) dX12_couple_75 rfl ?_
            refine q_imul (pc := 76) dX12_couple_76 ?_
            refine q_iadd (pc := 77) dX12_couple_77 ?_
            refine q_iload_n (pc := 78) dX12_couple_78 rfl ?_
            refine q_iadd (pc := 79) dX12_couple_79 ?_
            obtain ⟨v15, h16, h⟩ := Option.bind_eq_some_iff.mp h
            refine q_iald (pc := 80) dX12_couple_80 sh_28 h16 ?_
            obtain rfl := Option.some.inj h
            exact q_iret (pc := 81) dX12_couple_81 rfl rfl rfl
          · rw [if_neg k14] at h
            by_cases k17 : a2 = nI 4
            · rw [if_pos k17] at h
              refine q_tabIn (pc := 12) (tgt := 68) (off := 56) (j := 4) dX12_couple_12 (by rw [k17]; rfl) (by decide) (by decide) rfl (by decide) ?_
              refine q_aload_n (pc := 68) dX12_couple_68 rfl ?_
              refine q_getf (pc := 69) (f := 2) (v := .ref 28) dX12_couple_69 sh_25 cl_11 inX12 rfl (by decide) lk_X12_16 rfl ?_
              refine q_bipush (pc := 72) (v := nI 19) dX12_couple_72 (by decide) ?_
              refine q_iconst (pc := 74) (v := nI 5) dX12_couple_74 (by decide) ?_
              refine q_iload_n (pc := 75) dX12_couple_75 rfl ?_
              refine q_imul (pc := 76) dX12_couple_76 ?_
              refine q_iadd (pc := 77) dX12_couple_77 ?_
              refine q_iload_n (pc := 78) dX12_couple_78 rfl ?_
              refine q_iadd (pc := 79) dX12_couple_79 ?_
              obtain ⟨v18, h19, h⟩ := Option.bind_eq_some_iff.mp h
              refine q_iald (pc := 80) dX12_couple_80 sh_28 h19 ?_
              obtain rfl := Option.some.inj h
              exact q_iret (pc := 81) dX12_couple_81 rfl rfl rfl
            · rw [if_neg k17] at h
              by_cases k20 : a2 = nI 5
              · rw [if_pos k20] at h
                refine q_tabIn (pc := 12) (tgt := 82) (off := 70) (j := 5) dX12_couple_12 (by rw [k20]; rfl) (by decide) (by decide) rfl (by decide) ?_
                refine q_aload_n (pc := 82) dX12_couple_82 rfl ?_
                refine q_getf (pc := 83) (f := 2) (v := .ref 28) dX12_couple_83 sh_25 cl_11 inX12 rfl (by decide) lk_X12_16 rfl ?_
                refine q_iconst (pc := 86) (v := nI 1) dX12_couple_86 (by decide) ?_
                refine q_iload_n (pc := 87) dX12_couple_87 rfl ?_
                refine q_iadd (pc := 88) dX12_couple_88 ?_
                obtain ⟨v21, h22, h⟩ := Option.bind_eq_some_iff.mp h
                refine q_iald (pc := 89) dX12_couple_89 sh_28 h22 ?_
                obtain rfl := Option.some.inj h
                exact q_iret (pc := 90) dX12_couple_90 rfl rfl rfl
              · rw [if_neg k20] at h
                by_cases k23 : a2 = nI 6
                · rw [if_pos k23] at h
                  refine q_tabIn (pc := 12) (tgt := 91) (off := 79) (j := 6) dX12_couple_12 (by rw [k23]; rfl) (by decide) (by decide) rfl (by decide) ?_
                  refine q_aload_n (pc := 91) dX12_couple_91 rfl ?_
                  refine q_getf (pc := 92) (f := 2) (v := .ref 28) dX12_couple_92 sh_25 cl_11 inX12 rfl (by decide) lk_X12_16 rfl ?_
                  refine q_bipush (pc := 95) (v := nI 7) dX12_couple_95 (by decide) ?_
                  refine q_iload_n (pc := 97) dX12_couple_97 rfl ?_
                  refine q_iadd (pc := 98) dX12_couple_98 ?_
                  obtain ⟨v24, h25, h⟩ := Option.bind_eq_some_iff.mp h
                  refine q_iald (pc := 99) dX12_couple_99 sh_28 h25 ?_
                  obtain rfl := Option.some.inj h
                  exact q_iret (pc := 100) dX12_couple_100 rfl rfl rfl
                · rw [if_neg k23] at h
                  by_cases k26 : a2 = nI 7
                  · rw [if_pos k26] at h
                    refine q_tabIn (pc := 12) (tgt := 101) (off := 89) (j := 7) dX12_couple_12 (by rw [k26]; rfl) (by decide) (by decide) rfl (by decide) ?_
                    refine q_aload_n (pc := 101) dX12_couple_101 rfl ?_
                    refine q_getf (pc := 102) (f := 2) (v := .ref 28) dX12_couple_102 sh_25 cl_11 inX12 rfl (by decide) lk_X12_16 rfl ?_
                    refine q_bipush (pc := 105) (v := nI 13) dX12_couple_105 (by decide) ?_
                    refine q_iload_n (pc := 107) dX12_couple_107 rfl ?_
                    refine q_iadd (pc := 108) dX12_couple_108 ?_
                    obtain ⟨v27, h28, h⟩ := Option.bind_eq_some_iff.mp h
                    refine q_iald (pc := 109) dX12_couple_109 sh_28 h28 ?_
                    obtain rfl := Option.some.inj h
                    exact q_iret (pc := 110) dX12_couple_110 rfl rfl rfl
                  · rw [if_neg k26] at h
                    by_cases k29 : a2 = nI 8
                    · rw [if_pos k29] at h
                      refine q_tabIn (pc := 12) (tgt := 111) (off := 99) (j := 8) dX12_couple_12 (by rw [k29]; rfl) (by decide) (by decide) rfl (by decide) ?_
                      refine q_aload_n (pc := 111) dX12_couple_111 rfl ?_
                      refine q_iload_n (pc := 112) dX12_couple_112 rfl ?_
                      obtain ⟨r32, h31, h⟩ := Option.bind_eq_some_iff.mp h
                      refine q_callv (pc := 113) (st := []) (a_X12_can h31) okX12_can rfl dX12_couple_113 lk_X12_158 sh_25 cl_11 rfl (by decide) (by decide) (Nat.le_of_ble_eq_true rfl) ⟨Nat.le_of_ble_eq_true rfl, Nat.le_of_ble_eq_true rfl⟩ rfl ?_
                      show QW G (qrm 6 0 0) YX12_couple 0 0 116 [some (.ref 25), some (.int a1), some (.int a2)] [.int r32] SH M J _
                      obtain rfl := Option.some.inj h
                      exact q_iret (pc := 116) dX12_couple_116 rfl rfl rfl
                    · rw [if_neg k29] at h
                      by_cases k33 : a2 = nI 9
                      · rw [if_pos k33] at h
                        refine q_tabIn (pc := 12) (tgt := 117) (off := 105) (j := 9) dX12_couple_12 (by rw [k33]; rfl) (by decide) (by decide) rfl (by decide) ?_
                        refine q_aload_n (pc := 117) dX12_couple_117 rfl ?_
                        refine q_iload_n (pc := 118) dX12_couple_118 rfl ?_
                        obtain ⟨r36, h35, h⟩ := Option.bind_eq_some_iff.mp h
                        refine q_callv (pc := 119) (st := []) (a_X12_weakest h35) okX12_weakest rfl dX12_couple_119 lk_X12_177 sh_25 cl_11 rfl (by decide) (by decide) (Nat.le_of_ble_eq_true rfl) ⟨Nat.le_of_ble_eq_true rfl, Nat.le_of_ble_eq_true rfl⟩ rfl ?_
                        show QW G (qrm 6 0 0) YX12_couple 0 0 122 [some (.ref 25), some (.int a1), some (.int a2)] [.int r36] SH M J _
                        obtain rfl := Option.some.inj h
                        exact q_iret (pc := 122) dX12_couple_122 rfl rfl rfl
                      · rw [if_neg k33] at h
                        have hsw : a2.toInt < (0) ∨ (9) < a2.toInt := by
                          have := lv_neT k5 (show (nI 0).toInt = 0 from rfl)
                          have := lv_neT k8 (show (nI 1).toInt = 1 from rfl)
                          have := lv_neT k11 (show (nI 2).toInt = 2 from rfl)
                          have := lv_neT k14 (show (nI 3).toInt = 3 from rfl)
                          have := lv_neT k17 (show (nI 4).toInt = 4 from rfl)
                          have := lv_neT k20 (show (nI 5).toInt = 5 from rfl)
                          have := lv_neT k23 (show (nI 6).toInt = 6 from rfl)
                          have := lv_neT k26 (show (nI 7).toInt = 7 from rfl)
                          have := lv_neT k29 (show (nI 8).toInt = 8 from rfl)
                          have := lv_neT k33 (show (nI 9).toInt = 9 from rfl)
                          omega
                        refine q_tabOut (pc := 12) (tgt := 123) dX12_couple_12 hsw (by decide) ?_
                        refine q_ldc (pc := 123) (v := (-1000000002 : Int32)) dX12_couple_123 lk_X12_77 ?_
                        obtain rfl := Option.some.inj h
                        exact q_iret (pc := 125) dX12_couple_125 rfl rfl rfl
  · rw [if_neg k4] at h
    refine q_if_ne_f (pc := 5) (tgt := 11) dX12_couple_5 (by decide) (qb_f k4) ?_
    refine q_ldc (pc := 8) (v := (-1000000001 : Int32)) dX12_couple_8 lk_X12_176 ?_
    obtain rfl := Option.some.inj h
    exact q_iret (pc := 10) dX12_couple_10 rfl rfl rfl
def f_X12_isObjector (a1 : Int32) (M : qM) : Option Bool :=
  (qrd M 26 57 (nI 2)).bind fun v1 => (f_X12_in a1.toInt64 (lN 0) ((v1 - (nI 1)).toInt64) M).bind fun b5 => some (b5)
set_option maxRecDepth 20000 in
set_option maxHeartbeats 4000000 in
theorem a_X12_isObjector {G : qG} {a1 : Int32} {M : qM} {J : qJ} {r : Bool} (h : f_X12_isObjector a1 M = some (r)) : QM G 1 0 0 YX12_isObjector [.ref 25, .int a1] SH M J (some (.int (qb r)), SH, M, J) := by
  refine ⟨Nat.le_of_ble_eq_true rfl, Or.inr ⟨rfl, _, rfl⟩, ?_⟩
  show QW G (qrm 1 0 0) YX12_isObjector 0 0 0 [some (.ref 25), some (.int a1)] [] SH M J _
  unfold f_X12_isObjector at h
  refine q_iload_n (pc := 0) dX12_isObjector_0 rfl ?_
  refine q_i2l (pc := 1) dX12_isObjector_1 ?_
  refine q_lconst (pc := 2) (v := lN 0) dX12_isObjector_2 rfl ?_
  refine q_aload_n (pc := 3) dX12_isObjector_3 rfl ?_
  refine q_getf (pc := 4) (f := 0) (v := .ref 26) dX12_isObjector_4 sh_25 cl_11 inX12 rfl (by decide) lk_X12_7 rfl ?_
  refine q_iconst (pc := 7) (v := nI 2) dX12_isObjector_7 (by decide) ?_
  obtain ⟨v1, h2, h⟩ := Option.bind_eq_some_iff.mp h
  refine q_iald (pc := 8) dX12_isObjector_8 sh_26 h2 ?_
  refine q_iconst (pc := 9) (v := nI 1) dX12_isObjector_9 (by decide) ?_
  refine q_isub (pc := 10) dX12_isObjector_10 ?_
  refine q_i2l (pc := 11) dX12_isObjector_11 ?_
  obtain ⟨b5, h4, h⟩ := Option.bind_eq_some_iff.mp h
  refine q_calls (pc := 12) (st := []) (a_X12_in h4) okX12_in rfl dX12_isObjector_12 lk_X12_58 rfl (by decide) (by decide) (Nat.le_of_ble_eq_true rfl) ⟨Nat.le_of_ble_eq_true rfl, Nat.le_of_ble_eq_true rfl⟩ rfl ?_
  show QW G (qrm 1 0 0) YX12_isObjector 0 0 15 [some (.ref 25), some (.int a1)] [.int (qb b5)] SH M J _
  obtain rfl := Option.some.inj h
  exact q_iret (pc := 15) dX12_isObjector_15 rfl rfl rfl
def f_X12_objector (a1 : Int32) (a2 : Int32) (M : qM) : Option Int32 :=
  (f_X12_isObjector a1 M).bind fun b3 => if b3 = true then if a2 = nI 0 then (qrd M 26 57 ((nI 39) + a1)).bind fun v6 => some (v6)
    else if a2 = nI 1 then (qrd M 28 163 ((nI 49) + a1)).bind fun v9 => some (v9)
    else if a2 = nI 2 then (qrd M 28 163 ((nI 55) + a1)).bind fun v12 => some (v12)
    else if a2 = nI 3 then (qrd M 28 163 (nI 61)).bind fun v15 => some ((v15 >>> (a1 &&& 31)) &&& (nI 1))
    else some ((-1000000002 : Int32))
    else some ((-1000000001 : Int32))
set_option maxRecDepth 20000 in
set_option maxHeartbeats 4000000 in
theorem a_X12_objector {G : qG} {a1 : Int32} {a2 : Int32} {M : qM} {J : qJ} {r : Int32} (h : f_X12_objector a1 a2 M = some (r)) : QM G 2 0 0 YX12_objector [.ref 25, .int a1, .int a2] SH M J (some (.int r), SH, M, J) := by
  refine ⟨Nat.le_of_ble_eq_true rfl, Or.inl rfl, ?_⟩
  show QW G (qrm 2 0 0) YX12_objector 0 0 0 [some (.ref 25), some (.int a1), some (.int a2)] [] SH M J _
  unfold f_X12_objector at h
  refine q_aload_n (pc := 0) dX12_objector_0 rfl ?_
  refine q_iload_n (pc := 1) dX12_objector_1 rfl ?_
  obtain ⟨b3, h2, h⟩ := Option.bind_eq_some_iff.mp h
  refine q_callv (pc := 2) (st := []) (a_X12_isObjector h2) okX12_isObjector rfl dX12_objector_2 lk_X12_180 sh_25 cl_11 rfl (by decide) (by decide) (Nat.le_of_ble_eq_true rfl) ⟨Nat.le_of_ble_eq_true rfl, Nat.le_of_ble_eq_true rfl⟩ rfl ?_
  show QW G (qrm 2 0 0) YX12_objector 0 0 5 [some (.ref 25), some (.int a1), some (.int a2)] [.int (qb b3)] SH M J _
  by_cases k4 : b3 = true
  · rw [if_pos k4] at h
    refine q_if_ne_t (pc := 5) (tgt := 11) dX12_objector_5 (by decide) (qb_t k4) ?_
    refine q_iload_n (pc := 11) dX12_objector_11 rfl ?_
    by_cases k5 : a2 = nI 0
    · rw [if_pos k5] at h
      refine q_tabIn (pc := 12) (tgt := 44) (off := 32) (j := 0) dX12_objector_12 (by rw [k5]; rfl) (by decide) (by decide) rfl (by decide) ?_
      refine q_aload_n (pc := 44) dX12_objector_44 rfl ?_
      refine q_getf (pc := 45) (f := 0) (v := .ref 26) dX12_objector_45 sh_25 cl_11 inX12 rfl (by decide) lk_X12_7 rfl ?_
      refine q_bipush (pc := 48) (v := nI 39) dX12_objector_48 (by decide) ?_
      refine q_iload_n (pc := 50) dX12_objector_50 rfl ?_
      refine q_iadd (pc := 51) dX12_objector_51 ?_
      obtain ⟨v6, h7, h⟩ := Option.bind_eq_some_iff.mp h
      refine q_iald (pc := 52) dX12_objector_52 sh_26 h7 ?_
      obtain rfl := Option.some.inj h
      exact q_iret (pc := 53) dX12_objector_53 rfl rfl rfl
    · rw [if_neg k5] at h
      by_cases k8 : a2 = nI 1
      · rw [if_pos k8] at h
        refine q_tabIn (pc := 12) (tgt := 54) (off := 42) (j := 1) dX12_objector_12 (by rw [k8]; rfl) (by decide) (by decide) rfl (by decide) ?_
        refine q_aload_n (pc := 54) dX12_objector_54 rfl ?_
        refine q_getf (pc := 55) (f := 2) (v := .ref 28) dX12_objector_55 sh_25 cl_11 inX12 rfl (by decide) lk_X12_16 rfl ?_
        refine q_bipush (pc := 58) (v := nI 49) dX12_objector_58 (by decide) ?_
        refine q_iload_n (pc := 60) dX12_objector_60 rfl ?_
        refine q_iadd (pc := 61) dX12_objector_61 ?_
        obtain ⟨v9, h10, h⟩ := Option.bind_eq_some_iff.mp h
        refine q_iald (pc := 62) dX12_objector_62 sh_28 h10 ?_
        obtain rfl := Option.some.inj h
        exact q_iret (pc := 63) dX12_objector_63 rfl rfl rfl
      · rw [if_neg k8] at h
        by_cases k11 : a2 = nI 2
        · rw [if_pos k11] at h
          refine q_tabIn (pc := 12) (tgt := 64) (off := 52) (j := 2) dX12_objector_12 (by rw [k11]; rfl) (by decide) (by decide) rfl (by decide) ?_
          refine q_aload_n (pc := 64) dX12_objector_64 rfl ?_
          refine q_getf (pc := 65) (f := 2) (v := .ref 28) dX12_objector_65 sh_25 cl_11 inX12 rfl (by decide) lk_X12_16 rfl ?_
          refine q_bipush (pc := 68) (v := nI 55) dX12_objector_68 (by decide) ?_
          refine q_iload_n (pc := 70) dX12_objector_70 rfl ?_
          refine q_iadd (pc := 71) dX12_objector_71 ?_
          obtain ⟨v12, h13, h⟩ := Option.bind_eq_some_iff.mp h
          refine q_iald (pc := 72) dX12_objector_72 sh_28 h13 ?_
          obtain rfl := Option.some.inj h
          exact q_iret (pc := 73) dX12_objector_73 rfl rfl rfl
        · rw [if_neg k11] at h
          by_cases k14 : a2 = nI 3
          · rw [if_pos k14] at h
            refine q_tabIn (pc := 12) (tgt := 74) (off := 62) (j := 3) dX12_objector_12 (by rw [k14]; rfl) (by decide) (by decide) rfl (by decide) ?_
            refine q_aload_n (pc := 74) dX12_objector_74 rfl ?_
            refine q_getf (pc := 75) (f := 2) (v := .ref 28) dX12_objector_75 sh_25 cl_11 inX12 rfl (by decide) lk_X12_16 rfl ?_
            refine q_bipush (pc := 78) (v := nI 61) dX12_objector_78 (by decide) ?_
            obtain ⟨v15, h16, h⟩ := Option.bind_eq_some_iff.mp h
            refine q_iald (pc := 80) dX12_objector_80 sh_28 h16 ?_
            refine q_iload_n (pc := 81) dX12_objector_81 rfl ?_
            refine q_ishr (pc := 82) dX12_objector_82 ?_
            refine q_iconst (pc := 83) (v := nI 1) dX12_objector_83 (by decide) ?_
            refine q_iand (pc := 84) dX12_objector_84 ?_
            obtain rfl := Option.some.inj h
            exact q_iret (pc := 85) dX12_objector_85 rfl rfl rfl
          · rw [if_neg k14] at h
            have hsw : a2.toInt < (0) ∨ (3) < a2.toInt := by
              have := lv_neT k5 (show (nI 0).toInt = 0 from rfl)
              have := lv_neT k8 (show (nI 1).toInt = 1 from rfl)
              have := lv_neT k11 (show (nI 2).toInt = 2 from rfl)
              have := lv_neT k14 (show (nI 3).toInt = 3 from rfl)
              omega
            refine q_tabOut (pc := 12) (tgt := 86) dX12_objector_12 hsw (by decide) ?_
            refine q_ldc (pc := 86) (v := (-1000000002 : Int32)) dX12_objector_86 lk_X12_77 ?_
            obtain rfl := Option.some.inj h
            exact q_iret (pc := 88) dX12_objector_88 rfl rfl rfl
  · rw [if_neg k4] at h
    refine q_if_ne_f (pc := 5) (tgt := 11) dX12_objector_5 (by decide) (qb_f k4) ?_
    refine q_ldc (pc := 8) (v := (-1000000001 : Int32)) dX12_objector_8 lk_X12_176 ?_
    obtain rfl := Option.some.inj h
    exact q_iret (pc := 10) dX12_objector_10 rfl rfl rfl
def f_X12_box (a1 : Int32) (a2 : Int32) (M : qM) : Option Int32 :=
  (f_X12_in a2.toInt64 (lN 0) (lN 4) M).bind fun b3 => if b3 = true then (qrd M 28 163 (nI 62)).bind fun v5 => (f_X12_in a1.toInt64 (lN 0) ((v5 - (nI 1)).toInt64) M).bind fun b9 => if b9 = true then (qrd M 28 163 (nI 62)).bind fun v11 => (qrd M 28 163 (((nI 63) + ((nI 5) * ((v11 - (nI 1)) - a1))) + a2)).bind fun v13 => some (v13)
    else some ((-1 : Int32))
    else some ((-1000000002 : Int32))
set_option maxRecDepth 20000 in
set_option maxHeartbeats 4000000 in
theorem a_X12_box {G : qG} {a1 : Int32} {a2 : Int32} {M : qM} {J : qJ} {r : Int32} (h : f_X12_box a1 a2 M = some (r)) : QM G 1 0 0 YX12_box [.ref 25, .int a1, .int a2] SH M J (some (.int r), SH, M, J) := by
  refine ⟨Nat.le_of_ble_eq_true rfl, Or.inl rfl, ?_⟩
  show QW G (qrm 1 0 0) YX12_box 0 0 0 [some (.ref 25), some (.int a1), some (.int a2)] [] SH M J _
  unfold f_X12_box at h
  refine q_iload_n (pc := 0) dX12_box_0 rfl ?_
  refine q_i2l (pc := 1) dX12_box_1 ?_
  refine q_lconst (pc := 2) (v := lN 0) dX12_box_2 rfl ?_
  refine q_ldc2 (pc := 3) (v := lN 4) dX12_box_3 lk_X12_183 ?_
  obtain ⟨b3, h2, h⟩ := Option.bind_eq_some_iff.mp h
  refine q_calls (pc := 6) (st := []) (a_X12_in h2) okX12_in rfl dX12_box_6 lk_X12_58 rfl (by decide) (by decide) (Nat.le_of_ble_eq_true rfl) ⟨Nat.le_of_ble_eq_true rfl, Nat.le_of_ble_eq_true rfl⟩ rfl ?_
  show QW G (qrm 1 0 0) YX12_box 0 0 9 [some (.ref 25), some (.int a1), some (.int a2)] [.int (qb b3)] SH M J _
  by_cases k4 : b3 = true
  · rw [if_pos k4] at h
    refine q_if_ne_t (pc := 9) (tgt := 15) dX12_box_9 (by decide) (qb_t k4) ?_
    refine q_iload_n (pc := 15) dX12_box_15 rfl ?_
    refine q_i2l (pc := 16) dX12_box_16 ?_
    refine q_lconst (pc := 17) (v := lN 0) dX12_box_17 rfl ?_
    refine q_aload_n (pc := 18) dX12_box_18 rfl ?_
    refine q_getf (pc := 19) (f := 2) (v := .ref 28) dX12_box_19 sh_25 cl_11 inX12 rfl (by decide) lk_X12_16 rfl ?_
    refine q_bipush (pc := 22) (v := nI 62) dX12_box_22 (by decide) ?_
    obtain ⟨v5, h6, h⟩ := Option.bind_eq_some_iff.mp h
    refine q_iald (pc := 24) dX12_box_24 sh_28 h6 ?_
    refine q_iconst (pc := 25) (v := nI 1) dX12_box_25 (by decide) ?_
    refine q_isub (pc := 26) dX12_box_26 ?_
    refine q_i2l (pc := 27) dX12_box_27 ?_
    obtain ⟨b9, h8, h⟩ := Option.bind_eq_some_iff.mp h
    refine q_calls (pc := 28) (st := []) (a_X12_in h8) okX12_in rfl dX12_box_28 lk_X12_58 rfl (by decide) (by decide) (Nat.le_of_ble_eq_true rfl) ⟨Nat.le_of_ble_eq_true rfl, Nat.le_of_ble_eq_true rfl⟩ rfl ?_
    show QW G (qrm 1 0 0) YX12_box 0 0 31 [some (.ref 25), some (.int a1), some (.int a2)] [.int (qb b9)] SH M J _
    by_cases k10 : b9 = true
    · rw [if_pos k10] at h
      refine q_if_eq_f (pc := 31) (tgt := 60) dX12_box_31 (by decide) (qb_t k10) ?_
      refine q_aload_n (pc := 34) dX12_box_34 rfl ?_
      refine q_getf (pc := 35) (f := 2) (v := .ref 28) dX12_box_35 sh_25 cl_11 inX12 rfl (by decide) lk_X12_16 rfl ?_
      refine q_bipush (pc := 38) (v := nI 63) dX12_box_38 (by decide) ?_
      refine q_iconst (pc := 40) (v := nI 5) dX12_box_40 (by decide) ?_
      refine q_aload_n (pc := 41) dX12_box_41 rfl ?_
      refine q_getf (pc := 42) (f := 2) (v := .ref 28) dX12_box_42 sh_25 cl_11 inX12 rfl (by decide) lk_X12_16 rfl ?_
      refine q_bipush (pc := 45) (v := nI 62) dX12_box_45 (by decide) ?_
      obtain ⟨v11, h12, h⟩ := Option.bind_eq_some_iff.mp h
      refine q_iald (pc := 47) dX12_box_47 sh_28 h12 ?_
      refine q_iconst (pc := 48) (v := nI 1) dX12_box_48 (by decide) ?_
      refine q_isub (pc := 49) dX12_box_49 ?_
      refine q_iload_n (pc := 50) dX12_box_50 rfl ?_
      refine q_isub (pc := 51) dX12_box_51 ?_
      refine q_imul (pc := 52) dX12_box_52 ?_
      refine q_iadd (pc := 53) dX12_box_53 ?_
      refine q_iload_n (pc := 54) dX12_box_54 rfl ?_
      refine q_iadd (pc := 55) dX12_box_55 ?_
      obtain ⟨v13, h14, h⟩ := Option.bind_eq_some_iff.mp h
      refine q_iald (pc := 56) dX12_box_56 sh_28 h14 ?_
      refine q_goto (pc := 57) (tgt := 61) dX12_box_57 (by decide) ?_
      obtain rfl := Option.some.inj h
      exact q_iret (pc := 61) dX12_box_61 rfl rfl rfl
    · rw [if_neg k10] at h
      refine q_if_eq_t (pc := 31) (tgt := 60) dX12_box_31 (by decide) (qb_f k10) ?_
      refine q_iconst (pc := 60) (v := (-1 : Int32)) dX12_box_60 (by decide) ?_
      obtain rfl := Option.some.inj h
      exact q_iret (pc := 61) dX12_box_61 rfl rfl rfl
  · rw [if_neg k4] at h
    refine q_if_ne_f (pc := 9) (tgt := 15) dX12_box_9 (by decide) (qb_f k4) ?_
    refine q_ldc (pc := 12) (v := (-1000000002 : Int32)) dX12_box_12 lk_X12_77 ?_
    obtain rfl := Option.some.inj h
    exact q_iret (pc := 14) dX12_box_14 rfl rfl rfl
def f_X12_against (a1 : Int32) (a2 : Int32) (a3 : Int32) (M : qM) : Option Int32 :=
  (f_X12_isObjector a1 M).bind fun b3 => if b3 = true then (f_X12_isCouple a2 M).bind fun b7 => if b7 = true then (f_X12_in a3.toInt64 (lN 0) (lN 1) M).bind fun b11 => if b11 = true then if a3 = 0 then (f_X12_strengthOn_at25_28 a1 a2 M).bind fun r16 => some (r16)
    else (f_X12_reasonOn_at25_28 a1 a2 M).bind fun r19 => some (r19)
    else some ((-1000000002 : Int32))
    else some ((-1000000001 : Int32))
    else some ((-1000000001 : Int32))
set_option maxRecDepth 20000 in
set_option maxHeartbeats 4000000 in
theorem a_X12_against {G : qG} {a1 : Int32} {a2 : Int32} {a3 : Int32} {M : qM} {J : qJ} {r : Int32} (h : f_X12_against a1 a2 a3 M = some (r)) : QM G 3 0 0 YX12_against [.ref 25, .int a1, .int a2, .int a3] SH M J (some (.int r), SH, M, J) := by
  refine ⟨Nat.le_of_ble_eq_true rfl, Or.inl rfl, ?_⟩
  show QW G (qrm 3 0 0) YX12_against 0 0 0 [some (.ref 25), some (.int a1), some (.int a2), some (.int a3)] [] SH M J _
  unfold f_X12_against at h
  refine q_aload_n (pc := 0) dX12_against_0 rfl ?_
  refine q_iload_n (pc := 1) dX12_against_1 rfl ?_
  obtain ⟨b3, h2, h⟩ := Option.bind_eq_some_iff.mp h
  refine q_callv (pc := 2) (st := []) (a_X12_isObjector h2) okX12_isObjector rfl dX12_against_2 lk_X12_180 sh_25 cl_11 rfl (by decide) (by decide) (Nat.le_of_ble_eq_true rfl) ⟨Nat.le_of_ble_eq_true rfl, Nat.le_of_ble_eq_true rfl⟩ rfl ?_
  show QW G (qrm 3 0 0) YX12_against 0 0 5 [some (.ref 25), some (.int a1), some (.int a2), some (.int a3)] [.int (qb b3)] SH M J _
  by_cases k4 : b3 = true
  · rw [if_pos k4] at h
    refine q_if_eq_f (pc := 5) (tgt := 16) dX12_against_5 (by decide) (qb_t k4) ?_
    refine q_aload_n (pc := 8) dX12_against_8 rfl ?_
    refine q_iload_n (pc := 9) dX12_against_9 rfl ?_
    obtain ⟨b7, h6, h⟩ := Option.bind_eq_some_iff.mp h
    refine q_callv (pc := 10) (st := []) (a_X12_isCouple h6) okX12_isCouple rfl dX12_against_10 lk_X12_173 sh_25 cl_11 rfl (by decide) (by decide) (Nat.le_of_ble_eq_true rfl) ⟨Nat.le_of_ble_eq_true rfl, Nat.le_of_ble_eq_true rfl⟩ rfl ?_
    show QW G (qrm 3 0 0) YX12_against 0 0 13 [some (.ref 25), some (.int a1), some (.int a2), some (.int a3)] [.int (qb b7)] SH M J _
    by_cases k8 : b7 = true
    · rw [if_pos k8] at h
      refine q_if_ne_t (pc := 13) (tgt := 19) dX12_against_13 (by decide) (qb_t k8) ?_
      refine q_iload_n (pc := 19) dX12_against_19 rfl ?_
      refine q_i2l (pc := 20) dX12_against_20 ?_
      refine q_lconst (pc := 21) (v := lN 0) dX12_against_21 rfl ?_
      refine q_lconst (pc := 22) (v := lN 1) dX12_against_22 rfl ?_
      obtain ⟨b11, h10, h⟩ := Option.bind_eq_some_iff.mp h
      refine q_calls (pc := 23) (st := []) (a_X12_in h10) okX12_in rfl dX12_against_23 lk_X12_58 rfl (by decide) (by decide) (Nat.le_of_ble_eq_true rfl) ⟨Nat.le_of_ble_eq_true rfl, Nat.le_of_ble_eq_true rfl⟩ rfl ?_
      show QW G (qrm 3 0 0) YX12_against 0 0 26 [some (.ref 25), some (.int a1), some (.int a2), some (.int a3)] [.int (qb b11)] SH M J _
      by_cases k12 : b11 = true
      · rw [if_pos k12] at h
        refine q_if_ne_t (pc := 26) (tgt := 32) dX12_against_26 (by decide) (qb_t k12) ?_
        refine q_iload_n (pc := 32) dX12_against_32 rfl ?_
        by_cases k13 : a3 = 0
        · rw [if_pos k13] at h
          refine q_if_ne_f (pc := 33) (tgt := 49) dX12_against_33 (by decide) k13 ?_
          refine q_aload_n (pc := 36) dX12_against_36 rfl ?_
          refine q_aload_n (pc := 37) dX12_against_37 rfl ?_
          refine q_getf (pc := 38) (f := 2) (v := .ref 28) dX12_against_38 sh_25 cl_11 inX12 rfl (by decide) lk_X12_16 rfl ?_
          refine q_iload_n (pc := 41) dX12_against_41 rfl ?_
          refine q_iload_n (pc := 42) dX12_against_42 rfl ?_
          obtain ⟨r16, h15, h⟩ := Option.bind_eq_some_iff.mp h
          refine q_callv (pc := 43) (st := []) (a_X12_strengthOn_at25_28 h15) okX12_strengthOn rfl dX12_against_43 lk_X12_144 sh_25 cl_11 rfl (by decide) (by decide) (Nat.le_of_ble_eq_true rfl) ⟨Nat.le_of_ble_eq_true rfl, Nat.le_of_ble_eq_true rfl⟩ rfl ?_
          show QW G (qrm 3 0 0) YX12_against 0 0 46 [some (.ref 25), some (.int a1), some (.int a2), some (.int a3)] [.int r16] SH M J _
          refine q_goto (pc := 46) (tgt := 59) dX12_against_46 (by decide) ?_
          obtain rfl := Option.some.inj h
          exact q_iret (pc := 59) dX12_against_59 rfl rfl rfl
        · rw [if_neg k13] at h
          refine q_if_ne_t (pc := 33) (tgt := 49) dX12_against_33 (by decide) k13 ?_
          refine q_aload_n (pc := 49) dX12_against_49 rfl ?_
          refine q_aload_n (pc := 50) dX12_against_50 rfl ?_
          refine q_getf (pc := 51) (f := 2) (v := .ref 28) dX12_against_51 sh_25 cl_11 inX12 rfl (by decide) lk_X12_16 rfl ?_
          refine q_iload_n (pc := 54) dX12_against_54 rfl ?_
          refine q_iload_n (pc := 55) dX12_against_55 rfl ?_
          obtain ⟨r19, h18, h⟩ := Option.bind_eq_some_iff.mp h
          refine q_callv (pc := 56) (st := []) (a_X12_reasonOn_at25_28 h18) okX12_reasonOn rfl dX12_against_56 lk_X12_136 sh_25 cl_11 rfl (by decide) (by decide) (Nat.le_of_ble_eq_true rfl) ⟨Nat.le_of_ble_eq_true rfl, Nat.le_of_ble_eq_true rfl⟩ rfl ?_
          show QW G (qrm 3 0 0) YX12_against 0 0 59 [some (.ref 25), some (.int a1), some (.int a2), some (.int a3)] [.int r19] SH M J _
          obtain rfl := Option.some.inj h
          exact q_iret (pc := 59) dX12_against_59 rfl rfl rfl
      · rw [if_neg k12] at h
        refine q_if_ne_f (pc := 26) (tgt := 32) dX12_against_26 (by decide) (qb_f k12) ?_
        refine q_ldc (pc := 29) (v := (-1000000002 : Int32)) dX12_against_29 lk_X12_77 ?_
        obtain rfl := Option.some.inj h
        exact q_iret (pc := 31) dX12_against_31 rfl rfl rfl
    · rw [if_neg k8] at h
      refine q_if_ne_f (pc := 13) (tgt := 19) dX12_against_13 (by decide) (qb_f k8) ?_
      refine q_ldc (pc := 16) (v := (-1000000001 : Int32)) dX12_against_16 lk_X12_176 ?_
      obtain rfl := Option.some.inj h
      exact q_iret (pc := 18) dX12_against_18 rfl rfl rfl
  · rw [if_neg k4] at h
    refine q_if_eq_t (pc := 5) (tgt := 16) dX12_against_5 (by decide) (qb_f k4) ?_
    refine q_ldc (pc := 16) (v := (-1000000001 : Int32)) dX12_against_16 lk_X12_176 ?_
    obtain rfl := Option.some.inj h
    exact q_iret (pc := 18) dX12_against_18 rfl rfl rfl
def f_X12_mayStand (a1 : Int32) (a2 : Int32) (M : qM) : Option Bool :=
  (qrd M 28 163 ((nI 7) + a2)).bind fun v1 => if v1 = 0 then (qrd M 28 163 (nI 61)).bind fun v4 => (f_X12_has v4 a1 M).bind fun b8 => if b8 = true then some (false)
    else (f_X12_counts_at25_28 a1 a2 M).bind fun b12 => if b12 = true then some (true)
    else some (false)
    else some (false)
set_option maxRecDepth 20000 in
set_option maxHeartbeats 4000000 in
theorem a_X12_mayStand {G : qG} {a1 : Int32} {a2 : Int32} {M : qM} {J : qJ} {r : Bool} (h : f_X12_mayStand a1 a2 M = some (r)) : QM G 4 0 0 YX12_mayStand [.ref 25, .int a1, .int a2] SH M J (some (.int (qb r)), SH, M, J) := by
  refine ⟨Nat.le_of_ble_eq_true rfl, Or.inr ⟨rfl, _, rfl⟩, ?_⟩
  show QW G (qrm 4 0 0) YX12_mayStand 0 0 0 [some (.ref 25), some (.int a1), some (.int a2)] [] SH M J _
  unfold f_X12_mayStand at h
  refine q_aload_n (pc := 0) dX12_mayStand_0 rfl ?_
  refine q_getf (pc := 1) (f := 2) (v := .ref 28) dX12_mayStand_1 sh_25 cl_11 inX12 rfl (by decide) lk_X12_16 rfl ?_
  refine q_bipush (pc := 4) (v := nI 7) dX12_mayStand_4 (by decide) ?_
  refine q_iload_n (pc := 6) dX12_mayStand_6 rfl ?_
  refine q_iadd (pc := 7) dX12_mayStand_7 ?_
  obtain ⟨v1, h2, h⟩ := Option.bind_eq_some_iff.mp h
  refine q_iald (pc := 8) dX12_mayStand_8 sh_28 h2 ?_
  by_cases k3 : v1 = 0
  · rw [if_pos k3] at h
    refine q_if_ne_f (pc := 9) (tgt := 43) dX12_mayStand_9 (by decide) k3 ?_
    refine q_aload_n (pc := 12) dX12_mayStand_12 rfl ?_
    refine q_getf (pc := 13) (f := 2) (v := .ref 28) dX12_mayStand_13 sh_25 cl_11 inX12 rfl (by decide) lk_X12_16 rfl ?_
    refine q_bipush (pc := 16) (v := nI 61) dX12_mayStand_16 (by decide) ?_
    obtain ⟨v4, h5, h⟩ := Option.bind_eq_some_iff.mp h
    refine q_iald (pc := 18) dX12_mayStand_18 sh_28 h5 ?_
    refine q_iload_n (pc := 19) dX12_mayStand_19 rfl ?_
    obtain ⟨b8, h7, h⟩ := Option.bind_eq_some_iff.mp h
    refine q_calls (pc := 20) (st := []) (a_X12_has h7) okX12_has rfl dX12_mayStand_20 lk_X12_132 rfl (by decide) (by decide) (Nat.le_of_ble_eq_true rfl) ⟨Nat.le_of_ble_eq_true rfl, Nat.le_of_ble_eq_true rfl⟩ rfl ?_
    show QW G (qrm 4 0 0) YX12_mayStand 0 0 23 [some (.ref 25), some (.int a1), some (.int a2)] [.int (qb b8)] SH M J _
    by_cases k9 : b8 = true
    · rw [if_pos k9] at h
      refine q_if_ne_t (pc := 23) (tgt := 43) dX12_mayStand_23 (by decide) (qb_t k9) ?_
      refine q_iconst (pc := 43) (v := nI 0) dX12_mayStand_43 (by decide) ?_
      obtain rfl := Option.some.inj h
      exact q_iret (pc := 44) dX12_mayStand_44 rfl rfl rfl
    · rw [if_neg k9] at h
      refine q_if_ne_f (pc := 23) (tgt := 43) dX12_mayStand_23 (by decide) (qb_f k9) ?_
      refine q_aload_n (pc := 26) dX12_mayStand_26 rfl ?_
      refine q_aload_n (pc := 27) dX12_mayStand_27 rfl ?_
      refine q_getf (pc := 28) (f := 2) (v := .ref 28) dX12_mayStand_28 sh_25 cl_11 inX12 rfl (by decide) lk_X12_16 rfl ?_
      refine q_iload_n (pc := 31) dX12_mayStand_31 rfl ?_
      refine q_iload_n (pc := 32) dX12_mayStand_32 rfl ?_
      obtain ⟨b12, h11, h⟩ := Option.bind_eq_some_iff.mp h
      refine q_callv (pc := 33) (st := []) (a_X12_counts_at25_28 h11) okX12_counts rfl dX12_mayStand_33 lk_X12_147 sh_25 cl_11 rfl (by decide) (by decide) (Nat.le_of_ble_eq_true rfl) ⟨Nat.le_of_ble_eq_true rfl, Nat.le_of_ble_eq_true rfl⟩ rfl ?_
      show QW G (qrm 4 0 0) YX12_mayStand 0 0 36 [some (.ref 25), some (.int a1), some (.int a2)] [.int (qb b12)] SH M J _
      by_cases k13 : b12 = true
      · rw [if_pos k13] at h
        refine q_if_eq_f (pc := 36) (tgt := 43) dX12_mayStand_36 (by decide) (qb_t k13) ?_
        refine q_iconst (pc := 39) (v := nI 1) dX12_mayStand_39 (by decide) ?_
        refine q_goto (pc := 40) (tgt := 44) dX12_mayStand_40 (by decide) ?_
        obtain rfl := Option.some.inj h
        exact q_iret (pc := 44) dX12_mayStand_44 rfl rfl rfl
      · rw [if_neg k13] at h
        refine q_if_eq_t (pc := 36) (tgt := 43) dX12_mayStand_36 (by decide) (qb_f k13) ?_
        refine q_iconst (pc := 43) (v := nI 0) dX12_mayStand_43 (by decide) ?_
        obtain rfl := Option.some.inj h
        exact q_iret (pc := 44) dX12_mayStand_44 rfl rfl rfl
  · rw [if_neg k3] at h
    refine q_if_ne_t (pc := 9) (tgt := 43) dX12_mayStand_9 (by decide) k3 ?_
    refine q_iconst (pc := 43) (v := nI 0) dX12_mayStand_43 (by decide) ?_
    obtain rfl := Option.some.inj h
    exact q_iret (pc := 44) dX12_mayStand_44 rfl rfl rfl
def f_X12_copies_at28_30_L3 (x1 : Int32) (x3 : Int32) (x4 : Int32) : Nat → Int32 → qM → Option (Int32 × qM)
  | 0, _, _ => none
  | n + 1, c5, M =>
  if x4 ≤ c5 then some (c5, M)
    else (qrd M 28 163 (x1 + c5)).bind fun v2 => (qwr M 30 2608 (x3 + c5) v2).bind fun M4 => f_X12_copies_at28_30_L3 x1 x3 x4 n (c5 + nI 1) M4
set_option maxRecDepth 20000 in
set_option maxHeartbeats 4000000 in
theorem l_X12_copies_at28_30_L3 {G : qG} {ρ : qR} (x1 : Int32) (x3 : Int32) (x4 : Int32) (J : qJ) : ∀ (n : Nat) (c5 : Int32) (M : qM) (res : Int32 × qM), f_X12_copies_at28_30_L3 x1 x3 x4 n c5 M = some res → (∀ x : Int32 × qM, res = x → QW G (qrm 0 0 0) YX12_copies 0 0 28 [none, none, none, none, none, none] [] SH x.2 J ρ) → QW G (qrm 0 0 0) YX12_copies 0 0 3 [some (.ref 28), some (.int x1), some (.ref 30), some (.int x3), some (.int x4), some (.int c5)] [] SH M J ρ
  | 0, _, _, _, h, _ => by simp [f_X12_copies_at28_30_L3] at h
  | n + 1, c5, M, res, h, hk => by
    rw [f_X12_copies_at28_30_L3] at h
    refine q_iload (pc := 3) dX12_copies_3 rfl ?_
    refine q_iload (pc := 5) dX12_copies_5 rfl ?_
    by_cases k1 : x4 ≤ c5
    · rw [if_pos k1] at h
      refine q_icmp_ge_t (pc := 7) (tgt := 28) dX12_copies_7 (by decide) k1 ?_
      refine q_weak (ls' := [none, none, none, none, none, none]) trivial ?_
      obtain rfl := Option.some.inj h
      exact hk (c5, M) rfl
    · rw [if_neg k1] at h
      refine q_icmp_ge_f (pc := 7) (tgt := 28) dX12_copies_7 (by decide) k1 ?_
      refine q_aload_n (pc := 10) dX12_copies_10 rfl ?_
      refine q_iload_n (pc := 11) dX12_copies_11 rfl ?_
      refine q_iload (pc := 12) dX12_copies_12 rfl ?_
      refine q_iadd (pc := 14) dX12_copies_14 ?_
      refine q_aload_n (pc := 15) dX12_copies_15 rfl ?_
      refine q_iload_n (pc := 16) dX12_copies_16 rfl ?_
      refine q_iload (pc := 17) dX12_copies_17 rfl ?_
      refine q_iadd (pc := 19) dX12_copies_19 ?_
      obtain ⟨v2, h3, h⟩ := Option.bind_eq_some_iff.mp h
      refine q_iald (pc := 20) dX12_copies_20 sh_28 h3 ?_
      obtain ⟨M4, h5, h⟩ := Option.bind_eq_some_iff.mp h
      refine q_iast (pc := 21) dX12_copies_21 sh_30 h5 ?_
      refine q_iincW (pc := 22) (w := nI 1) (ls' := [some (.ref 28), some (.int x1), some (.ref 30), some (.int x3), some (.int x4), some (.int (c5 + nI 1))]) dX12_copies_22 rfl (by decide) (by decide) rfl rfl ?_
      refine q_goto (pc := 25) (tgt := 3) dX12_copies_25 (by decide) ?_
      exact l_X12_copies_at28_30_L3 x1 x3 x4 J n (c5 + nI 1) M4 res h hk
def f_X12_copies_at28_30 (a1 : Int32) (a3 : Int32) (a4 : Int32) (M : qM) : Option qM :=
  (f_X12_copies_at28_30_L3 a1 a3 a4 qF (nI 0) M).bind fun e6 => some (e6.2)
set_option maxRecDepth 20000 in
set_option maxHeartbeats 4000000 in
theorem a_X12_copies_at28_30 {G : qG} {a1 : Int32} {a3 : Int32} {a4 : Int32} {M : qM} {J : qJ} {M' : qM} (h : f_X12_copies_at28_30 a1 a3 a4 M = some (M')) : QM G 0 0 0 YX12_copies [.ref 28, .int a1, .ref 30, .int a3, .int a4] SH M J (none, SH, M', J) := by
  refine ⟨Nat.le_of_ble_eq_true rfl, rfl, ?_⟩
  show QW G (qrm 0 0 0) YX12_copies 0 0 0 [some (.ref 28), some (.int a1), some (.ref 30), some (.int a3), some (.int a4), none] [] SH M J _
  unfold f_X12_copies_at28_30 at h
  refine q_iconst (pc := 0) (v := nI 0) dX12_copies_0 (by decide) ?_
  refine q_istore (pc := 1) (ls' := [some (.ref 28), some (.int a1), some (.ref 30), some (.int a3), some (.int a4), some (.int (nI 0))]) dX12_copies_1 (by decide) rfl rfl ?_
  obtain ⟨⟨e6_5, M7⟩, h8, h⟩ := Option.bind_eq_some_iff.mp h
  try dsimp only at h
  refine l_X12_copies_at28_30_L3 a1 a3 a4 J qF (nI 0) M _ h8 (fun x hx => ?_)
  subst hx
  show QW G (qrm 0 0 0) YX12_copies 0 0 28 [none, none, none, none, none, none] [] SH M7 J _
  obtain rfl := Option.some.inj h
  exact q_vret (pc := 28) dX12_copies_28 rfl rfl rfl
def f_X12_remember_L11  : Nat → Int32 → qM → Option (Int32 × qM)
  | 0, _, _ => none
  | n + 1, c1, M =>
  if (nI 2445) ≤ c1 then some (c1, M)
    else (qrd M 30 2608 (c1 + (nI 163))).bind fun v3 => (qwr M 30 2608 c1 v3).bind fun M5 => f_X12_remember_L11  n (c1 + nI 1) M5
set_option maxRecDepth 20000 in
set_option maxHeartbeats 4000000 in
theorem l_X12_remember_L11 {G : qG} {ρ : qR}  (J : qJ) : ∀ (n : Nat) (c1 : Int32) (M : qM) (res : Int32 × qM), f_X12_remember_L11  n c1 M = some res → (∀ x : Int32 × qM, res = x → QW G (qrm 1 0 0) YX12_remember 0 0 40 [some (.ref 25), none] [] SH x.2 J ρ) → QW G (qrm 1 0 0) YX12_remember 0 0 11 [some (.ref 25), some (.int c1)] [] SH M J ρ
  | 0, _, _, _, h, _ => by simp [f_X12_remember_L11] at h
  | n + 1, c1, M, res, h, hk => by
    rw [f_X12_remember_L11] at h
    refine q_iload_n (pc := 11) dX12_remember_11 rfl ?_
    refine q_sipush (pc := 12) (v := nI 2445) dX12_remember_12 (by decide) ?_
    by_cases k2 : (nI 2445) ≤ c1
    · rw [if_pos k2] at h
      refine q_icmp_ge_t (pc := 15) (tgt := 40) dX12_remember_15 (by decide) k2 ?_
      refine q_weak (ls' := [some (.ref 25), none]) ⟨rfl, trivial⟩ ?_
      obtain rfl := Option.some.inj h
      exact hk (c1, M) rfl
    · rw [if_neg k2] at h
      refine q_icmp_ge_f (pc := 15) (tgt := 40) dX12_remember_15 (by decide) k2 ?_
      refine q_aload_n (pc := 18) dX12_remember_18 rfl ?_
      refine q_getf (pc := 19) (f := 4) (v := .ref 30) dX12_remember_19 sh_25 cl_11 inX12 rfl (by decide) lk_X12_22 rfl ?_
      refine q_iload_n (pc := 22) dX12_remember_22 rfl ?_
      refine q_aload_n (pc := 23) dX12_remember_23 rfl ?_
      refine q_getf (pc := 24) (f := 4) (v := .ref 30) dX12_remember_24 sh_25 cl_11 inX12 rfl (by decide) lk_X12_22 rfl ?_
      refine q_iload_n (pc := 27) dX12_remember_27 rfl ?_
      refine q_sipush (pc := 28) (v := nI 163) dX12_remember_28 (by decide) ?_
      refine q_iadd (pc := 31) dX12_remember_31 ?_
      obtain ⟨v3, h4, h⟩ := Option.bind_eq_some_iff.mp h
      refine q_iald (pc := 32) dX12_remember_32 sh_30 h4 ?_
      obtain ⟨M5, h6, h⟩ := Option.bind_eq_some_iff.mp h
      refine q_iast (pc := 33) dX12_remember_33 sh_30 h6 ?_
      refine q_iincW (pc := 34) (w := nI 1) (ls' := [some (.ref 25), some (.int (c1 + nI 1))]) dX12_remember_34 rfl (by decide) (by decide) rfl rfl ?_
      refine q_goto (pc := 37) (tgt := 11) dX12_remember_37 (by decide) ?_
      exact l_X12_remember_L11  J n (c1 + nI 1) M5 res h hk
def f_X12_remember  (M : qM) : Option qM :=
  if (M 25 5) = (nI 16) then (f_X12_remember_L11  qF (nI 0) M).bind fun e7 => (qpu e7.2 25 5 ((e7.2 25 5) - (nI 1))).bind fun M9 => (f_X12_copies_at28_30 (nI 0) ((nI 163) * (M9 25 5)) (nI 163) M9).bind fun M13 => (qpu M13 25 5 ((M13 25 5) + (nI 1))).bind fun M14 => some (M14)
    else (f_X12_copies_at28_30 (nI 0) ((nI 163) * (M 25 5)) (nI 163) M).bind fun M19 => (qpu M19 25 5 ((M19 25 5) + (nI 1))).bind fun M20 => some (M20)
set_option maxRecDepth 20000 in
set_option maxHeartbeats 4000000 in
theorem a_X12_remember {G : qG}  {M : qM} {J : qJ} {M' : qM} (h : f_X12_remember  M = some (M')) : QM G 1 0 0 YX12_remember [.ref 25] SH M J (none, SH, M', J) := by
  refine ⟨Nat.le_of_ble_eq_true rfl, rfl, ?_⟩
  show QW G (qrm 1 0 0) YX12_remember 0 0 0 [some (.ref 25), none] [] SH M J _
  unfold f_X12_remember at h
  refine q_aload_n (pc := 0) dX12_remember_0 rfl ?_
  refine q_getf (pc := 1) (f := 5) (v := .int (M 25 5)) dX12_remember_1 sh_25 cl_11 inX12 rfl (by decide) lk_X12_66 rfl ?_
  refine q_bipush (pc := 4) (v := nI 16) dX12_remember_4 (by decide) ?_
  by_cases k1 : (M 25 5) = (nI 16)
  · rw [if_pos k1] at h
    refine q_icmp_ne_f (pc := 6) (tgt := 50) dX12_remember_6 (by decide) k1 ?_
    refine q_iconst (pc := 9) (v := nI 0) dX12_remember_9 (by decide) ?_
    refine q_istore_n (pc := 10) (ls' := [some (.ref 25), some (.int (nI 0))]) dX12_remember_10 (by decide) rfl rfl ?_
    obtain ⟨⟨e7_1, M8⟩, h16, h⟩ := Option.bind_eq_some_iff.mp h
    try dsimp only at h
    refine l_X12_remember_L11  J qF (nI 0) M _ h16 (fun x hx => ?_)
    subst hx
    show QW G (qrm 1 0 0) YX12_remember 0 0 40 [some (.ref 25), none] [] SH M8 J _
    refine q_aload_n (pc := 40) dX12_remember_40 rfl ?_
    refine q_dup (pc := 41) dX12_remember_41 rfl ?_
    refine q_getf (pc := 42) (f := 5) (v := .int (M8 25 5)) dX12_remember_42 sh_25 cl_11 inX12 rfl (by decide) lk_X12_66 rfl ?_
    refine q_iconst (pc := 45) (v := nI 1) dX12_remember_45 (by decide) ?_
    refine q_isub (pc := 46) dX12_remember_46 ?_
    obtain ⟨M9, h10, h⟩ := Option.bind_eq_some_iff.mp h
    refine q_putI (pc := 47) (f := 5) tyX12 dX12_remember_47 sh_25 cl_11 inX12 tyX12_ok nmX12 rfl (by decide) lk_X12_66 rfl rfl rfl h10 ?_
    refine q_aload_n (pc := 50) dX12_remember_50 rfl ?_
    refine q_getf (pc := 51) (f := 2) (v := .ref 28) dX12_remember_51 sh_25 cl_11 inX12 rfl (by decide) lk_X12_16 rfl ?_
    refine q_iconst (pc := 54) (v := nI 0) dX12_remember_54 (by decide) ?_
    refine q_aload_n (pc := 55) dX12_remember_55 rfl ?_
    refine q_getf (pc := 56) (f := 4) (v := .ref 30) dX12_remember_56 sh_25 cl_11 inX12 rfl (by decide) lk_X12_22 rfl ?_
    refine q_sipush (pc := 59) (v := nI 163) dX12_remember_59 (by decide) ?_
    refine q_aload_n (pc := 62) dX12_remember_62 rfl ?_
    refine q_getf (pc := 63) (f := 5) (v := .int (M9 25 5)) dX12_remember_63 sh_25 cl_11 inX12 rfl (by decide) lk_X12_66 rfl ?_
    refine q_imul (pc := 66) dX12_remember_66 ?_
    refine q_sipush (pc := 67) (v := nI 163) dX12_remember_67 (by decide) ?_
    obtain ⟨M13, h12, h⟩ := Option.bind_eq_some_iff.mp h
    refine q_calls (pc := 70) (st := []) (a_X12_copies_at28_30 h12) okX12_copies rfl dX12_remember_70 lk_X12_62 rfl (by decide) (by decide) (Nat.le_of_ble_eq_true rfl) ⟨Nat.le_of_ble_eq_true rfl, Nat.le_of_ble_eq_true rfl⟩ rfl ?_
    show QW G (qrm 1 0 0) YX12_remember 0 0 73 [some (.ref 25), none] [] SH M13 J _
    refine q_aload_n (pc := 73) dX12_remember_73 rfl ?_
    refine q_dup (pc := 74) dX12_remember_74 rfl ?_
    refine q_getf (pc := 75) (f := 5) (v := .int (M13 25 5)) dX12_remember_75 sh_25 cl_11 inX12 rfl (by decide) lk_X12_66 rfl ?_
    refine q_iconst (pc := 78) (v := nI 1) dX12_remember_78 (by decide) ?_
    refine q_iadd (pc := 79) dX12_remember_79 ?_
    obtain ⟨M14, h15, h⟩ := Option.bind_eq_some_iff.mp h
    refine q_putI (pc := 80) (f := 5) tyX12 dX12_remember_80 sh_25 cl_11 inX12 tyX12_ok nmX12 rfl (by decide) lk_X12_66 rfl rfl rfl h15 ?_
    obtain rfl := Option.some.inj h
    exact q_vret (pc := 83) dX12_remember_83 rfl rfl rfl
  · rw [if_neg k1] at h
    refine q_icmp_ne_t (pc := 6) (tgt := 50) dX12_remember_6 (by decide) k1 ?_
    refine q_aload_n (pc := 50) dX12_remember_50 rfl ?_
    refine q_getf (pc := 51) (f := 2) (v := .ref 28) dX12_remember_51 sh_25 cl_11 inX12 rfl (by decide) lk_X12_16 rfl ?_
    refine q_iconst (pc := 54) (v := nI 0) dX12_remember_54 (by decide) ?_
    refine q_aload_n (pc := 55) dX12_remember_55 rfl ?_
    refine q_getf (pc := 56) (f := 4) (v := .ref 30) dX12_remember_56 sh_25 cl_11 inX12 rfl (by decide) lk_X12_22 rfl ?_
    refine q_sipush (pc := 59) (v := nI 163) dX12_remember_59 (by decide) ?_
    refine q_aload_n (pc := 62) dX12_remember_62 rfl ?_
    refine q_getf (pc := 63) (f := 5) (v := .int (M 25 5)) dX12_remember_63 sh_25 cl_11 inX12 rfl (by decide) lk_X12_66 rfl ?_
    refine q_imul (pc := 66) dX12_remember_66 ?_
    refine q_sipush (pc := 67) (v := nI 163) dX12_remember_67 (by decide) ?_
    obtain ⟨M19, h18, h⟩ := Option.bind_eq_some_iff.mp h
    refine q_calls (pc := 70) (st := []) (a_X12_copies_at28_30 h18) okX12_copies rfl dX12_remember_70 lk_X12_62 rfl (by decide) (by decide) (Nat.le_of_ble_eq_true rfl) ⟨Nat.le_of_ble_eq_true rfl, Nat.le_of_ble_eq_true rfl⟩ rfl ?_
    show QW G (qrm 1 0 0) YX12_remember 0 0 73 [some (.ref 25), none] [] SH M19 J _
    refine q_aload_n (pc := 73) dX12_remember_73 rfl ?_
    refine q_dup (pc := 74) dX12_remember_74 rfl ?_
    refine q_getf (pc := 75) (f := 5) (v := .int (M19 25 5)) dX12_remember_75 sh_25 cl_11 inX12 rfl (by decide) lk_X12_66 rfl ?_
    refine q_iconst (pc := 78) (v := nI 1) dX12_remember_78 (by decide) ?_
    refine q_iadd (pc := 79) dX12_remember_79 ?_
    obtain ⟨M20, h21, h⟩ := Option.bind_eq_some_iff.mp h
    refine q_putI (pc := 80) (f := 5) tyX12 dX12_remember_80 sh_25 cl_11 inX12 tyX12_ok nmX12 rfl (by decide) lk_X12_66 rfl rfl rfl h21 ?_
    obtain rfl := Option.some.inj h
    exact q_vret (pc := 83) dX12_remember_83 rfl rfl rfl
