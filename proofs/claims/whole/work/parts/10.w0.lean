def f_X11_isOutside (a0 : Int32) (a1 : Int32) (a2 : Int32) (M : qM) : Option Bool :=
  if a0 < a1 then some (true)
    else if a0 ≤ a2 then some (false)
    else some (true)
set_option maxRecDepth 20000 in
set_option maxHeartbeats 4000000 in
theorem a_X11_isOutside {G : qG} {a0 : Int32} {a1 : Int32} {a2 : Int32} {M : qM} {J : qJ} {r : Bool} (h : f_X11_isOutside a0 a1 a2 M = some (r)) : QM G 0 0 0 YX11_isOutside [.int a0, .int a1, .int a2] SH M J (some (.int (qb r)), SH, M, J) := by
  refine ⟨Nat.le_of_ble_eq_true rfl, Or.inr ⟨rfl, _, rfl⟩, ?_⟩
  show QW G (qrm 0 0 0) YX11_isOutside 0 0 0 [some (.int a0), some (.int a1), some (.int a2)] [] SH M J _
  unfold f_X11_isOutside at h
  refine q_iload_n (pc := 0) dX11_isOutside_0 rfl ?_
  refine q_iload_n (pc := 1) dX11_isOutside_1 rfl ?_
  by_cases k1 : a0 < a1
  · rw [if_pos k1] at h
    refine q_icmp_lt_t (pc := 2) (tgt := 10) dX11_isOutside_2 (by decide) k1 ?_
    refine q_iconst (pc := 10) (v := nI 1) dX11_isOutside_10 (by decide) ?_
    refine q_goto (pc := 11) (tgt := 15) dX11_isOutside_11 (by decide) ?_
    obtain rfl := Option.some.inj h
    exact q_iret (pc := 15) dX11_isOutside_15 rfl rfl rfl
  · rw [if_neg k1] at h
    refine q_icmp_lt_f (pc := 2) (tgt := 10) dX11_isOutside_2 (by decide) k1 ?_
    refine q_iload_n (pc := 5) dX11_isOutside_5 rfl ?_
    refine q_iload_n (pc := 6) dX11_isOutside_6 rfl ?_
    by_cases k2 : a0 ≤ a2
    · rw [if_pos k2] at h
      refine q_icmp_le_t (pc := 7) (tgt := 14) dX11_isOutside_7 (by decide) k2 ?_
      refine q_iconst (pc := 14) (v := nI 0) dX11_isOutside_14 (by decide) ?_
      obtain rfl := Option.some.inj h
      exact q_iret (pc := 15) dX11_isOutside_15 rfl rfl rfl
    · rw [if_neg k2] at h
      refine q_icmp_le_f (pc := 7) (tgt := 14) dX11_isOutside_7 (by decide) k2 ?_
      refine q_iconst (pc := 10) (v := nI 1) dX11_isOutside_10 (by decide) ?_
      refine q_goto (pc := 11) (tgt := 15) dX11_isOutside_11 (by decide) ?_
      obtain rfl := Option.some.inj h
      exact q_iret (pc := 15) dX11_isOutside_15 rfl rfl rfl
def f_X7_isFull  (M : qM) : Option Bool :=
  if (M 3 1) < (nI 240) then some (false)
    else some (true)
set_option maxRecDepth 20000 in
set_option maxHeartbeats 4000000 in
theorem a_X7_isFull {G : qG}  {M : qM} {J : qJ} {r : Bool} (h : f_X7_isFull  M = some (r)) : QM G 0 0 0 YX7_isFull [.ref 3] SH M J (some (.int (qb r)), SH, M, J) := by
  refine ⟨Nat.le_of_ble_eq_true rfl, Or.inr ⟨rfl, _, rfl⟩, ?_⟩
  show QW G (qrm 0 0 0) YX7_isFull 0 0 0 [some (.ref 3)] [] SH M J _
  unfold f_X7_isFull at h
  refine q_aload_n (pc := 0) dX7_isFull_0 rfl ?_
  refine q_getf (pc := 1) (f := 1) (v := .int (M 3 1)) dX7_isFull_1 sh_3 cl_7 inX7 rfl (by decide) lk_X7_18 rfl ?_
  refine q_sipush (pc := 4) (v := nI 240) dX7_isFull_4 (by decide) ?_
  by_cases k1 : (M 3 1) < (nI 240)
  · rw [if_pos k1] at h
    refine q_icmp_lt_t (pc := 7) (tgt := 14) dX7_isFull_7 (by decide) k1 ?_
    refine q_iconst (pc := 14) (v := nI 0) dX7_isFull_14 (by decide) ?_
    obtain rfl := Option.some.inj h
    exact q_iret (pc := 15) dX7_isFull_15 rfl rfl rfl
  · rw [if_neg k1] at h
    refine q_icmp_lt_f (pc := 7) (tgt := 14) dX7_isFull_7 (by decide) k1 ?_
    refine q_iconst (pc := 10) (v := nI 1) dX7_isFull_10 (by decide) ?_
    refine q_goto (pc := 11) (tgt := 15) dX7_isFull_11 (by decide) ?_
    obtain rfl := Option.some.inj h
    exact q_iret (pc := 15) dX7_isFull_15 rfl rfl rfl
def f_X7_put (a1 : Int32) (M : qM) : Option (Int32 × qM) :=
  (qwr M 6 240 (M 3 1) a1).bind fun M1 => (qpu M1 3 1 ((M1 3 1) + (nI 1))).bind fun M3 => some (M3 3 1, M3)
set_option maxRecDepth 20000 in
set_option maxHeartbeats 4000000 in
theorem a_X7_put {G : qG} {a1 : Int32} {M : qM} {J : qJ} {r : Int32} {M' : qM} (h : f_X7_put a1 M = some (r, M')) : QM G 0 0 0 YX7_put [.ref 3, .int a1] SH M J (some (.int r), SH, M', J) := by
  refine ⟨Nat.le_of_ble_eq_true rfl, Or.inl rfl, ?_⟩
  show QW G (qrm 0 0 0) YX7_put 0 0 0 [some (.ref 3), some (.int a1)] [] SH M J _
  unfold f_X7_put at h
  refine q_aload_n (pc := 0) dX7_put_0 rfl ?_
  refine q_getf (pc := 1) (f := 3) (v := .ref 6) dX7_put_1 sh_3 cl_7 inX7 rfl (by decide) lk_X7_25 rfl ?_
  refine q_aload_n (pc := 4) dX7_put_4 rfl ?_
  refine q_getf (pc := 5) (f := 1) (v := .int (M 3 1)) dX7_put_5 sh_3 cl_7 inX7 rfl (by decide) lk_X7_18 rfl ?_
  refine q_iload_n (pc := 8) dX7_put_8 rfl ?_
  obtain ⟨M1, h2, h⟩ := Option.bind_eq_some_iff.mp h
  refine q_iast (pc := 9) dX7_put_9 sh_6 h2 ?_
  refine q_aload_n (pc := 10) dX7_put_10 rfl ?_
  refine q_dup (pc := 11) dX7_put_11 rfl ?_
  refine q_getf (pc := 12) (f := 1) (v := .int (M1 3 1)) dX7_put_12 sh_3 cl_7 inX7 rfl (by decide) lk_X7_18 rfl ?_
  refine q_iconst (pc := 15) (v := nI 1) dX7_put_15 (by decide) ?_
  refine q_iadd (pc := 16) dX7_put_16 ?_
  obtain ⟨M3, h4, h⟩ := Option.bind_eq_some_iff.mp h
  refine q_putI (pc := 17) (f := 1) tyX7 dX7_put_17 sh_3 cl_7 inX7 tyX7_ok nmX7 rfl (by decide) lk_X7_18 rfl rfl rfl h4 ?_
  refine q_aload_n (pc := 20) dX7_put_20 rfl ?_
  refine q_getf (pc := 21) (f := 1) (v := .int (M3 3 1)) dX7_put_21 sh_3 cl_7 inX7 rfl (by decide) lk_X7_18 rfl ?_
  have h := Option.some.inj h
  obtain ⟨rfl, rfl⟩ := Prod.mk.inj h
  exact q_iret (pc := 24) dX7_put_24 rfl rfl rfl
def f_X11_feed (a1 : Int32) (M : qM) : Option (Int32 × qM) :=
  (f_X11_isOutside a1 (nI 0) (nI 255) M).bind fun b3 => if b3 = true then some ((-1000000002 : Int32), M)
    else (f_X7_isFull M).bind fun b7 => if b7 = true then some ((-1000000004 : Int32), M)
    else (f_X7_put a1 M).bind fun p9 => some (p9.1, p9.2)
set_option maxRecDepth 20000 in
set_option maxHeartbeats 4000000 in
theorem a_X11_feed {G : qG} {a1 : Int32} {M : qM} {J : qJ} {r : Int32} {M' : qM} (h : f_X11_feed a1 M = some (r, M')) : QM G 1 0 0 YX11_feed [.ref 0, .int a1] SH M J (some (.int r), SH, M', J) := by
  refine ⟨Nat.le_of_ble_eq_true rfl, Or.inl rfl, ?_⟩
  show QW G (qrm 1 0 0) YX11_feed 0 0 0 [some (.ref 0), some (.int a1)] [] SH M J _
  unfold f_X11_feed at h
  refine q_iload_n (pc := 0) dX11_feed_0 rfl ?_
  refine q_iconst (pc := 1) (v := nI 0) dX11_feed_1 (by decide) ?_
  refine q_sipush (pc := 2) (v := nI 255) dX11_feed_2 (by decide) ?_
  obtain ⟨b3, h2, h⟩ := Option.bind_eq_some_iff.mp h
  refine q_calls (pc := 5) (st := []) (a_X11_isOutside h2) okX11_isOutside rfl dX11_feed_5 lk_X11_79 rfl (by decide) (by decide) (Nat.le_of_ble_eq_true rfl) ⟨Nat.le_of_ble_eq_true rfl, Nat.le_of_ble_eq_true rfl⟩ rfl ?_
  show QW G (qrm 1 0 0) YX11_feed 0 0 8 [some (.ref 0), some (.int a1)] [.int (qb b3)] SH M J _
  by_cases k4 : b3 = true
  · rw [if_pos k4] at h
    refine q_if_eq_f (pc := 8) (tgt := 14) dX11_feed_8 (by decide) (qb_t k4) ?_
    refine q_ldc (pc := 11) (v := (-1000000002 : Int32)) dX11_feed_11 lk_X11_83 ?_
    have h := Option.some.inj h
    obtain ⟨rfl, rfl⟩ := Prod.mk.inj h
    exact q_iret (pc := 13) dX11_feed_13 rfl rfl rfl
  · rw [if_neg k4] at h
    refine q_if_eq_t (pc := 8) (tgt := 14) dX11_feed_8 (by decide) (qb_f k4) ?_
    refine q_aload_n (pc := 14) dX11_feed_14 rfl ?_
    refine q_getf (pc := 15) (f := 1) (v := .ref 3) dX11_feed_15 sh_0 cl_10 inX11 rfl (by decide) lk_X11_19 rfl ?_
    obtain ⟨b7, h6, h⟩ := Option.bind_eq_some_iff.mp h
    refine q_callv (pc := 18) (st := []) (a_X7_isFull h6) okX7_isFull rfl dX11_feed_18 lk_X11_84 sh_3 cl_7 rfl (by decide) (by decide) (Nat.le_of_ble_eq_true rfl) ⟨Nat.le_of_ble_eq_true rfl, Nat.le_of_ble_eq_true rfl⟩ rfl ?_
    show QW G (qrm 1 0 0) YX11_feed 0 0 21 [some (.ref 0), some (.int a1)] [.int (qb b7)] SH M J _
    by_cases k8 : b7 = true
    · rw [if_pos k8] at h
      refine q_if_eq_f (pc := 21) (tgt := 29) dX11_feed_21 (by decide) (qb_t k8) ?_
      refine q_ldc (pc := 24) (v := (-1000000004 : Int32)) dX11_feed_24 lk_X11_88 ?_
      refine q_goto (pc := 26) (tgt := 37) dX11_feed_26 (by decide) ?_
      have h := Option.some.inj h
      obtain ⟨rfl, rfl⟩ := Prod.mk.inj h
      exact q_iret (pc := 37) dX11_feed_37 rfl rfl rfl
    · rw [if_neg k8] at h
      refine q_if_eq_t (pc := 21) (tgt := 29) dX11_feed_21 (by decide) (qb_f k8) ?_
      refine q_aload_n (pc := 29) dX11_feed_29 rfl ?_
      refine q_getf (pc := 30) (f := 1) (v := .ref 3) dX11_feed_30 sh_0 cl_10 inX11 rfl (by decide) lk_X11_19 rfl ?_
      refine q_iload_n (pc := 33) dX11_feed_33 rfl ?_
      obtain ⟨⟨r11, M12⟩, h10, h⟩ := Option.bind_eq_some_iff.mp h
      try dsimp only at h
      refine q_callv (pc := 34) (st := []) (a_X7_put h10) okX7_put rfl dX11_feed_34 lk_X11_89 sh_3 cl_7 rfl (by decide) (by decide) (Nat.le_of_ble_eq_true rfl) ⟨Nat.le_of_ble_eq_true rfl, Nat.le_of_ble_eq_true rfl⟩ rfl ?_
      show QW G (qrm 1 0 0) YX11_feed 0 0 37 [some (.ref 0), some (.int a1)] [.int r11] SH M12 J _
      have h := Option.some.inj h
      obtain ⟨rfl, rfl⟩ := Prod.mk.inj h
      exact q_iret (pc := 37) dX11_feed_37 rfl rfl rfl
def f_J7_fill_at5_L5 (x1 : Int32) (x3 : Int32) : Nat → Int32 → qM → Option (Int32 × qM)
  | 0, _, _ => none
  | n + 1, c2, M =>
  if x3 ≤ c2 then some (c2, M)
    else (qwr M 5 172 c2 x1).bind fun M2 => f_J7_fill_at5_L5 x1 x3 n (c2 + nI 1) M2
set_option maxRecDepth 20000 in
set_option maxHeartbeats 4000000 in
theorem l_J7_fill_at5_L5 {G : qG} {ρ : qR} (x1 : Int32) (x3 : Int32) (J : qJ) : ∀ (n : Nat) (c2 : Int32) (M : qM) (res : Int32 × qM), f_J7_fill_at5_L5 x1 x3 n c2 M = some res → (∀ x : Int32 × qM, res = x → QW G (qrm 0 0 0) YJ7_fill_53178 0 0 20 [none, none, none, none] [] SH x.2 J ρ) → QW G (qrm 0 0 0) YJ7_fill_53178 0 0 5 [some (.ref 5), some (.int x1), some (.int c2), some (.int x3)] [] SH M J ρ
  | 0, _, _, _, h, _ => by simp [f_J7_fill_at5_L5] at h
  | n + 1, c2, M, res, h, hk => by
    rw [f_J7_fill_at5_L5] at h
    refine q_iload_n (pc := 5) dJ7_fill_53178_5 rfl ?_
    refine q_iload_n (pc := 6) dJ7_fill_53178_6 rfl ?_
    by_cases k1 : x3 ≤ c2
    · rw [if_pos k1] at h
      refine q_icmp_ge_t (pc := 7) (tgt := 20) dJ7_fill_53178_7 (by decide) k1 ?_
      refine q_weak (ls' := [none, none, none, none]) trivial ?_
      obtain rfl := Option.some.inj h
      exact hk (c2, M) rfl
    · rw [if_neg k1] at h
      refine q_icmp_ge_f (pc := 7) (tgt := 20) dJ7_fill_53178_7 (by decide) k1 ?_
      refine q_aload_n (pc := 10) dJ7_fill_53178_10 rfl ?_
      refine q_iload_n (pc := 11) dJ7_fill_53178_11 rfl ?_
      refine q_iload_n (pc := 12) dJ7_fill_53178_12 rfl ?_
      obtain ⟨M2, h3, h⟩ := Option.bind_eq_some_iff.mp h
      refine q_iast (pc := 13) dJ7_fill_53178_13 sh_5 h3 ?_
      refine q_iincW (pc := 14) (w := nI 1) (ls' := [some (.ref 5), some (.int x1), some (.int (c2 + nI 1)), some (.int x3)]) dJ7_fill_53178_14 rfl (by decide) (by decide) rfl rfl ?_
      refine q_goto (pc := 17) (tgt := 5) dJ7_fill_53178_17 (by decide) ?_
      exact l_J7_fill_at5_L5 x1 x3 J n (c2 + nI 1) M2 res h hk
def f_J7_fill_at5 (a1 : Int32) (M : qM) : Option qM :=
  (f_J7_fill_at5_L5 a1 (nI 172) qF (nI 0) M).bind fun e4 => some (e4.2)
set_option maxRecDepth 20000 in
set_option maxHeartbeats 4000000 in
theorem a_J7_fill_at5 {G : qG} {a1 : Int32} {M : qM} {J : qJ} {M' : qM} (h : f_J7_fill_at5 a1 M = some (M')) : QM G 0 0 0 YJ7_fill_53178 [.ref 5, .int a1] SH M J (none, SH, M', J) := by
  refine ⟨Nat.le_of_ble_eq_true rfl, rfl, ?_⟩
  show QW G (qrm 0 0 0) YJ7_fill_53178 0 0 0 [some (.ref 5), some (.int a1), none, none] [] SH M J _
  unfold f_J7_fill_at5 at h
  refine q_iconst (pc := 0) (v := nI 0) dJ7_fill_53178_0 (by decide) ?_
  refine q_istore_n (pc := 1) (ls' := [some (.ref 5), some (.int a1), some (.int (nI 0)), none]) dJ7_fill_53178_1 (by decide) rfl rfl ?_
  refine q_aload_n (pc := 2) dJ7_fill_53178_2 rfl ?_
  refine q_alen (pc := 3) (v := nI 172) dJ7_fill_53178_3 sh_5 rfl ?_
  refine q_istore_n (pc := 4) (ls' := [some (.ref 5), some (.int a1), some (.int (nI 0)), some (.int (nI 172))]) dJ7_fill_53178_4 (by decide) rfl rfl ?_
  obtain ⟨⟨e4_2, M5⟩, h6, h⟩ := Option.bind_eq_some_iff.mp h
  try dsimp only at h
  refine l_J7_fill_at5_L5 a1 (nI 172) J qF (nI 0) M _ h6 (fun x hx => ?_)
  subst hx
  show QW G (qrm 0 0 0) YJ7_fill_53178 0 0 20 [none, none, none, none] [] SH M5 J _
  obtain rfl := Option.some.inj h
  exact q_vret (pc := 20) dJ7_fill_53178_20 rfl rfl rfl
def f_X5_clear_at4  (M : qM) : Option qM :=
  (f_J7_fill_at5 (nI 0) M).bind fun M3 => some (M3)
set_option maxRecDepth 20000 in
set_option maxHeartbeats 4000000 in
theorem a_X5_clear_at4 {G : qG}  {M : qM} {J : qJ} {M' : qM} (h : f_X5_clear_at4  M = some (M')) : QM G 1 0 0 YX5_clear [.ref 4] SH M J (none, SH, M', J) := by
  refine ⟨Nat.le_of_ble_eq_true rfl, rfl, ?_⟩
  show QW G (qrm 1 0 0) YX5_clear 0 0 0 [some (.ref 4)] [] SH M J _
  unfold f_X5_clear_at4 at h
  refine q_aload_n (pc := 0) dX5_clear_0 rfl ?_
  refine q_getf (pc := 1) (f := 0) (v := .ref 5) dX5_clear_1 sh_4 cl_5 inX5 rfl (by decide) lk_X5_11 rfl ?_
  refine q_iconst (pc := 4) (v := nI 0) dX5_clear_4 (by decide) ?_
  obtain ⟨M3, h2, h⟩ := Option.bind_eq_some_iff.mp h
  refine q_calls (pc := 5) (st := []) (a_J7_fill_at5 h2) okJ7_fill_53178 rfl dX5_clear_5 lk_X5_15 rfl (by decide) (by decide) (Nat.le_of_ble_eq_true rfl) ⟨Nat.le_of_ble_eq_true rfl, Nat.le_of_ble_eq_true rfl⟩ rfl ?_
  show QW G (qrm 1 0 0) YX5_clear 0 0 8 [some (.ref 4)] [] SH M3 J _
  obtain rfl := Option.some.inj h
  exact q_vret (pc := 8) dX5_clear_8 rfl rfl rfl
def f_X7_skipBlanks_L0  : Nat → qM → Option (qM)
  | 0, _ => none
  | n + 1, M =>
  if (M 3 1) ≤ (M 3 4) then some (M)
    else (qrd M 6 240 (M 3 4)).bind fun v2 => if v2 = (nI 32) then (qpu M 3 4 ((M 3 4) + (nI 1))).bind fun M5 => f_X7_skipBlanks_L0  n M5
    else some (M)
set_option maxRecDepth 20000 in
set_option maxHeartbeats 4000000 in
theorem l_X7_skipBlanks_L0 {G : qG} {ρ : qR}  (J : qJ) : ∀ (n : Nat) (M : qM) (res : qM), f_X7_skipBlanks_L0  n M = some res → (∀ x : qM, res = x → QW G (qrm 0 0 0) YX7_skipBlanks 0 0 38 [none] [] SH x J ρ) → QW G (qrm 0 0 0) YX7_skipBlanks 0 0 0 [some (.ref 3)] [] SH M J ρ
  | 0, _, _, h, _ => by simp [f_X7_skipBlanks_L0] at h
  | n + 1, M, res, h, hk => by
    rw [f_X7_skipBlanks_L0] at h
    refine q_aload_n (pc := 0) dX7_skipBlanks_0 rfl ?_
    refine q_getf (pc := 1) (f := 4) (v := .int (M 3 4)) dX7_skipBlanks_1 sh_3 cl_7 inX7 rfl (by decide) lk_X7_29 rfl ?_
    refine q_aload_n (pc := 4) dX7_skipBlanks_4 rfl ?_
    refine q_getf (pc := 5) (f := 1) (v := .int (M 3 1)) dX7_skipBlanks_5 sh_3 cl_7 inX7 rfl (by decide) lk_X7_18 rfl ?_
    by_cases k1 : (M 3 1) ≤ (M 3 4)
    · rw [if_pos k1] at h
      refine q_icmp_ge_t (pc := 8) (tgt := 38) dX7_skipBlanks_8 (by decide) k1 ?_
      refine q_weak (ls' := [none]) trivial ?_
      obtain rfl := Option.some.inj h
      exact hk (M) rfl
    · rw [if_neg k1] at h
      refine q_icmp_ge_f (pc := 8) (tgt := 38) dX7_skipBlanks_8 (by decide) k1 ?_
      refine q_aload_n (pc := 11) dX7_skipBlanks_11 rfl ?_
      refine q_getf (pc := 12) (f := 3) (v := .ref 6) dX7_skipBlanks_12 sh_3 cl_7 inX7 rfl (by decide) lk_X7_25 rfl ?_
      refine q_aload_n (pc := 15) dX7_skipBlanks_15 rfl ?_
      refine q_getf (pc := 16) (f := 4) (v := .int (M 3 4)) dX7_skipBlanks_16 sh_3 cl_7 inX7 rfl (by decide) lk_X7_29 rfl ?_
      obtain ⟨v2, h3, h⟩ := Option.bind_eq_some_iff.mp h
      refine q_iald (pc := 19) dX7_skipBlanks_19 sh_6 h3 ?_
      refine q_bipush (pc := 20) (v := nI 32) dX7_skipBlanks_20 (by decide) ?_
      by_cases k4 : v2 = (nI 32)
      · rw [if_pos k4] at h
        refine q_icmp_ne_f (pc := 22) (tgt := 38) dX7_skipBlanks_22 (by decide) k4 ?_
        refine q_aload_n (pc := 25) dX7_skipBlanks_25 rfl ?_
        refine q_dup (pc := 26) dX7_skipBlanks_26 rfl ?_
        refine q_getf (pc := 27) (f := 4) (v := .int (M 3 4)) dX7_skipBlanks_27 sh_3 cl_7 inX7 rfl (by decide) lk_X7_29 rfl ?_
        refine q_iconst (pc := 30) (v := nI 1) dX7_skipBlanks_30 (by decide) ?_
        refine q_iadd (pc := 31) dX7_skipBlanks_31 ?_
        obtain ⟨M5, h6, h⟩ := Option.bind_eq_some_iff.mp h
        refine q_putI (pc := 32) (f := 4) tyX7 dX7_skipBlanks_32 sh_3 cl_7 inX7 tyX7_ok nmX7 rfl (by decide) lk_X7_29 rfl rfl rfl h6 ?_
        refine q_goto (pc := 35) (tgt := 0) dX7_skipBlanks_35 (by decide) ?_
        exact l_X7_skipBlanks_L0  J n M5 res h hk
      · rw [if_neg k4] at h
        refine q_icmp_ne_t (pc := 22) (tgt := 38) dX7_skipBlanks_22 (by decide) k4 ?_
        refine q_weak (ls' := [none]) trivial ?_
        obtain rfl := Option.some.inj h
        exact hk (M) rfl
def f_X7_skipBlanks  (M : qM) : Option qM :=
  (f_X7_skipBlanks_L0  qF M).bind fun e7 => some (e7)
set_option maxRecDepth 20000 in
set_option maxHeartbeats 4000000 in
theorem a_X7_skipBlanks {G : qG}  {M : qM} {J : qJ} {M' : qM} (h : f_X7_skipBlanks  M = some (M')) : QM G 0 0 0 YX7_skipBlanks [.ref 3] SH M J (none, SH, M', J) := by
  refine ⟨Nat.le_of_ble_eq_true rfl, rfl, ?_⟩
  show QW G (qrm 0 0 0) YX7_skipBlanks 0 0 0 [some (.ref 3)] [] SH M J _
  unfold f_X7_skipBlanks at h
  obtain ⟨M8, h9, h⟩ := Option.bind_eq_some_iff.mp h
  try dsimp only at h
  refine l_X7_skipBlanks_L0  J qF M _ h9 (fun x hx => ?_)
  subst hx
  show QW G (qrm 0 0 0) YX7_skipBlanks 0 0 38 [none] [] SH M8 J _
  obtain rfl := Option.some.inj h
  exact q_vret (pc := 38) dX7_skipBlanks_38 rfl rfl rfl
def f_X5_least_at4  (M : qM) : Option Int32 :=
  (qrd M 5 172 (nI 0)).bind fun v1 => some (v1)
set_option maxRecDepth 20000 in
set_option maxHeartbeats 4000000 in
theorem a_X5_least_at4 {G : qG}  {M : qM} {J : qJ} {r : Int32} (h : f_X5_least_at4  M = some (r)) : QM G 0 0 0 YX5_least [.ref 4] SH M J (some (.int r), SH, M, J) := by
  refine ⟨Nat.le_of_ble_eq_true rfl, Or.inl rfl, ?_⟩
  show QW G (qrm 0 0 0) YX5_least 0 0 0 [some (.ref 4)] [] SH M J _
  unfold f_X5_least_at4 at h
  refine q_aload_n (pc := 0) dX5_least_0 rfl ?_
  refine q_getf (pc := 1) (f := 0) (v := .ref 5) dX5_least_1 sh_4 cl_5 inX5 rfl (by decide) lk_X5_11 rfl ?_
  refine q_iconst (pc := 4) (v := nI 0) dX5_least_4 (by decide) ?_
  obtain ⟨v1, h2, h⟩ := Option.bind_eq_some_iff.mp h
  refine q_iald (pc := 5) dX5_least_5 sh_5 h2 ?_
  obtain rfl := Option.some.inj h
  exact q_iret (pc := 6) dX5_least_6 rfl rfl rfl
def f_X5_couples_at4  (M : qM) : Option Int32 :=
  (qrd M 5 172 (nI 1)).bind fun v1 => some (v1)
set_option maxRecDepth 20000 in
set_option maxHeartbeats 4000000 in
theorem a_X5_couples_at4 {G : qG}  {M : qM} {J : qJ} {r : Int32} (h : f_X5_couples_at4  M = some (r)) : QM G 0 0 0 YX5_couples [.ref 4] SH M J (some (.int r), SH, M, J) := by
  refine ⟨Nat.le_of_ble_eq_true rfl, Or.inl rfl, ?_⟩
  show QW G (qrm 0 0 0) YX5_couples 0 0 0 [some (.ref 4)] [] SH M J _
  unfold f_X5_couples_at4 at h
  refine q_aload_n (pc := 0) dX5_couples_0 rfl ?_
  refine q_getf (pc := 1) (f := 0) (v := .ref 5) dX5_couples_1 sh_4 cl_5 inX5 rfl (by decide) lk_X5_11 rfl ?_
  refine q_iconst (pc := 4) (v := nI 1) dX5_couples_4 (by decide) ?_
  obtain ⟨v1, h2, h⟩ := Option.bind_eq_some_iff.mp h
  refine q_iald (pc := 5) dX5_couples_5 sh_5 h2 ?_
  obtain rfl := Option.some.inj h
  exact q_iret (pc := 6) dX5_couples_6 rfl rfl rfl
def f_X7_faultOfMore (a0 : Int32) (a1 : Int32) (M : qM) : Option Int32 :=
  if a0 = 0 then if a1 = 0 then some (nI 3)
    else some (nI 0)
    else some (nI 1)
set_option maxRecDepth 20000 in
set_option maxHeartbeats 4000000 in
theorem a_X7_faultOfMore {G : qG} {a0 : Int32} {a1 : Int32} {M : qM} {J : qJ} {r : Int32} (h : f_X7_faultOfMore a0 a1 M = some (r)) : QM G 0 0 0 YX7_faultOfMore [.int a0, .int a1] SH M J (some (.int r), SH, M, J) := by
  refine ⟨Nat.le_of_ble_eq_true rfl, Or.inl rfl, ?_⟩
  show QW G (qrm 0 0 0) YX7_faultOfMore 0 0 0 [some (.int a0), some (.int a1)] [] SH M J _
  unfold f_X7_faultOfMore at h
  refine q_iload_n (pc := 0) dX7_faultOfMore_0 rfl ?_
  by_cases k1 : a0 = 0
  · rw [if_pos k1] at h
    refine q_if_eq_t (pc := 1) (tgt := 6) dX7_faultOfMore_1 (by decide) k1 ?_
    refine q_iload_n (pc := 6) dX7_faultOfMore_6 rfl ?_
    by_cases k2 : a1 = 0
    · rw [if_pos k2] at h
      refine q_if_eq_t (pc := 7) (tgt := 14) dX7_faultOfMore_7 (by decide) k2 ?_
      refine q_iconst (pc := 14) (v := nI 3) dX7_faultOfMore_14 (by decide) ?_
      obtain rfl := Option.some.inj h
      exact q_iret (pc := 15) dX7_faultOfMore_15 rfl rfl rfl
    · rw [if_neg k2] at h
      refine q_if_eq_f (pc := 7) (tgt := 14) dX7_faultOfMore_7 (by decide) k2 ?_
      refine q_iconst (pc := 10) (v := nI 0) dX7_faultOfMore_10 (by decide) ?_
      refine q_goto (pc := 11) (tgt := 15) dX7_faultOfMore_11 (by decide) ?_
      obtain rfl := Option.some.inj h
      exact q_iret (pc := 15) dX7_faultOfMore_15 rfl rfl rfl
  · rw [if_neg k1] at h
    refine q_if_eq_f (pc := 1) (tgt := 6) dX7_faultOfMore_1 (by decide) k1 ?_
    refine q_iconst (pc := 4) (v := nI 1) dX7_faultOfMore_4 (by decide) ?_
    obtain rfl := Option.some.inj h
    exact q_iret (pc := 5) dX7_faultOfMore_5 rfl rfl rfl
def f_X5_objectors_at4  (M : qM) : Option Int32 :=
  (qrd M 5 172 (nI 2)).bind fun v1 => some (v1)
set_option maxRecDepth 20000 in
set_option maxHeartbeats 4000000 in
theorem a_X5_objectors_at4 {G : qG}  {M : qM} {J : qJ} {r : Int32} (h : f_X5_objectors_at4  M = some (r)) : QM G 0 0 0 YX5_objectors [.ref 4] SH M J (some (.int r), SH, M, J) := by
  refine ⟨Nat.le_of_ble_eq_true rfl, Or.inl rfl, ?_⟩
  show QW G (qrm 0 0 0) YX5_objectors 0 0 0 [some (.ref 4)] [] SH M J _
  unfold f_X5_objectors_at4 at h
  refine q_aload_n (pc := 0) dX5_objectors_0 rfl ?_
  refine q_getf (pc := 1) (f := 0) (v := .ref 5) dX5_objectors_1 sh_4 cl_5 inX5 rfl (by decide) lk_X5_11 rfl ?_
  refine q_iconst (pc := 4) (v := nI 2) dX5_objectors_4 (by decide) ?_
  obtain ⟨v1, h2, h⟩ := Option.bind_eq_some_iff.mp h
  refine q_iald (pc := 5) dX5_objectors_5 sh_5 h2 ?_
  obtain rfl := Option.some.inj h
  exact q_iret (pc := 6) dX5_objectors_6 rfl rfl rfl
def f_X7_faultOfWord (a1 : Int32) (M : qM) : Option Int32 :=
  (f_X5_least_at4 M).bind fun r3 => if r3 = 0 then if a1 = nI 99 then (f_X5_couples_at4 M).bind fun r8 => if (nI 6) ≤ r8 then (f_X7_faultOfMore (nI 1) (nI 0) M).bind fun r12 => some (r12)
    else (f_X7_faultOfMore (nI 1) (nI 1) M).bind fun r15 => some (r15)
    else if a1 = nI 100 then some (nI 0)
    else if a1 = nI 111 then (f_X5_objectors_at4 M).bind fun r20 => if (nI 6) ≤ r20 then (f_X7_faultOfMore (nI 1) (nI 0) M).bind fun r24 => some (r24)
    else (f_X7_faultOfMore (nI 1) (nI 1) M).bind fun r27 => some (r27)
    else some (nI 1)
    else if a1 = nI 99 then (f_X5_couples_at4 M).bind fun r31 => if (nI 6) ≤ r31 then (f_X7_faultOfMore (nI 0) (nI 0) M).bind fun r35 => some (r35)
    else (f_X7_faultOfMore (nI 0) (nI 1) M).bind fun r38 => some (r38)
    else if a1 = nI 100 then some (nI 3)
    else if a1 = nI 111 then (f_X5_objectors_at4 M).bind fun r43 => if (nI 6) ≤ r43 then (f_X7_faultOfMore (nI 0) (nI 0) M).bind fun r47 => some (r47)
    else (f_X7_faultOfMore (nI 0) (nI 1) M).bind fun r50 => some (r50)
    else some (nI 1)
set_option maxRecDepth 20000 in
set_option maxHeartbeats 4000000 in
theorem a_X7_faultOfWord {G : qG} {a1 : Int32} {M : qM} {J : qJ} {r : Int32} (h : f_X7_faultOfWord a1 M = some (r)) : QM G 1 0 0 YX7_faultOfWord [.ref 3, .int a1] SH M J (some (.int r), SH, M, J) := by
  refine ⟨Nat.le_of_ble_eq_true rfl, Or.inl rfl, ?_⟩
  show QW G (qrm 1 0 0) YX7_faultOfWord 0 0 0 [some (.ref 3), some (.int a1), none] [] SH M J _
  unfold f_X7_faultOfWord at h
  refine q_aload_n (pc := 0) dX7_faultOfWord_0 rfl ?_
  refine q_getf (pc := 1) (f := 0) (v := .ref 4) dX7_faultOfWord_1 sh_3 cl_7 inX7 rfl (by decide) lk_X7_12 rfl ?_
  obtain ⟨r3, h2, h⟩ := Option.bind_eq_some_iff.mp h
  refine q_callv (pc := 4) (st := []) (a_X5_least_at4 h2) okX5_least rfl dX7_faultOfWord_4 lk_X7_61 sh_4 cl_5 rfl (by decide) (by decide) (Nat.le_of_ble_eq_true rfl) ⟨Nat.le_of_ble_eq_true rfl, Nat.le_of_ble_eq_true rfl⟩ rfl ?_
  show QW G (qrm 1 0 0) YX7_faultOfWord 0 0 7 [some (.ref 3), some (.int a1), none] [.int r3] SH M J _
  by_cases k4 : r3 = 0
  · rw [if_pos k4] at h
    refine q_if_ne_f (pc := 7) (tgt := 14) dX7_faultOfWord_7 (by decide) k4 ?_
    refine q_iconst (pc := 10) (v := nI 1) dX7_faultOfWord_10 (by decide) ?_
    refine q_goto (pc := 11) (tgt := 15) dX7_faultOfWord_11 (by decide) ?_
    refine q_istore_n (pc := 15) (ls' := [some (.ref 3), some (.int a1), some (.int (nI 1))]) dX7_faultOfWord_15 (by decide) rfl rfl ?_
    refine q_iload_n (pc := 16) dX7_faultOfWord_16 rfl ?_
    by_cases k5 : a1 = nI 99
    · rw [if_pos k5] at h
      refine q_look (pc := 17) (tgt := 62) (off := 45) dX7_faultOfWord_17 (by decide) (by rw [k5]; rfl) (by decide) ?_
      refine q_iload_n (pc := 62) dX7_faultOfWord_62 rfl ?_
      refine q_aload_n (pc := 63) dX7_faultOfWord_63 rfl ?_
      refine q_getf (pc := 64) (f := 0) (v := .ref 4) dX7_faultOfWord_64 sh_3 cl_7 inX7 rfl (by decide) lk_X7_12 rfl ?_
      obtain ⟨r8, h7, h⟩ := Option.bind_eq_some_iff.mp h
      refine q_callv (pc := 67) (st := [.int (nI 1)]) (a_X5_couples_at4 h7) okX5_couples rfl dX7_faultOfWord_67 lk_X7_65 sh_4 cl_5 rfl (by decide) (by decide) (Nat.le_of_ble_eq_true rfl) ⟨Nat.le_of_ble_eq_true rfl, Nat.le_of_ble_eq_true rfl⟩ rfl ?_
      show QW G (qrm 1 0 0) YX7_faultOfWord 0 0 70 [some (.ref 3), some (.int a1), some (.int (nI 1))] [.int r8, .int (nI 1)] SH M J _
      refine q_bipush (pc := 70) (v := nI 6) dX7_faultOfWord_70 (by decide) ?_
      by_cases k9 : (nI 6) ≤ r8
      · rw [if_pos k9] at h
        refine q_icmp_ge_t (pc := 72) (tgt := 79) dX7_faultOfWord_72 (by decide) k9 ?_
        refine q_iconst (pc := 79) (v := nI 0) dX7_faultOfWord_79 (by decide) ?_
        obtain ⟨r12, h11, h⟩ := Option.bind_eq_some_iff.mp h
        refine q_calls (pc := 80) (st := []) (a_X7_faultOfMore h11) okX7_faultOfMore rfl dX7_faultOfWord_80 lk_X7_68 rfl (by decide) (by decide) (Nat.le_of_ble_eq_true rfl) ⟨Nat.le_of_ble_eq_true rfl, Nat.le_of_ble_eq_true rfl⟩ rfl ?_
        show QW G (qrm 1 0 0) YX7_faultOfWord 0 0 83 [some (.ref 3), some (.int a1), some (.int (nI 1))] [.int r12] SH M J _
        obtain rfl := Option.some.inj h
        exact q_iret (pc := 83) dX7_faultOfWord_83 rfl rfl rfl
      · rw [if_neg k9] at h
        refine q_icmp_ge_f (pc := 72) (tgt := 79) dX7_faultOfWord_72 (by decide) k9 ?_
        refine q_iconst (pc := 75) (v := nI 1) dX7_faultOfWord_75 (by decide) ?_
        refine q_goto (pc := 76) (tgt := 80) dX7_faultOfWord_76 (by decide) ?_
        obtain ⟨r15, h14, h⟩ := Option.bind_eq_some_iff.mp h
        refine q_calls (pc := 80) (st := []) (a_X7_faultOfMore h14) okX7_faultOfMore rfl dX7_faultOfWord_80 lk_X7_68 rfl (by decide) (by decide) (Nat.le_of_ble_eq_true rfl) ⟨Nat.le_of_ble_eq_true rfl, Nat.le_of_ble_eq_true rfl⟩ rfl ?_
        show QW G (qrm 1 0 0) YX7_faultOfWord 0 0 83 [some (.ref 3), some (.int a1), some (.int (nI 1))] [.int r15] SH M J _
        obtain rfl := Option.some.inj h
        exact q_iret (pc := 83) dX7_faultOfWord_83 rfl rfl rfl
    · rw [if_neg k5] at h
      by_cases k16 : a1 = nI 100
      · rw [if_pos k16] at h
        refine q_look (pc := 17) (tgt := 52) (off := 35) dX7_faultOfWord_17 (by decide) (by rw [k16]; rfl) (by decide) ?_
        refine q_iload_n (pc := 52) dX7_faultOfWord_52 rfl ?_
        refine q_if_eq_f (pc := 53) (tgt := 60) dX7_faultOfWord_53 (by decide) (by decide) ?_
        refine q_iconst (pc := 56) (v := nI 0) dX7_faultOfWord_56 (by decide) ?_
        refine q_goto (pc := 57) (tgt := 61) dX7_faultOfWord_57 (by decide) ?_
        obtain rfl := Option.some.inj h
        exact q_iret (pc := 61) dX7_faultOfWord_61 rfl rfl rfl
      · rw [if_neg k16] at h
        by_cases k17 : a1 = nI 111
        · rw [if_pos k17] at h
          refine q_look (pc := 17) (tgt := 84) (off := 67) dX7_faultOfWord_17 (by decide) (by rw [k17]; rfl) (by decide) ?_
          refine q_iload_n (pc := 84) dX7_faultOfWord_84 rfl ?_
          refine q_aload_n (pc := 85) dX7_faultOfWord_85 rfl ?_
          refine q_getf (pc := 86) (f := 0) (v := .ref 4) dX7_faultOfWord_86 sh_3 cl_7 inX7 rfl (by decide) lk_X7_12 rfl ?_
          obtain ⟨r20, h19, h⟩ := Option.bind_eq_some_iff.mp h
          refine q_callv (pc := 89) (st := [.int (nI 1)]) (a_X5_objectors_at4 h19) okX5_objectors rfl dX7_faultOfWord_89 lk_X7_72 sh_4 cl_5 rfl (by decide) (by decide) (Nat.le_of_ble_eq_true rfl) ⟨Nat.le_of_ble_eq_true rfl, Nat.le_of_ble_eq_true rfl⟩ rfl ?_
          show QW G (qrm 1 0 0) YX7_faultOfWord 0 0 92 [some (.ref 3), some (.int a1), some (.int (nI 1))] [.int r20, .int (nI 1)] SH M J _
          refine q_bipush (pc := 92) (v := nI 6) dX7_faultOfWord_92 (by decide) ?_
          by_cases k21 : (nI 6) ≤ r20
          · rw [if_pos k21] at h
            refine q_icmp_ge_t (pc := 94) (tgt := 101) dX7_faultOfWord_94 (by decide) k21 ?_
            refine q_iconst (pc := 101) (v := nI 0) dX7_faultOfWord_101 (by decide) ?_
            obtain ⟨r24, h23, h⟩ := Option.bind_eq_some_iff.mp h
            refine q_calls (pc := 102) (st := []) (a_X7_faultOfMore h23) okX7_faultOfMore rfl dX7_faultOfWord_102 lk_X7_68 rfl (by decide) (by decide) (Nat.le_of_ble_eq_true rfl) ⟨Nat.le_of_ble_eq_true rfl, Nat.le_of_ble_eq_true rfl⟩ rfl ?_
            show QW G (qrm 1 0 0) YX7_faultOfWord 0 0 105 [some (.ref 3), some (.int a1), some (.int (nI 1))] [.int r24] SH M J _
            obtain rfl := Option.some.inj h
            exact q_iret (pc := 105) dX7_faultOfWord_105 rfl rfl rfl
          · rw [if_neg k21] at h
            refine q_icmp_ge_f (pc := 94) (tgt := 101) dX7_faultOfWord_94 (by decide) k21 ?_
            refine q_iconst (pc := 97) (v := nI 1) dX7_faultOfWord_97 (by decide) ?_
            refine q_goto (pc := 98) (tgt := 102) dX7_faultOfWord_98 (by decide) ?_
            obtain ⟨r27, h26, h⟩ := Option.bind_eq_some_iff.mp h
            refine q_calls (pc := 102) (st := []) (a_X7_faultOfMore h26) okX7_faultOfMore rfl dX7_faultOfWord_102 lk_X7_68 rfl (by decide) (by decide) (Nat.le_of_ble_eq_true rfl) ⟨Nat.le_of_ble_eq_true rfl, Nat.le_of_ble_eq_true rfl⟩ rfl ?_
            show QW G (qrm 1 0 0) YX7_faultOfWord 0 0 105 [some (.ref 3), some (.int a1), some (.int (nI 1))] [.int r27] SH M J _
            obtain rfl := Option.some.inj h
            exact q_iret (pc := 105) dX7_faultOfWord_105 rfl rfl rfl
        · rw [if_neg k17] at h
          refine q_look (pc := 17) (tgt := 106) (off := 89) dX7_faultOfWord_17 (by decide) (by show Op.lookupswitch.offset [(99, 45), (100, 35), (111, 67)] 89 a1.toInt = _; rw [lv_osw k5 (show (nI 99).toInt = 99 from rfl), lv_osw k16 (show (nI 100).toInt = 100 from rfl), lv_osw k17 (show (nI 111).toInt = 111 from rfl)]; rfl) (by decide) ?_
          refine q_iconst (pc := 106) (v := nI 1) dX7_faultOfWord_106 (by decide) ?_
          obtain rfl := Option.some.inj h
          exact q_iret (pc := 107) dX7_faultOfWord_107 rfl rfl rfl
  · rw [if_neg k4] at h
    refine q_if_ne_t (pc := 7) (tgt := 14) dX7_faultOfWord_7 (by decide) k4 ?_
    refine q_iconst (pc := 14) (v := nI 0) dX7_faultOfWord_14 (by decide) ?_
    refine q_istore_n (pc := 15) (ls' := [some (.ref 3), some (.int a1), some (.int (nI 0))]) dX7_faultOfWord_15 (by decide) rfl rfl ?_
    refine q_iload_n (pc := 16) dX7_faultOfWord_16 rfl ?_
    by_cases k28 : a1 = nI 99
    · rw [if_pos k28] at h
      refine q_look (pc := 17) (tgt := 62) (off := 45) dX7_faultOfWord_17 (by decide) (by rw [k28]; rfl) (by decide) ?_
      refine q_iload_n (pc := 62) dX7_faultOfWord_62 rfl ?_
      refine q_aload_n (pc := 63) dX7_faultOfWord_63 rfl ?_
      refine q_getf (pc := 64) (f := 0) (v := .ref 4) dX7_faultOfWord_64 sh_3 cl_7 inX7 rfl (by decide) lk_X7_12 rfl ?_
      obtain ⟨r31, h30, h⟩ := Option.bind_eq_some_iff.mp h
      refine q_callv (pc := 67) (st := [.int (nI 0)]) (a_X5_couples_at4 h30) okX5_couples rfl dX7_faultOfWord_67 lk_X7_65 sh_4 cl_5 rfl (by decide) (by decide) (Nat.le_of_ble_eq_true rfl) ⟨Nat.le_of_ble_eq_true rfl, Nat.le_of_ble_eq_true rfl⟩ rfl ?_
      show QW G (qrm 1 0 0) YX7_faultOfWord 0 0 70 [some (.ref 3), some (.int a1), some (.int (nI 0))] [.int r31, .int (nI 0)] SH M J _
      refine q_bipush (pc := 70) (v := nI 6) dX7_faultOfWord_70 (by decide) ?_
      by_cases k32 : (nI 6) ≤ r31
      · rw [if_pos k32] at h
        refine q_icmp_ge_t (pc := 72) (tgt := 79) dX7_faultOfWord_72 (by decide) k32 ?_
        refine q_iconst (pc := 79) (v := nI 0) dX7_faultOfWord_79 (by decide) ?_
        obtain ⟨r35, h34, h⟩ := Option.bind_eq_some_iff.mp h
        refine q_calls (pc := 80) (st := []) (a_X7_faultOfMore h34) okX7_faultOfMore rfl dX7_faultOfWord_80 lk_X7_68 rfl (by decide) (by decide) (Nat.le_of_ble_eq_true rfl) ⟨Nat.le_of_ble_eq_true rfl, Nat.le_of_ble_eq_true rfl⟩ rfl ?_
        show QW G (qrm 1 0 0) YX7_faultOfWord 0 0 83 [some (.ref 3), some (.int a1), some (.int (nI 0))] [.int r35] SH M J _
        obtain rfl := Option.some.inj h
        exact q_iret (pc := 83) dX7_faultOfWord_83 rfl rfl rfl
      · rw [if_neg k32] at h
        refine q_icmp_ge_f (pc := 72) (tgt := 79) dX7_faultOfWord_72 (by decide) k32 ?_
        refine q_iconst (pc := 75) (v := nI 1) dX7_faultOfWord_75 (by decide) ?_
        refine q_goto (pc := 76) (tgt := 80) dX7_faultOfWord_76 (by decide) ?_
        obtain ⟨r38, h37, h⟩ := Option.bind_eq_some_iff.mp h
        refine q_calls (pc := 80) (st := []) (a_X7_faultOfMore h37) okX7_faultOfMore rfl dX7_faultOfWord_80 lk_X7_68 rfl (by decide) (by decide) (Nat.le_of_ble_eq_true rfl) ⟨Nat.le_of_ble_eq_true rfl, Nat.le_of_ble_eq_true rfl⟩ rfl ?_
        show QW G (qrm 1 0 0) YX7_faultOfWord 0 0 83 [some (.ref 3), some (.int a1), some (.int (nI 0))] [.int r38] SH M J _
        obtain rfl := Option.some.inj h
        exact q_iret (pc := 83) dX7_faultOfWord_83 rfl rfl rfl
    · rw [if_neg k28] at h
      by_cases k39 : a1 = nI 100
      · rw [if_pos k39] at h
        refine q_look (pc := 17) (tgt := 52) (off := 35) dX7_faultOfWord_17 (by decide) (by rw [k39]; rfl) (by decide) ?_
        refine q_iload_n (pc := 52) dX7_faultOfWord_52 rfl ?_
        refine q_if_eq_t (pc := 53) (tgt := 60) dX7_faultOfWord_53 (by decide) (by decide) ?_
        refine q_iconst (pc := 60) (v := nI 3) dX7_faultOfWord_60 (by decide) ?_
        obtain rfl := Option.some.inj h
        exact q_iret (pc := 61) dX7_faultOfWord_61 rfl rfl rfl
      · rw [if_neg k39] at h
        by_cases k40 : a1 = nI 111
        · rw [if_pos k40] at h
          refine q_look (pc := 17) (tgt := 84) (off := 67) dX7_faultOfWord_17 (by decide) (by rw [k40]; rfl) (by decide) ?_
          refine q_iload_n (pc := 84) dX7_faultOfWord_84 rfl ?_
          refine q_aload_n (pc := 85) dX7_faultOfWord_85 rfl ?_
          refine q_getf (pc := 86) (f := 0) (v := .ref 4) dX7_faultOfWord_86 sh_3 cl_7 inX7 rfl (by decide) lk_X7_12 rfl ?_
          obtain ⟨r43, h42, h⟩ := Option.bind_eq_some_iff.mp h
          refine q_callv (pc := 89) (st := [.int (nI 0)]) (a_X5_objectors_at4 h42) okX5_objectors rfl dX7_faultOfWord_89 lk_X7_72 sh_4 cl_5 rfl (by decide) (by decide) (Nat.le_of_ble_eq_true rfl) ⟨Nat.le_of_ble_eq_true rfl, Nat.le_of_ble_eq_true rfl⟩ rfl ?_
          show QW G (qrm 1 0 0) YX7_faultOfWord 0 0 92 [some (.ref 3), some (.int a1), some (.int (nI 0))] [.int r43, .int (nI 0)] SH M J _
          refine q_bipush (pc := 92) (v := nI 6) dX7_faultOfWord_92 (by decide) ?_
          by_cases k44 : (nI 6) ≤ r43
          · rw [if_pos k44] at h
            refine q_icmp_ge_t (pc := 94) (tgt := 101) dX7_faultOfWord_94 (by decide) k44 ?_
            refine q_iconst (pc := 101) (v := nI 0) dX7_faultOfWord_101 (by decide) ?_
            obtain ⟨r47, h46, h⟩ := Option.bind_eq_some_iff.mp h
            refine q_calls (pc := 102) (st := []) (a_X7_faultOfMore h46) okX7_faultOfMore rfl dX7_faultOfWord_102 lk_X7_68 rfl (by decide) (by decide) (Nat.le_of_ble_eq_true rfl) ⟨Nat.le_of_ble_eq_true rfl, Nat.le_of_ble_eq_true rfl⟩ rfl ?_
            show QW G (qrm 1 0 0) YX7_faultOfWord 0 0 105 [some (.ref 3), some (.int a1), some (.int (nI 0))] [.int r47] SH M J _
            obtain rfl := Option.some.inj h
            exact q_iret (pc := 105) dX7_faultOfWord_105 rfl rfl rfl
          · rw [if_neg k44] at h
            refine q_icmp_ge_f (pc := 94) (tgt := 101) dX7_faultOfWord_94 (by decide) k44 ?_
            refine q_iconst (pc := 97) (v := nI 1) dX7_faultOfWord_97 (by decide) ?_
            refine q_goto (pc := 98) (tgt := 102) dX7_faultOfWord_98 (by decide) ?_
            obtain ⟨r50, h49, h⟩ := Option.bind_eq_some_iff.mp h
            refine q_calls (pc := 102) (st := []) (a_X7_faultOfMore h49) okX7_faultOfMore rfl dX7_faultOfWord_102 lk_X7_68 rfl (by decide) (by decide) (Nat.le_of_ble_eq_true rfl) ⟨Nat.le_of_ble_eq_true rfl, Nat.le_of_ble_eq_true rfl⟩ rfl ?_
            show QW G (qrm 1 0 0) YX7_faultOfWord 0 0 105 [some (.ref 3), some (.int a1), some (.int (nI 0))] [.int r50] SH M J _
            obtain rfl := Option.some.inj h
            exact q_iret (pc := 105) dX7_faultOfWord_105 rfl rfl rfl
        · rw [if_neg k40] at h
          refine q_look (pc := 17) (tgt := 106) (off := 89) dX7_faultOfWord_17 (by decide) (by show Op.lookupswitch.offset [(99, 45), (100, 35), (111, 67)] 89 a1.toInt = _; rw [lv_osw k28 (show (nI 99).toInt = 99 from rfl), lv_osw k39 (show (nI 100).toInt = 100 from rfl), lv_osw k40 (show (nI 111).toInt = 111 from rfl)]; rfl) (by decide) ?_
          refine q_iconst (pc := 106) (v := nI 1) dX7_faultOfWord_106 (by decide) ?_
          obtain rfl := Option.some.inj h
          exact q_iret (pc := 107) dX7_faultOfWord_107 rfl rfl rfl
def f_X7_isFigure (a0 : Int32) (M : qM) : Option Bool :=
  if a0 < (nI 48) then some (false)
    else if (nI 57) < a0 then some (false)
    else some (true)
set_option maxRecDepth 20000 in
set_option maxHeartbeats 4000000 in
theorem a_X7_isFigure {G : qG} {a0 : Int32} {M : qM} {J : qJ} {r : Bool} (h : f_X7_isFigure a0 M = some (r)) : QM G 0 0 0 YX7_isFigure [.int a0] SH M J (some (.int (qb r)), SH, M, J) := by
  refine ⟨Nat.le_of_ble_eq_true rfl, Or.inr ⟨rfl, _, rfl⟩, ?_⟩
  show QW G (qrm 0 0 0) YX7_isFigure 0 0 0 [some (.int a0)] [] SH M J _
  unfold f_X7_isFigure at h
  refine q_iload_n (pc := 0) dX7_isFigure_0 rfl ?_
  refine q_bipush (pc := 1) (v := nI 48) dX7_isFigure_1 (by decide) ?_
  by_cases k1 : a0 < (nI 48)
  · rw [if_pos k1] at h
    refine q_icmp_lt_t (pc := 3) (tgt := 16) dX7_isFigure_3 (by decide) k1 ?_
    refine q_iconst (pc := 16) (v := nI 0) dX7_isFigure_16 (by decide) ?_
    obtain rfl := Option.some.inj h
    exact q_iret (pc := 17) dX7_isFigure_17 rfl rfl rfl
  · rw [if_neg k1] at h
    refine q_icmp_lt_f (pc := 3) (tgt := 16) dX7_isFigure_3 (by decide) k1 ?_
    refine q_iload_n (pc := 6) dX7_isFigure_6 rfl ?_
    refine q_bipush (pc := 7) (v := nI 57) dX7_isFigure_7 (by decide) ?_
    by_cases k2 : (nI 57) < a0
    · rw [if_pos k2] at h
      refine q_icmp_gt_t (pc := 9) (tgt := 16) dX7_isFigure_9 (by decide) k2 ?_
      refine q_iconst (pc := 16) (v := nI 0) dX7_isFigure_16 (by decide) ?_
      obtain rfl := Option.some.inj h
      exact q_iret (pc := 17) dX7_isFigure_17 rfl rfl rfl
    · rw [if_neg k2] at h
      refine q_icmp_gt_f (pc := 9) (tgt := 16) dX7_isFigure_9 (by decide) k2 ?_
      refine q_iconst (pc := 12) (v := nI 1) dX7_isFigure_12 (by decide) ?_
      refine q_goto (pc := 13) (tgt := 17) dX7_isFigure_13 (by decide) ?_
      obtain rfl := Option.some.inj h
      exact q_iret (pc := 17) dX7_isFigure_17 rfl rfl rfl
def f_X7_fail (a1 : Int32) (a2 : Int32) (M : qM) : Option qM :=
  if (M 3 5) = 0 then (qpu M 3 5 a1).bind fun M2 => (qpu M2 3 2 a2).bind fun M4 => some (M4)
    else some (M)
set_option maxRecDepth 20000 in
set_option maxHeartbeats 4000000 in
theorem a_X7_fail {G : qG} {a1 : Int32} {a2 : Int32} {M : qM} {J : qJ} {M' : qM} (h : f_X7_fail a1 a2 M = some (M')) : QM G 0 0 0 YX7_fail [.ref 3, .int a1, .int a2] SH M J (none, SH, M', J) := by
  refine ⟨Nat.le_of_ble_eq_true rfl, rfl, ?_⟩
  show QW G (qrm 0 0 0) YX7_fail 0 0 0 [some (.ref 3), some (.int a1), some (.int a2)] [] SH M J _
  unfold f_X7_fail at h
  refine q_aload_n (pc := 0) dX7_fail_0 rfl ?_
  refine q_getf (pc := 1) (f := 5) (v := .int (M 3 5)) dX7_fail_1 sh_3 cl_7 inX7 rfl (by decide) lk_X7_32 rfl ?_
  by_cases k1 : (M 3 5) = 0
  · rw [if_pos k1] at h
    refine q_if_ne_f (pc := 4) (tgt := 17) dX7_fail_4 (by decide) k1 ?_
    refine q_aload_n (pc := 7) dX7_fail_7 rfl ?_
    refine q_iload_n (pc := 8) dX7_fail_8 rfl ?_
    obtain ⟨M2, h3, h⟩ := Option.bind_eq_some_iff.mp h
    refine q_putI (pc := 9) (f := 5) tyX7 dX7_fail_9 sh_3 cl_7 inX7 tyX7_ok nmX7 rfl (by decide) lk_X7_32 rfl rfl rfl h3 ?_
    refine q_aload_n (pc := 12) dX7_fail_12 rfl ?_
    refine q_iload_n (pc := 13) dX7_fail_13 rfl ?_
    obtain ⟨M4, h5, h⟩ := Option.bind_eq_some_iff.mp h
    refine q_putI (pc := 14) (f := 2) tyX7 dX7_fail_14 sh_3 cl_7 inX7 tyX7_ok nmX7 rfl (by decide) lk_X7_22 rfl rfl rfl h5 ?_
    obtain rfl := Option.some.inj h
    exact q_vret (pc := 17) dX7_fail_17 rfl rfl rfl
  · rw [if_neg k1] at h
    refine q_if_ne_t (pc := 4) (tgt := 17) dX7_fail_4 (by decide) k1 ?_
    obtain rfl := Option.some.inj h
    exact q_vret (pc := 17) dX7_fail_17 rfl rfl rfl
def f_X7_number_L12 (x1 : Int32) (x2 : Int32) (x3 : Int32) : Nat → Int32 → qM → Option (Int32 × qM)
  | 0, _, _ => none
  | n + 1, c4, M =>
  if (M 3 1) ≤ (M 3 4) then some (c4, M)
    else (qrd M 6 240 (M 3 4)).bind fun v5 => (f_X7_isFigure v5 M).bind fun b9 => if b9 = true then if (nI 3) ≤ ((M 3 4) - x3) then (qpu M 3 4 ((M 3 4) + (nI 1))).bind fun M12 => f_X7_number_L12 x1 x2 x3 n c4 M12
    else (qrd M 6 240 (M 3 4)).bind fun v14 => (qpu M 3 4 ((M 3 4) + (nI 1))).bind fun M16 => f_X7_number_L12 x1 x2 x3 n (((c4 * (nI 10)) + v14) - (nI 48)) M16
    else some (c4, M)
set_option maxRecDepth 20000 in
set_option maxHeartbeats 4000000 in
theorem l_X7_number_L12 {G : qG} {ρ : qR} (x1 : Int32) (x2 : Int32) (x3 : Int32) (J : qJ) : ∀ (n : Nat) (c4 : Int32) (M : qM) (res : Int32 × qM), f_X7_number_L12 x1 x2 x3 n c4 M = some res → (∀ x : Int32 × qM, res = x → QW G (qrm 1 0 0) YX7_number 0 0 81 [some (.ref 3), some (.int x1), some (.int x2), some (.int x3), some (.int x.1)] [] SH x.2 J ρ) → QW G (qrm 1 0 0) YX7_number 0 0 12 [some (.ref 3), some (.int x1), some (.int x2), some (.int x3), some (.int c4)] [] SH M J ρ
  | 0, _, _, _, h, _ => by simp [f_X7_number_L12] at h
  | n + 1, c4, M, res, h, hk => by
    rw [f_X7_number_L12] at h
    refine q_aload_n (pc := 12) dX7_number_12 rfl ?_
    refine q_getf (pc := 13) (f := 4) (v := .int (M 3 4)) dX7_number_13 sh_3 cl_7 inX7 rfl (by decide) lk_X7_29 rfl ?_
    refine q_aload_n (pc := 16) dX7_number_16 rfl ?_
    refine q_getf (pc := 17) (f := 1) (v := .int (M 3 1)) dX7_number_17 sh_3 cl_7 inX7 rfl (by decide) lk_X7_18 rfl ?_
    by_cases k4 : (M 3 1) ≤ (M 3 4)
    · rw [if_pos k4] at h
      refine q_icmp_ge_t (pc := 20) (tgt := 81) dX7_number_20 (by decide) k4 ?_
      obtain rfl := Option.some.inj h
      exact hk (c4, M) rfl
    · rw [if_neg k4] at h
      refine q_icmp_ge_f (pc := 20) (tgt := 81) dX7_number_20 (by decide) k4 ?_
      refine q_aload_n (pc := 23) dX7_number_23 rfl ?_
      refine q_getf (pc := 24) (f := 3) (v := .ref 6) dX7_number_24 sh_3 cl_7 inX7 rfl (by decide) lk_X7_25 rfl ?_
      refine q_aload_n (pc := 27) dX7_number_27 rfl ?_
      refine q_getf (pc := 28) (f := 4) (v := .int (M 3 4)) dX7_number_28 sh_3 cl_7 inX7 rfl (by decide) lk_X7_29 rfl ?_
      obtain ⟨v5, h6, h⟩ := Option.bind_eq_some_iff.mp h
      refine q_iald (pc := 31) dX7_number_31 sh_6 h6 ?_
      obtain ⟨b9, h8, h⟩ := Option.bind_eq_some_iff.mp h
      refine q_calls (pc := 32) (st := []) (a_X7_isFigure h8) okX7_isFigure rfl dX7_number_32 lk_X7_99 rfl (by decide) (by decide) (Nat.le_of_ble_eq_true rfl) ⟨Nat.le_of_ble_eq_true rfl, Nat.le_of_ble_eq_true rfl⟩ rfl ?_
      show QW G (qrm 1 0 0) YX7_number 0 0 35 [some (.ref 3), some (.int x1), some (.int x2), some (.int x3), some (.int c4)] [.int (qb b9)] SH M J _
      by_cases k10 : b9 = true
      · rw [if_pos k10] at h
        refine q_if_eq_f (pc := 35) (tgt := 81) dX7_number_35 (by decide) (qb_t k10) ?_
        refine q_aload_n (pc := 38) dX7_number_38 rfl ?_
        refine q_getf (pc := 39) (f := 4) (v := .int (M 3 4)) dX7_number_39 sh_3 cl_7 inX7 rfl (by decide) lk_X7_29 rfl ?_
        refine q_iload_n (pc := 42) dX7_number_42 rfl ?_
        refine q_isub (pc := 43) dX7_number_43 ?_
        refine q_iconst (pc := 44) (v := nI 3) dX7_number_44 (by decide) ?_
        by_cases k11 : (nI 3) ≤ ((M 3 4) - x3)
        · rw [if_pos k11] at h
          refine q_icmp_ge_t (pc := 45) (tgt := 68) dX7_number_45 (by decide) k11 ?_
          refine q_aload_n (pc := 68) dX7_number_68 rfl ?_
          refine q_dup (pc := 69) dX7_number_69 rfl ?_
          refine q_getf (pc := 70) (f := 4) (v := .int (M 3 4)) dX7_number_70 sh_3 cl_7 inX7 rfl (by decide) lk_X7_29 rfl ?_
          refine q_iconst (pc := 73) (v := nI 1) dX7_number_73 (by decide) ?_
          refine q_iadd (pc := 74) dX7_number_74 ?_
          obtain ⟨M12, h13, h⟩ := Option.bind_eq_some_iff.mp h
          refine q_putI (pc := 75) (f := 4) tyX7 dX7_number_75 sh_3 cl_7 inX7 tyX7_ok nmX7 rfl (by decide) lk_X7_29 rfl rfl rfl h13 ?_
          refine q_goto (pc := 78) (tgt := 12) dX7_number_78 (by decide) ?_
          exact l_X7_number_L12 x1 x2 x3 J n c4 M12 res h hk
        · rw [if_neg k11] at h
          refine q_icmp_ge_f (pc := 45) (tgt := 68) dX7_number_45 (by decide) k11 ?_
          refine q_iload (pc := 48) dX7_number_48 rfl ?_
          refine q_bipush (pc := 50) (v := nI 10) dX7_number_50 (by decide) ?_
          refine q_imul (pc := 52) dX7_number_52 ?_
          refine q_aload_n (pc := 53) dX7_number_53 rfl ?_
          refine q_getf (pc := 54) (f := 3) (v := .ref 6) dX7_number_54 sh_3 cl_7 inX7 rfl (by decide) lk_X7_25 rfl ?_
          refine q_aload_n (pc := 57) dX7_number_57 rfl ?_
          refine q_getf (pc := 58) (f := 4) (v := .int (M 3 4)) dX7_number_58 sh_3 cl_7 inX7 rfl (by decide) lk_X7_29 rfl ?_
          obtain ⟨v14, h15, h⟩ := Option.bind_eq_some_iff.mp h
          refine q_iald (pc := 61) dX7_number_61 sh_6 h15 ?_
          refine q_iadd (pc := 62) dX7_number_62 ?_
          refine q_bipush (pc := 63) (v := nI 48) dX7_number_63 (by decide) ?_
          refine q_isub (pc := 65) dX7_number_65 ?_
          refine q_istore (pc := 66) (ls' := [some (.ref 3), some (.int x1), some (.int x2), some (.int x3), some (.int (((c4 * (nI 10)) + v14) - (nI 48)))]) dX7_number_66 (by decide) rfl rfl ?_
          refine q_aload_n (pc := 68) dX7_number_68 rfl ?_
          refine q_dup (pc := 69) dX7_number_69 rfl ?_
          refine q_getf (pc := 70) (f := 4) (v := .int (M 3 4)) dX7_number_70 sh_3 cl_7 inX7 rfl (by decide) lk_X7_29 rfl ?_
          refine q_iconst (pc := 73) (v := nI 1) dX7_number_73 (by decide) ?_
          refine q_iadd (pc := 74) dX7_number_74 ?_
          obtain ⟨M16, h17, h⟩ := Option.bind_eq_some_iff.mp h
          refine q_putI (pc := 75) (f := 4) tyX7 dX7_number_75 sh_3 cl_7 inX7 tyX7_ok nmX7 rfl (by decide) lk_X7_29 rfl rfl rfl h17 ?_
          refine q_goto (pc := 78) (tgt := 12) dX7_number_78 (by decide) ?_
          exact l_X7_number_L12 x1 x2 x3 J n (((c4 * (nI 10)) + v14) - (nI 48)) M16 res h hk
      · rw [if_neg k10] at h
        refine q_if_eq_t (pc := 35) (tgt := 81) dX7_number_35 (by decide) (qb_f k10) ?_
        obtain rfl := Option.some.inj h
        exact hk (c4, M) rfl
def f_X7_number (a1 : Int32) (a2 : Int32) (M : qM) : Option (Int32 × qM) :=
  (f_X7_skipBlanks M).bind fun M3 => (f_X7_number_L12 a1 a2 (M3 3 4) qF (nI 0) M3).bind fun e18 => if (e18.2 3 4) = (M3 3 4) then (f_X7_fail (nI 1) (e18.2 3 4) e18.2).bind fun M23 => some (e18.1, M23)
    else if (nI 3) < ((e18.2 3 4) - (M3 3 4)) then (f_X7_fail (nI 2) (M3 3 4) e18.2).bind fun M27 => some (e18.1, M27)
    else if e18.1 < a1 then (f_X7_fail (nI 2) (M3 3 4) e18.2).bind fun M31 => some (e18.1, M31)
    else if e18.1 ≤ a2 then some (e18.1, e18.2)
    else (f_X7_fail (nI 2) (M3 3 4) e18.2).bind fun M35 => some (e18.1, M35)
set_option maxRecDepth 20000 in
set_option maxHeartbeats 4000000 in
theorem a_X7_number {G : qG} {a1 : Int32} {a2 : Int32} {M : qM} {J : qJ} {r : Int32} {M' : qM} (h : f_X7_number a1 a2 M = some (r, M')) : QM G 1 0 0 YX7_number [.ref 3, .int a1, .int a2] SH M J (some (.int r), SH, M', J) := by
  refine ⟨Nat.le_of_ble_eq_true rfl, Or.inl rfl, ?_⟩
  show QW G (qrm 1 0 0) YX7_number 0 0 0 [some (.ref 3), some (.int a1), some (.int a2), none, none] [] SH M J _
  unfold f_X7_number at h
  refine q_aload_n (pc := 0) dX7_number_0 rfl ?_
  obtain ⟨M3, h2, h⟩ := Option.bind_eq_some_iff.mp h
  refine q_callv (pc := 1) (st := []) (a_X7_skipBlanks h2) okX7_skipBlanks rfl dX7_number_1 lk_X7_38 sh_3 cl_7 rfl (by decide) (by decide) (Nat.le_of_ble_eq_true rfl) ⟨Nat.le_of_ble_eq_true rfl, Nat.le_of_ble_eq_true rfl⟩ rfl ?_
  show QW G (qrm 1 0 0) YX7_number 0 0 4 [some (.ref 3), some (.int a1), some (.int a2), none, none] [] SH M3 J _
  refine q_aload_n (pc := 4) dX7_number_4 rfl ?_
  refine q_getf (pc := 5) (f := 4) (v := .int (M3 3 4)) dX7_number_5 sh_3 cl_7 inX7 rfl (by decide) lk_X7_29 rfl ?_
  refine q_istore_n (pc := 8) (ls' := [some (.ref 3), some (.int a1), some (.int a2), some (.int (M3 3 4)), none]) dX7_number_8 (by decide) rfl rfl ?_
  refine q_iconst (pc := 9) (v := nI 0) dX7_number_9 (by decide) ?_
  refine q_istore (pc := 10) (ls' := [some (.ref 3), some (.int a1), some (.int a2), some (.int (M3 3 4)), some (.int (nI 0))]) dX7_number_10 (by decide) rfl rfl ?_
  obtain ⟨⟨e18_4, M19⟩, h36, h⟩ := Option.bind_eq_some_iff.mp h
  try dsimp only at h
  refine l_X7_number_L12 a1 a2 (M3 3 4) J qF (nI 0) M3 _ h36 (fun x hx => ?_)
  subst hx
  show QW G (qrm 1 0 0) YX7_number 0 0 81 [some (.ref 3), some (.int a1), some (.int a2), some (.int (M3 3 4)), some (.int e18_4)] [] SH M19 J _
  refine q_aload_n (pc := 81) dX7_number_81 rfl ?_
  refine q_getf (pc := 82) (f := 4) (v := .int (M19 3 4)) dX7_number_82 sh_3 cl_7 inX7 rfl (by decide) lk_X7_29 rfl ?_
  refine q_iload_n (pc := 85) dX7_number_85 rfl ?_
  by_cases k20 : (M19 3 4) = (M3 3 4)
  · rw [if_pos k20] at h
    refine q_icmp_ne_f (pc := 86) (tgt := 101) dX7_number_86 (by decide) k20 ?_
    refine q_aload_n (pc := 89) dX7_number_89 rfl ?_
    refine q_iconst (pc := 90) (v := nI 1) dX7_number_90 (by decide) ?_
    refine q_aload_n (pc := 91) dX7_number_91 rfl ?_
    refine q_getf (pc := 92) (f := 4) (v := .int (M19 3 4)) dX7_number_92 sh_3 cl_7 inX7 rfl (by decide) lk_X7_29 rfl ?_
    obtain ⟨M23, h22, h⟩ := Option.bind_eq_some_iff.mp h
    refine q_callv (pc := 95) (st := []) (a_X7_fail h22) okX7_fail rfl dX7_number_95 lk_X7_48 sh_3 cl_7 rfl (by decide) (by decide) (Nat.le_of_ble_eq_true rfl) ⟨Nat.le_of_ble_eq_true rfl, Nat.le_of_ble_eq_true rfl⟩ rfl ?_
    show QW G (qrm 1 0 0) YX7_number 0 0 98 [some (.ref 3), some (.int a1), some (.int a2), some (.int (M3 3 4)), some (.int e18_4)] [] SH M23 J _
    refine q_goto (pc := 98) (tgt := 129) dX7_number_98 (by decide) ?_
    refine q_iload (pc := 129) dX7_number_129 rfl ?_
    have h := Option.some.inj h
    obtain ⟨rfl, rfl⟩ := Prod.mk.inj h
    exact q_iret (pc := 131) dX7_number_131 rfl rfl rfl
  · rw [if_neg k20] at h
    refine q_icmp_ne_t (pc := 86) (tgt := 101) dX7_number_86 (by decide) k20 ?_
    refine q_aload_n (pc := 101) dX7_number_101 rfl ?_
    refine q_getf (pc := 102) (f := 4) (v := .int (M19 3 4)) dX7_number_102 sh_3 cl_7 inX7 rfl (by decide) lk_X7_29 rfl ?_
    refine q_iload_n (pc := 105) dX7_number_105 rfl ?_
    refine q_isub (pc := 106) dX7_number_106 ?_
    refine q_iconst (pc := 107) (v := nI 3) dX7_number_107 (by decide) ?_
    by_cases k24 : (nI 3) < ((M19 3 4) - (M3 3 4))
    · rw [if_pos k24] at h
      refine q_icmp_gt_t (pc := 108) (tgt := 123) dX7_number_108 (by decide) k24 ?_
      refine q_aload_n (pc := 123) dX7_number_123 rfl ?_
      refine q_iconst (pc := 124) (v := nI 2) dX7_number_124 (by decide) ?_
      refine q_iload_n (pc := 125) dX7_number_125 rfl ?_
      obtain ⟨M27, h26, h⟩ := Option.bind_eq_some_iff.mp h
      refine q_callv (pc := 126) (st := []) (a_X7_fail h26) okX7_fail rfl dX7_number_126 lk_X7_48 sh_3 cl_7 rfl (by decide) (by decide) (Nat.le_of_ble_eq_true rfl) ⟨Nat.le_of_ble_eq_true rfl, Nat.le_of_ble_eq_true rfl⟩ rfl ?_
      show QW G (qrm 1 0 0) YX7_number 0 0 129 [some (.ref 3), some (.int a1), some (.int a2), some (.int (M3 3 4)), some (.int e18_4)] [] SH M27 J _
      refine q_iload (pc := 129) dX7_number_129 rfl ?_
      have h := Option.some.inj h
      obtain ⟨rfl, rfl⟩ := Prod.mk.inj h
      exact q_iret (pc := 131) dX7_number_131 rfl rfl rfl
    · rw [if_neg k24] at h
      refine q_icmp_gt_f (pc := 108) (tgt := 123) dX7_number_108 (by decide) k24 ?_
      refine q_iload (pc := 111) dX7_number_111 rfl ?_
      refine q_iload_n (pc := 113) dX7_number_113 rfl ?_
      by_cases k28 : e18_4 < a1
      · rw [if_pos k28] at h
        refine q_icmp_lt_t (pc := 114) (tgt := 123) dX7_number_114 (by decide) k28 ?_
        refine q_aload_n (pc := 123) dX7_number_123 rfl ?_
        refine q_iconst (pc := 124) (v := nI 2) dX7_number_124 (by decide) ?_
        refine q_iload_n (pc := 125) dX7_number_125 rfl ?_
        obtain ⟨M31, h30, h⟩ := Option.bind_eq_some_iff.mp h
        refine q_callv (pc := 126) (st := []) (a_X7_fail h30) okX7_fail rfl dX7_number_126 lk_X7_48 sh_3 cl_7 rfl (by decide) (by decide) (Nat.le_of_ble_eq_true rfl) ⟨Nat.le_of_ble_eq_true rfl, Nat.le_of_ble_eq_true rfl⟩ rfl ?_
        show QW G (qrm 1 0 0) YX7_number 0 0 129 [some (.ref 3), some (.int a1), some (.int a2), some (.int (M3 3 4)), some (.int e18_4)] [] SH M31 J _
        refine q_iload (pc := 129) dX7_number_129 rfl ?_
        have h := Option.some.inj h
        obtain ⟨rfl, rfl⟩ := Prod.mk.inj h
        exact q_iret (pc := 131) dX7_number_131 rfl rfl rfl
      · rw [if_neg k28] at h
        refine q_icmp_lt_f (pc := 114) (tgt := 123) dX7_number_114 (by decide) k28 ?_
        refine q_iload (pc := 117) dX7_number_117 rfl ?_
        refine q_iload_n (pc := 119) dX7_number_119 rfl ?_
        by_cases k32 : e18_4 ≤ a2
        · rw [if_pos k32] at h
          refine q_icmp_le_t (pc := 120) (tgt := 129) dX7_number_120 (by decide) k32 ?_
          refine q_iload (pc := 129) dX7_number_129 rfl ?_
          have h := Option.some.inj h
          obtain ⟨rfl, rfl⟩ := Prod.mk.inj h
          exact q_iret (pc := 131) dX7_number_131 rfl rfl rfl
        · rw [if_neg k32] at h
          refine q_icmp_le_f (pc := 120) (tgt := 129) dX7_number_120 (by decide) k32 ?_
          refine q_aload_n (pc := 123) dX7_number_123 rfl ?_
          refine q_iconst (pc := 124) (v := nI 2) dX7_number_124 (by decide) ?_
          refine q_iload_n (pc := 125) dX7_number_125 rfl ?_
          obtain ⟨M35, h34, h⟩ := Option.bind_eq_some_iff.mp h
          refine q_callv (pc := 126) (st := []) (a_X7_fail h34) okX7_fail rfl dX7_number_126 lk_X7_48 sh_3 cl_7 rfl (by decide) (by decide) (Nat.le_of_ble_eq_true rfl) ⟨Nat.le_of_ble_eq_true rfl, Nat.le_of_ble_eq_true rfl⟩ rfl ?_
          show QW G (qrm 1 0 0) YX7_number 0 0 129 [some (.ref 3), some (.int a1), some (.int a2), some (.int (M3 3 4)), some (.int e18_4)] [] SH M35 J _
          refine q_iload (pc := 129) dX7_number_129 rfl ?_
          have h := Option.some.inj h
          obtain ⟨rfl, rfl⟩ := Prod.mk.inj h
          exact q_iret (pc := 131) dX7_number_131 rfl rfl rfl
def f_X7_expect (a1 : Int32) (M : qM) : Option qM :=
  (f_X7_skipBlanks M).bind fun M3 => if (M3 3 1) ≤ (M3 3 4) then (f_X7_fail (nI 1) (M3 3 4) M3).bind fun M7 => some (M7)
    else (qrd M3 6 240 (M3 3 4)).bind fun v8 => if v8 = a1 then (qpu M3 3 4 ((M3 3 4) + (nI 1))).bind fun M11 => some (M11)
    else (f_X7_fail (nI 1) (M3 3 4) M3).bind fun M15 => some (M15)
set_option maxRecDepth 20000 in
set_option maxHeartbeats 4000000 in
theorem a_X7_expect {G : qG} {a1 : Int32} {M : qM} {J : qJ} {M' : qM} (h : f_X7_expect a1 M = some (M')) : QM G 1 0 0 YX7_expect [.ref 3, .int a1] SH M J (none, SH, M', J) := by
  refine ⟨Nat.le_of_ble_eq_true rfl, rfl, ?_⟩
  show QW G (qrm 1 0 0) YX7_expect 0 0 0 [some (.ref 3), some (.int a1)] [] SH M J _
  unfold f_X7_expect at h
  refine q_aload_n (pc := 0) dX7_expect_0 rfl ?_
  obtain ⟨M3, h2, h⟩ := Option.bind_eq_some_iff.mp h
  refine q_callv (pc := 1) (st := []) (a_X7_skipBlanks h2) okX7_skipBlanks rfl dX7_expect_1 lk_X7_38 sh_3 cl_7 rfl (by decide) (by decide) (Nat.le_of_ble_eq_true rfl) ⟨Nat.le_of_ble_eq_true rfl, Nat.le_of_ble_eq_true rfl⟩ rfl ?_
  show QW G (qrm 1 0 0) YX7_expect 0 0 4 [some (.ref 3), some (.int a1)] [] SH M3 J _
  refine q_aload_n (pc := 4) dX7_expect_4 rfl ?_
  refine q_getf (pc := 5) (f := 4) (v := .int (M3 3 4)) dX7_expect_5 sh_3 cl_7 inX7 rfl (by decide) lk_X7_29 rfl ?_
  refine q_aload_n (pc := 8) dX7_expect_8 rfl ?_
  refine q_getf (pc := 9) (f := 1) (v := .int (M3 3 1)) dX7_expect_9 sh_3 cl_7 inX7 rfl (by decide) lk_X7_18 rfl ?_
  by_cases k4 : (M3 3 1) ≤ (M3 3 4)
  · rw [if_pos k4] at h
    refine q_icmp_ge_t (pc := 12) (tgt := 41) dX7_expect_12 (by decide) k4 ?_
    refine q_aload_n (pc := 41) dX7_expect_41 rfl ?_
    refine q_iconst (pc := 42) (v := nI 1) dX7_expect_42 (by decide) ?_
    refine q_aload_n (pc := 43) dX7_expect_43 rfl ?_
    refine q_getf (pc := 44) (f := 4) (v := .int (M3 3 4)) dX7_expect_44 sh_3 cl_7 inX7 rfl (by decide) lk_X7_29 rfl ?_
    obtain ⟨M7, h6, h⟩ := Option.bind_eq_some_iff.mp h
    refine q_callv (pc := 47) (st := []) (a_X7_fail h6) okX7_fail rfl dX7_expect_47 lk_X7_48 sh_3 cl_7 rfl (by decide) (by decide) (Nat.le_of_ble_eq_true rfl) ⟨Nat.le_of_ble_eq_true rfl, Nat.le_of_ble_eq_true rfl⟩ rfl ?_
    show QW G (qrm 1 0 0) YX7_expect 0 0 50 [some (.ref 3), some (.int a1)] [] SH M7 J _
    obtain rfl := Option.some.inj h
    exact q_vret (pc := 50) dX7_expect_50 rfl rfl rfl
  · rw [if_neg k4] at h
    refine q_icmp_ge_f (pc := 12) (tgt := 41) dX7_expect_12 (by decide) k4 ?_
    refine q_aload_n (pc := 15) dX7_expect_15 rfl ?_
    refine q_getf (pc := 16) (f := 3) (v := .ref 6) dX7_expect_16 sh_3 cl_7 inX7 rfl (by decide) lk_X7_25 rfl ?_
    refine q_aload_n (pc := 19) dX7_expect_19 rfl ?_
    refine q_getf (pc := 20) (f := 4) (v := .int (M3 3 4)) dX7_expect_20 sh_3 cl_7 inX7 rfl (by decide) lk_X7_29 rfl ?_
    obtain ⟨v8, h9, h⟩ := Option.bind_eq_some_iff.mp h
    refine q_iald (pc := 23) dX7_expect_23 sh_6 h9 ?_
    refine q_iload_n (pc := 24) dX7_expect_24 rfl ?_
    by_cases k10 : v8 = a1
    · rw [if_pos k10] at h
      refine q_icmp_ne_f (pc := 25) (tgt := 41) dX7_expect_25 (by decide) k10 ?_
      refine q_aload_n (pc := 28) dX7_expect_28 rfl ?_
      refine q_dup (pc := 29) dX7_expect_29 rfl ?_
      refine q_getf (pc := 30) (f := 4) (v := .int (M3 3 4)) dX7_expect_30 sh_3 cl_7 inX7 rfl (by decide) lk_X7_29 rfl ?_
      refine q_iconst (pc := 33) (v := nI 1) dX7_expect_33 (by decide) ?_
      refine q_iadd (pc := 34) dX7_expect_34 ?_
      obtain ⟨M11, h12, h⟩ := Option.bind_eq_some_iff.mp h
      refine q_putI (pc := 35) (f := 4) tyX7 dX7_expect_35 sh_3 cl_7 inX7 tyX7_ok nmX7 rfl (by decide) lk_X7_29 rfl rfl rfl h12 ?_
      refine q_goto (pc := 38) (tgt := 50) dX7_expect_38 (by decide) ?_
      obtain rfl := Option.some.inj h
      exact q_vret (pc := 50) dX7_expect_50 rfl rfl rfl
    · rw [if_neg k10] at h
      refine q_icmp_ne_t (pc := 25) (tgt := 41) dX7_expect_25 (by decide) k10 ?_
      refine q_aload_n (pc := 41) dX7_expect_41 rfl ?_
      refine q_iconst (pc := 42) (v := nI 1) dX7_expect_42 (by decide) ?_
      refine q_aload_n (pc := 43) dX7_expect_43 rfl ?_
      refine q_getf (pc := 44) (f := 4) (v := .int (M3 3 4)) dX7_expect_44 sh_3 cl_7 inX7 rfl (by decide) lk_X7_29 rfl ?_
      obtain ⟨M15, h14, h⟩ := Option.bind_eq_some_iff.mp h
      refine q_callv (pc := 47) (st := []) (a_X7_fail h14) okX7_fail rfl dX7_expect_47 lk_X7_48 sh_3 cl_7 rfl (by decide) (by decide) (Nat.le_of_ble_eq_true rfl) ⟨Nat.le_of_ble_eq_true rfl, Nat.le_of_ble_eq_true rfl⟩ rfl ?_
      show QW G (qrm 1 0 0) YX7_expect 0 0 50 [some (.ref 3), some (.int a1)] [] SH M15 J _
      obtain rfl := Option.some.inj h
      exact q_vret (pc := 50) dX7_expect_50 rfl rfl rfl
def f_X5_setLeast_at4 (a1 : Int32) (M : qM) : Option qM :=
  (qwr M 5 172 (nI 0) a1).bind fun M1 => some (M1)
set_option maxRecDepth 20000 in
set_option maxHeartbeats 4000000 in
theorem a_X5_setLeast_at4 {G : qG} {a1 : Int32} {M : qM} {J : qJ} {M' : qM} (h : f_X5_setLeast_at4 a1 M = some (M')) : QM G 0 0 0 YX5_setLeast [.ref 4, .int a1] SH M J (none, SH, M', J) := by
  refine ⟨Nat.le_of_ble_eq_true rfl, rfl, ?_⟩
  show QW G (qrm 0 0 0) YX5_setLeast 0 0 0 [some (.ref 4), some (.int a1)] [] SH M J _
  unfold f_X5_setLeast_at4 at h
  refine q_aload_n (pc := 0) dX5_setLeast_0 rfl ?_
  refine q_getf (pc := 1) (f := 0) (v := .ref 5) dX5_setLeast_1 sh_4 cl_5 inX5 rfl (by decide) lk_X5_11 rfl ?_
  refine q_iconst (pc := 4) (v := nI 0) dX5_setLeast_4 (by decide) ?_
  refine q_iload_n (pc := 5) dX5_setLeast_5 rfl ?_
  obtain ⟨M1, h2, h⟩ := Option.bind_eq_some_iff.mp h
  refine q_iast (pc := 6) dX5_setLeast_6 sh_5 h2 ?_
  obtain rfl := Option.some.inj h
  exact q_vret (pc := 7) dX5_setLeast_7 rfl rfl rfl
def f_X7_readLeast  (M : qM) : Option qM :=
  (f_X7_number (nI 1) (nI 20) M).bind fun p1 => (f_X7_expect (nI 59) p1.2).bind fun M7 => (f_X5_setLeast_at4 p1.1 M7).bind fun M10 => some (M10)
set_option maxRecDepth 20000 in
set_option maxHeartbeats 4000000 in
theorem a_X7_readLeast {G : qG}  {M : qM} {J : qJ} {M' : qM} (h : f_X7_readLeast  M = some (M')) : QM G 2 0 0 YX7_readLeast [.ref 3] SH M J (none, SH, M', J) := by
  refine ⟨Nat.le_of_ble_eq_true rfl, rfl, ?_⟩
  show QW G (qrm 2 0 0) YX7_readLeast 0 0 0 [some (.ref 3), none] [] SH M J _
  unfold f_X7_readLeast at h
  refine q_aload_n (pc := 0) dX7_readLeast_0 rfl ?_
  refine q_iconst (pc := 1) (v := nI 1) dX7_readLeast_1 (by decide) ?_
  refine q_bipush (pc := 2) (v := nI 20) dX7_readLeast_2 (by decide) ?_
  obtain ⟨⟨r3, M4⟩, h2, h⟩ := Option.bind_eq_some_iff.mp h
  try dsimp only at h
  refine q_callv (pc := 4) (st := []) (a_X7_number h2) okX7_number rfl dX7_readLeast_4 lk_X7_75 sh_3 cl_7 rfl (by decide) (by decide) (Nat.le_of_ble_eq_true rfl) ⟨Nat.le_of_ble_eq_true rfl, Nat.le_of_ble_eq_true rfl⟩ rfl ?_
  show QW G (qrm 2 0 0) YX7_readLeast 0 0 7 [some (.ref 3), none] [.int r3] SH M4 J _
  refine q_istore_n (pc := 7) (ls' := [some (.ref 3), some (.int r3)]) dX7_readLeast_7 (by decide) rfl rfl ?_
  refine q_aload_n (pc := 8) dX7_readLeast_8 rfl ?_
  refine q_bipush (pc := 9) (v := nI 59) dX7_readLeast_9 (by decide) ?_
  obtain ⟨M7, h6, h⟩ := Option.bind_eq_some_iff.mp h
  refine q_callv (pc := 11) (st := []) (a_X7_expect h6) okX7_expect rfl dX7_readLeast_11 lk_X7_79 sh_3 cl_7 rfl (by decide) (by decide) (Nat.le_of_ble_eq_true rfl) ⟨Nat.le_of_ble_eq_true rfl, Nat.le_of_ble_eq_true rfl⟩ rfl ?_
  show QW G (qrm 2 0 0) YX7_readLeast 0 0 14 [some (.ref 3), some (.int r3)] [] SH M7 J _
  refine q_aload_n (pc := 14) dX7_readLeast_14 rfl ?_
  refine q_getf (pc := 15) (f := 0) (v := .ref 4) dX7_readLeast_15 sh_3 cl_7 inX7 rfl (by decide) lk_X7_12 rfl ?_
  refine q_iload_n (pc := 18) dX7_readLeast_18 rfl ?_
  obtain ⟨M10, h9, h⟩ := Option.bind_eq_some_iff.mp h
  refine q_callv (pc := 19) (st := []) (a_X5_setLeast_at4 h9) okX5_setLeast rfl dX7_readLeast_19 lk_X7_83 sh_4 cl_5 rfl (by decide) (by decide) (Nat.le_of_ble_eq_true rfl) ⟨Nat.le_of_ble_eq_true rfl, Nat.le_of_ble_eq_true rfl⟩ rfl ?_
  show QW G (qrm 2 0 0) YX7_readLeast 0 0 22 [some (.ref 3), some (.int r3)] [] SH M10 J _
  obtain rfl := Option.some.inj h
  exact q_vret (pc := 22) dX7_readLeast_22 rfl rfl rfl
def f_X5_setAnswer_at4 (a1 : Int32) (a2 : Int32) (M : qM) : Option qM :=
  (qwr M 5 172 ((nI 6) + a1) a2).bind fun M1 => some (M1)
set_option maxRecDepth 20000 in
set_option maxHeartbeats 4000000 in
theorem a_X5_setAnswer_at4 {G : qG} {a1 : Int32} {a2 : Int32} {M : qM} {J : qJ} {M' : qM} (h : f_X5_setAnswer_at4 a1 a2 M = some (M')) : QM G 0 0 0 YX5_setAnswer [.ref 4, .int a1, .int a2] SH M J (none, SH, M', J) := by
  refine ⟨Nat.le_of_ble_eq_true rfl, rfl, ?_⟩
  show QW G (qrm 0 0 0) YX5_setAnswer 0 0 0 [some (.ref 4), some (.int a1), some (.int a2)] [] SH M J _
  unfold f_X5_setAnswer_at4 at h
  refine q_aload_n (pc := 0) dX5_setAnswer_0 rfl ?_
  refine q_getf (pc := 1) (f := 0) (v := .ref 5) dX5_setAnswer_1 sh_4 cl_5 inX5 rfl (by decide) lk_X5_11 rfl ?_
  refine q_bipush (pc := 4) (v := nI 6) dX5_setAnswer_4 (by decide) ?_
  refine q_iload_n (pc := 6) dX5_setAnswer_6 rfl ?_
  refine q_iadd (pc := 7) dX5_setAnswer_7 ?_
  refine q_iload_n (pc := 8) dX5_setAnswer_8 rfl ?_
  obtain ⟨M1, h2, h⟩ := Option.bind_eq_some_iff.mp h
  refine q_iast (pc := 9) dX5_setAnswer_9 sh_5 h2 ?_
  obtain rfl := Option.some.inj h
  exact q_vret (pc := 10) dX5_setAnswer_10 rfl rfl rfl
def f_X5_setWeight_at4 (a1 : Int32) (a2 : Int32) (a3 : Int32) (M : qM) : Option qM :=
  (qwr M 5 172 (((nI 24) + (a1 * (nI 5))) + a2) a3).bind fun M1 => some (M1)
set_option maxRecDepth 20000 in
set_option maxHeartbeats 4000000 in
theorem a_X5_setWeight_at4 {G : qG} {a1 : Int32} {a2 : Int32} {a3 : Int32} {M : qM} {J : qJ} {M' : qM} (h : f_X5_setWeight_at4 a1 a2 a3 M = some (M')) : QM G 0 0 0 YX5_setWeight [.ref 4, .int a1, .int a2, .int a3] SH M J (none, SH, M', J) := by
  refine ⟨Nat.le_of_ble_eq_true rfl, rfl, ?_⟩
  show QW G (qrm 0 0 0) YX5_setWeight 0 0 0 [some (.ref 4), some (.int a1), some (.int a2), some (.int a3)] [] SH M J _
  unfold f_X5_setWeight_at4 at h
  refine q_aload_n (pc := 0) dX5_setWeight_0 rfl ?_
  refine q_getf (pc := 1) (f := 0) (v := .ref 5) dX5_setWeight_1 sh_4 cl_5 inX5 rfl (by decide) lk_X5_11 rfl ?_
  refine q_bipush (pc := 4) (v := nI 24) dX5_setWeight_4 (by decide) ?_
  refine q_iload_n (pc := 6) dX5_setWeight_6 rfl ?_
  refine q_iconst (pc := 7) (v := nI 5) dX5_setWeight_7 (by decide) ?_
  refine q_imul (pc := 8) dX5_setWeight_8 ?_
  refine q_iadd (pc := 9) dX5_setWeight_9 ?_
  refine q_iload_n (pc := 10) dX5_setWeight_10 rfl ?_
  refine q_iadd (pc := 11) dX5_setWeight_11 ?_
  refine q_iload_n (pc := 12) dX5_setWeight_12 rfl ?_
  obtain ⟨M1, h2, h⟩ := Option.bind_eq_some_iff.mp h
  refine q_iast (pc := 13) dX5_setWeight_13 sh_5 h2 ?_
  obtain rfl := Option.some.inj h
  exact q_vret (pc := 14) dX5_setWeight_14 rfl rfl rfl
def f_X5_addCouple_at4  (M : qM) : Option qM :=
  (qrd M 5 172 (nI 1)).bind fun v1 => (qwr M 5 172 (nI 1) (v1 + (nI 1))).bind fun M3 => some (M3)
set_option maxRecDepth 20000 in
set_option maxHeartbeats 4000000 in
theorem a_X5_addCouple_at4 {G : qG}  {M : qM} {J : qJ} {M' : qM} (h : f_X5_addCouple_at4  M = some (M')) : QM G 0 0 0 YX5_addCouple [.ref 4] SH M J (none, SH, M', J) := by
  refine ⟨Nat.le_of_ble_eq_true rfl, rfl, ?_⟩
  show QW G (qrm 0 0 0) YX5_addCouple 0 0 0 [some (.ref 4)] [] SH M J _
  unfold f_X5_addCouple_at4 at h
  refine q_aload_n (pc := 0) dX5_addCouple_0 rfl ?_
  refine q_getf (pc := 1) (f := 0) (v := .ref 5) dX5_addCouple_1 sh_4 cl_5 inX5 rfl (by decide) lk_X5_11 rfl ?_
  refine q_iconst (pc := 4) (v := nI 1) dX5_addCouple_4 (by decide) ?_
  refine q_dup2 (pc := 5) dX5_addCouple_5 rfl rfl ?_
  obtain ⟨v1, h2, h⟩ := Option.bind_eq_some_iff.mp h
  refine q_iald (pc := 6) dX5_addCouple_6 sh_5 h2 ?_
  refine q_iconst (pc := 7) (v := nI 1) dX5_addCouple_7 (by decide) ?_
  refine q_iadd (pc := 8) dX5_addCouple_8 ?_
  obtain ⟨M3, h4, h⟩ := Option.bind_eq_some_iff.mp h
  refine q_iast (pc := 9) dX5_addCouple_9 sh_5 h4 ?_
  obtain rfl := Option.some.inj h
  exact q_vret (pc := 10) dX5_addCouple_10 rfl rfl rfl
def f_X7_readCouple_L25 (x1 : Int32) : Nat → Int32 → qM → Option (Int32 × qM)
  | 0, _, _ => none
  | n + 1, c2, M =>
  if (nI 5) ≤ c2 then some (c2, M)
    else if c2 ≤ 0 then (f_X7_number (nI 0) (nI 20) M).bind fun p13 => (f_X5_setWeight_at4 x1 c2 p13.1 p13.2).bind fun M19 => f_X7_readCouple_L25 x1 n (c2 + nI 1) M19
    else (f_X7_expect (nI 44) M).bind fun M22 => (f_X7_number (nI 0) (nI 20) M22).bind fun p23 => (f_X5_setWeight_at4 x1 c2 p23.1 p23.2).bind fun M29 => f_X7_readCouple_L25 x1 n (c2 + nI 1) M29
set_option maxRecDepth 20000 in
set_option maxHeartbeats 4000000 in
theorem l_X7_readCouple_L25 {G : qG} {ρ : qR} (x1 : Int32) (J : qJ) : ∀ (n : Nat) (c2 : Int32) (M : qM) (res : Int32 × qM), f_X7_readCouple_L25 x1 n c2 M = some res → (∀ x : Int32 × qM, res = x → QW G (qrm 2 0 0) YX7_readCouple 0 0 62 [some (.ref 3), none, none] [] SH x.2 J ρ) → QW G (qrm 2 0 0) YX7_readCouple 0 0 25 [some (.ref 3), some (.int x1), some (.int c2)] [] SH M J ρ
  | 0, _, _, _, h, _ => by simp [f_X7_readCouple_L25] at h
  | n + 1, c2, M, res, h, hk => by
    rw [f_X7_readCouple_L25] at h
    refine q_iload_n (pc := 25) dX7_readCouple_25 rfl ?_
    refine q_iconst (pc := 26) (v := nI 5) dX7_readCouple_26 (by decide) ?_
    by_cases k11 : (nI 5) ≤ c2
    · rw [if_pos k11] at h
      refine q_icmp_ge_t (pc := 27) (tgt := 62) dX7_readCouple_27 (by decide) k11 ?_
      refine q_weak (ls' := [some (.ref 3), none, none]) ⟨rfl, trivial⟩ ?_
      obtain rfl := Option.some.inj h
      exact hk (c2, M) rfl
    · rw [if_neg k11] at h
      refine q_icmp_ge_f (pc := 27) (tgt := 62) dX7_readCouple_27 (by decide) k11 ?_
      refine q_iload_n (pc := 30) dX7_readCouple_30 rfl ?_
      by_cases k12 : c2 ≤ 0
      · rw [if_pos k12] at h
        refine q_if_le_t (pc := 31) (tgt := 40) dX7_readCouple_31 (by decide) k12 ?_
        refine q_aload_n (pc := 40) dX7_readCouple_40 rfl ?_
        refine q_getf (pc := 41) (f := 0) (v := .ref 4) dX7_readCouple_41 sh_3 cl_7 inX7 rfl (by decide) lk_X7_12 rfl ?_
        refine q_iload_n (pc := 44) dX7_readCouple_44 rfl ?_
        refine q_iload_n (pc := 45) dX7_readCouple_45 rfl ?_
        refine q_aload_n (pc := 46) dX7_readCouple_46 rfl ?_
        refine q_iconst (pc := 47) (v := nI 0) dX7_readCouple_47 (by decide) ?_
        refine q_bipush (pc := 48) (v := nI 20) dX7_readCouple_48 (by decide) ?_
        obtain ⟨⟨r15, M16⟩, h14, h⟩ := Option.bind_eq_some_iff.mp h
        try dsimp only at h
        refine q_callv (pc := 50) (st := [.int c2, .int x1, .ref 4]) (a_X7_number h14) okX7_number rfl dX7_readCouple_50 lk_X7_75 sh_3 cl_7 rfl (by decide) (by decide) (Nat.le_of_ble_eq_true rfl) ⟨Nat.le_of_ble_eq_true rfl, Nat.le_of_ble_eq_true rfl⟩ rfl ?_
        show QW G (qrm 2 0 0) YX7_readCouple 0 0 53 [some (.ref 3), some (.int x1), some (.int c2)] [.int r15, .int c2, .int x1, .ref 4] SH M16 J _
        obtain ⟨M19, h18, h⟩ := Option.bind_eq_some_iff.mp h
        refine q_callv (pc := 53) (st := []) (a_X5_setWeight_at4 h18) okX5_setWeight rfl dX7_readCouple_53 lk_X7_89 sh_4 cl_5 rfl (by decide) (by decide) (Nat.le_of_ble_eq_true rfl) ⟨Nat.le_of_ble_eq_true rfl, Nat.le_of_ble_eq_true rfl⟩ rfl ?_
        show QW G (qrm 2 0 0) YX7_readCouple 0 0 56 [some (.ref 3), some (.int x1), some (.int c2)] [] SH M19 J _
        refine q_iincW (pc := 56) (w := nI 1) (ls' := [some (.ref 3), some (.int x1), some (.int (c2 + nI 1))]) dX7_readCouple_56 rfl (by decide) (by decide) rfl rfl ?_
        refine q_goto (pc := 59) (tgt := 25) dX7_readCouple_59 (by decide) ?_
        exact l_X7_readCouple_L25 x1 J n (c2 + nI 1) M19 res h hk
      · rw [if_neg k12] at h
        refine q_if_le_f (pc := 31) (tgt := 40) dX7_readCouple_31 (by decide) k12 ?_
        refine q_aload_n (pc := 34) dX7_readCouple_34 rfl ?_
        refine q_bipush (pc := 35) (v := nI 44) dX7_readCouple_35 (by decide) ?_
        obtain ⟨M22, h21, h⟩ := Option.bind_eq_some_iff.mp h
        refine q_callv (pc := 37) (st := []) (a_X7_expect h21) okX7_expect rfl dX7_readCouple_37 lk_X7_79 sh_3 cl_7 rfl (by decide) (by decide) (Nat.le_of_ble_eq_true rfl) ⟨Nat.le_of_ble_eq_true rfl, Nat.le_of_ble_eq_true rfl⟩ rfl ?_
        show QW G (qrm 2 0 0) YX7_readCouple 0 0 40 [some (.ref 3), some (.int x1), some (.int c2)] [] SH M22 J _
        refine q_aload_n (pc := 40) dX7_readCouple_40 rfl ?_
        refine q_getf (pc := 41) (f := 0) (v := .ref 4) dX7_readCouple_41 sh_3 cl_7 inX7 rfl (by decide) lk_X7_12 rfl ?_
        refine q_iload_n (pc := 44) dX7_readCouple_44 rfl ?_
        refine q_iload_n (pc := 45) dX7_readCouple_45 rfl ?_
        refine q_aload_n (pc := 46) dX7_readCouple_46 rfl ?_
        refine q_iconst (pc := 47) (v := nI 0) dX7_readCouple_47 (by decide) ?_
        refine q_bipush (pc := 48) (v := nI 20) dX7_readCouple_48 (by decide) ?_
        obtain ⟨⟨r25, M26⟩, h24, h⟩ := Option.bind_eq_some_iff.mp h
        try dsimp only at h
        refine q_callv (pc := 50) (st := [.int c2, .int x1, .ref 4]) (a_X7_number h24) okX7_number rfl dX7_readCouple_50 lk_X7_75 sh_3 cl_7 rfl (by decide) (by decide) (Nat.le_of_ble_eq_true rfl) ⟨Nat.le_of_ble_eq_true rfl, Nat.le_of_ble_eq_true rfl⟩ rfl ?_
        show QW G (qrm 2 0 0) YX7_readCouple 0 0 53 [some (.ref 3), some (.int x1), some (.int c2)] [.int r25, .int c2, .int x1, .ref 4] SH M26 J _
        obtain ⟨M29, h28, h⟩ := Option.bind_eq_some_iff.mp h
        refine q_callv (pc := 53) (st := []) (a_X5_setWeight_at4 h28) okX5_setWeight rfl dX7_readCouple_53 lk_X7_89 sh_4 cl_5 rfl (by decide) (by decide) (Nat.le_of_ble_eq_true rfl) ⟨Nat.le_of_ble_eq_true rfl, Nat.le_of_ble_eq_true rfl⟩ rfl ?_
        show QW G (qrm 2 0 0) YX7_readCouple 0 0 56 [some (.ref 3), some (.int x1), some (.int c2)] [] SH M29 J _
        refine q_iincW (pc := 56) (w := nI 1) (ls' := [some (.ref 3), some (.int x1), some (.int (c2 + nI 1))]) dX7_readCouple_56 rfl (by decide) (by decide) rfl rfl ?_
        refine q_goto (pc := 59) (tgt := 25) dX7_readCouple_59 (by decide) ?_
        exact l_X7_readCouple_L25 x1 J n (c2 + nI 1) M29 res h hk
def f_X7_readCouple  (M : qM) : Option qM :=
  (f_X5_couples_at4 M).bind fun r3 => (f_X7_number (nI 0) (nI 60) M).bind fun p4 => (f_X5_setAnswer_at4 r3 p4.1 p4.2).bind fun M10 => (f_X7_readCouple_L25 r3 qF (nI 0) M10).bind fun e30 => (f_X7_expect (nI 59) e30.2).bind fun M34 => (f_X5_addCouple_at4 M34).bind fun M37 => some (M37)
set_option maxRecDepth 20000 in
set_option maxHeartbeats 4000000 in
theorem a_X7_readCouple {G : qG}  {M : qM} {J : qJ} {M' : qM} (h : f_X7_readCouple  M = some (M')) : QM G 2 0 0 YX7_readCouple [.ref 3] SH M J (none, SH, M', J) := by
  refine ⟨Nat.le_of_ble_eq_true rfl, rfl, ?_⟩
  show QW G (qrm 2 0 0) YX7_readCouple 0 0 0 [some (.ref 3), none, none] [] SH M J _
  unfold f_X7_readCouple at h
  refine q_aload_n (pc := 0) dX7_readCouple_0 rfl ?_
  refine q_getf (pc := 1) (f := 0) (v := .ref 4) dX7_readCouple_1 sh_3 cl_7 inX7 rfl (by decide) lk_X7_12 rfl ?_
  obtain ⟨r3, h2, h⟩ := Option.bind_eq_some_iff.mp h
  refine q_callv (pc := 4) (st := []) (a_X5_couples_at4 h2) okX5_couples rfl dX7_readCouple_4 lk_X7_65 sh_4 cl_5 rfl (by decide) (by decide) (Nat.le_of_ble_eq_true rfl) ⟨Nat.le_of_ble_eq_true rfl, Nat.le_of_ble_eq_true rfl⟩ rfl ?_
  show QW G (qrm 2 0 0) YX7_readCouple 0 0 7 [some (.ref 3), none, none] [.int r3] SH M J _
  refine q_istore_n (pc := 7) (ls' := [some (.ref 3), some (.int r3), none]) dX7_readCouple_7 (by decide) rfl rfl ?_
  refine q_aload_n (pc := 8) dX7_readCouple_8 rfl ?_
  refine q_getf (pc := 9) (f := 0) (v := .ref 4) dX7_readCouple_9 sh_3 cl_7 inX7 rfl (by decide) lk_X7_12 rfl ?_
  refine q_iload_n (pc := 12) dX7_readCouple_12 rfl ?_
  refine q_aload_n (pc := 13) dX7_readCouple_13 rfl ?_
  refine q_iconst (pc := 14) (v := nI 0) dX7_readCouple_14 (by decide) ?_
  refine q_bipush (pc := 15) (v := nI 60) dX7_readCouple_15 (by decide) ?_
  obtain ⟨⟨r6, M7⟩, h5, h⟩ := Option.bind_eq_some_iff.mp h
  try dsimp only at h
  refine q_callv (pc := 17) (st := [.int r3, .ref 4]) (a_X7_number h5) okX7_number rfl dX7_readCouple_17 lk_X7_75 sh_3 cl_7 rfl (by decide) (by decide) (Nat.le_of_ble_eq_true rfl) ⟨Nat.le_of_ble_eq_true rfl, Nat.le_of_ble_eq_true rfl⟩ rfl ?_
  show QW G (qrm 2 0 0) YX7_readCouple 0 0 20 [some (.ref 3), some (.int r3), none] [.int r6, .int r3, .ref 4] SH M7 J _
  obtain ⟨M10, h9, h⟩ := Option.bind_eq_some_iff.mp h
  refine q_callv (pc := 20) (st := []) (a_X5_setAnswer_at4 h9) okX5_setAnswer rfl dX7_readCouple_20 lk_X7_86 sh_4 cl_5 rfl (by decide) (by decide) (Nat.le_of_ble_eq_true rfl) ⟨Nat.le_of_ble_eq_true rfl, Nat.le_of_ble_eq_true rfl⟩ rfl ?_
  show QW G (qrm 2 0 0) YX7_readCouple 0 0 23 [some (.ref 3), some (.int r3), none] [] SH M10 J _
  refine q_iconst (pc := 23) (v := nI 0) dX7_readCouple_23 (by decide) ?_
  refine q_istore_n (pc := 24) (ls' := [some (.ref 3), some (.int r3), some (.int (nI 0))]) dX7_readCouple_24 (by decide) rfl rfl ?_
  obtain ⟨⟨e30_2, M31⟩, h38, h⟩ := Option.bind_eq_some_iff.mp h
  try dsimp only at h
  refine l_X7_readCouple_L25 r3 J qF (nI 0) M10 _ h38 (fun x hx => ?_)
  subst hx
  show QW G (qrm 2 0 0) YX7_readCouple 0 0 62 [some (.ref 3), none, none] [] SH M31 J _
  refine q_aload_n (pc := 62) dX7_readCouple_62 rfl ?_
  refine q_bipush (pc := 63) (v := nI 59) dX7_readCouple_63 (by decide) ?_
  obtain ⟨M34, h33, h⟩ := Option.bind_eq_some_iff.mp h
  refine q_callv (pc := 65) (st := []) (a_X7_expect h33) okX7_expect rfl dX7_readCouple_65 lk_X7_79 sh_3 cl_7 rfl (by decide) (by decide) (Nat.le_of_ble_eq_true rfl) ⟨Nat.le_of_ble_eq_true rfl, Nat.le_of_ble_eq_true rfl⟩ rfl ?_
  show QW G (qrm 2 0 0) YX7_readCouple 0 0 68 [some (.ref 3), none, none] [] SH M34 J _
  refine q_aload_n (pc := 68) dX7_readCouple_68 rfl ?_
  refine q_getf (pc := 69) (f := 0) (v := .ref 4) dX7_readCouple_69 sh_3 cl_7 inX7 rfl (by decide) lk_X7_12 rfl ?_
  obtain ⟨M37, h36, h⟩ := Option.bind_eq_some_iff.mp h
  refine q_callv (pc := 72) (st := []) (a_X5_addCouple_at4 h36) okX5_addCouple rfl dX7_readCouple_72 lk_X7_93 sh_4 cl_5 rfl (by decide) (by decide) (Nat.le_of_ble_eq_true rfl) ⟨Nat.le_of_ble_eq_true rfl, Nat.le_of_ble_eq_true rfl⟩ rfl ?_
  show QW G (qrm 2 0 0) YX7_readCouple 0 0 75 [some (.ref 3), none, none] [] SH M37 J _
  obtain rfl := Option.some.inj h
  exact q_vret (pc := 75) dX7_readCouple_75 rfl rfl rfl
def f_X5_addObjector_at4 (a1 : Int32) (a2 : Int32) (a3 : Int32) (M : qM) : Option qM :=
  (qrd M 5 172 (nI 2)).bind fun v1 => (qwr M 5 172 (nI 2) (v1 + (nI 1))).bind fun M3 => (qwr M3 5 172 ((nI 54) + v1) a1).bind fun M5 => (qwr M5 5 172 ((nI 60) + v1) a2).bind fun M7 => (qwr M7 5 172 ((nI 66) + v1) a3).bind fun M9 => some (M9)
set_option maxRecDepth 20000 in
set_option maxHeartbeats 4000000 in
theorem a_X5_addObjector_at4 {G : qG} {a1 : Int32} {a2 : Int32} {a3 : Int32} {M : qM} {J : qJ} {M' : qM} (h : f_X5_addObjector_at4 a1 a2 a3 M = some (M')) : QM G 0 0 0 YX5_addObjector [.ref 4, .int a1, .int a2, .int a3] SH M J (none, SH, M', J) := by
  refine ⟨Nat.le_of_ble_eq_true rfl, rfl, ?_⟩
  show QW G (qrm 0 0 0) YX5_addObjector 0 0 0 [some (.ref 4), some (.int a1), some (.int a2), some (.int a3), none] [] SH M J _
  unfold f_X5_addObjector_at4 at h
  refine q_aload_n (pc := 0) dX5_addObjector_0 rfl ?_
  refine q_getf (pc := 1) (f := 0) (v := .ref 5) dX5_addObjector_1 sh_4 cl_5 inX5 rfl (by decide) lk_X5_11 rfl ?_
  refine q_iconst (pc := 4) (v := nI 2) dX5_addObjector_4 (by decide) ?_
  refine q_dup2 (pc := 5) dX5_addObjector_5 rfl rfl ?_
  obtain ⟨v1, h2, h⟩ := Option.bind_eq_some_iff.mp h
  refine q_iald (pc := 6) dX5_addObjector_6 sh_5 h2 ?_
  refine q_dup_x2 (pc := 7) dX5_addObjector_7 rfl rfl rfl ?_
  refine q_iconst (pc := 8) (v := nI 1) dX5_addObjector_8 (by decide) ?_
  refine q_iadd (pc := 9) dX5_addObjector_9 ?_
  obtain ⟨M3, h4, h⟩ := Option.bind_eq_some_iff.mp h
  refine q_iast (pc := 10) dX5_addObjector_10 sh_5 h4 ?_
  refine q_istore (pc := 11) (ls' := [some (.ref 4), some (.int a1), some (.int a2), some (.int a3), some (.int v1)]) dX5_addObjector_11 (by decide) rfl rfl ?_
  refine q_aload_n (pc := 13) dX5_addObjector_13 rfl ?_
  refine q_getf (pc := 14) (f := 0) (v := .ref 5) dX5_addObjector_14 sh_4 cl_5 inX5 rfl (by decide) lk_X5_11 rfl ?_
  refine q_bipush (pc := 17) (v := nI 54) dX5_addObjector_17 (by decide) ?_
  refine q_iload (pc := 19) dX5_addObjector_19 rfl ?_
  refine q_iadd (pc := 21) dX5_addObjector_21 ?_
  refine q_iload_n (pc := 22) dX5_addObjector_22 rfl ?_
  obtain ⟨M5, h6, h⟩ := Option.bind_eq_some_iff.mp h
  refine q_iast (pc := 23) dX5_addObjector_23 sh_5 h6 ?_
  refine q_aload_n (pc := 24) dX5_addObjector_24 rfl ?_
  refine q_getf (pc := 25) (f := 0) (v := .ref 5) dX5_addObjector_25 sh_4 cl_5 inX5 rfl (by decide) lk_X5_11 rfl ?_
  refine q_bipush (pc := 28) (v := nI 60) dX5_addObjector_28 (by decide) ?_
  refine q_iload (pc := 30) dX5_addObjector_30 rfl ?_
  refine q_iadd (pc := 32) dX5_addObjector_32 ?_
  refine q_iload_n (pc := 33) dX5_addObjector_33 rfl ?_
  obtain ⟨M7, h8, h⟩ := Option.bind_eq_some_iff.mp h
  refine q_iast (pc := 34) dX5_addObjector_34 sh_5 h8 ?_
  refine q_aload_n (pc := 35) dX5_addObjector_35 rfl ?_
  refine q_getf (pc := 36) (f := 0) (v := .ref 5) dX5_addObjector_36 sh_4 cl_5 inX5 rfl (by decide) lk_X5_11 rfl ?_
  refine q_bipush (pc := 39) (v := nI 66) dX5_addObjector_39 (by decide) ?_
  refine q_iload (pc := 41) dX5_addObjector_41 rfl ?_
  refine q_iadd (pc := 43) dX5_addObjector_43 ?_
  refine q_iload_n (pc := 44) dX5_addObjector_44 rfl ?_
  obtain ⟨M9, h10, h⟩ := Option.bind_eq_some_iff.mp h
  refine q_iast (pc := 45) dX5_addObjector_45 sh_5 h10 ?_
  obtain rfl := Option.some.inj h
  exact q_vret (pc := 46) dX5_addObjector_46 rfl rfl rfl
def f_X7_readObjector  (M : qM) : Option qM :=
  (f_X7_number (nI 0) (nI 3) M).bind fun p1 => (f_X7_number (nI 0) (nI 20) p1.2).bind fun p5 => (f_X7_number (nI 0) (nI 31) p5.2).bind fun p9 => (f_X7_expect (nI 59) p9.2).bind fun M15 => (f_X5_addObjector_at4 p1.1 p5.1 p9.1 M15).bind fun M18 => some (M18)
set_option maxRecDepth 20000 in
set_option maxHeartbeats 4000000 in
theorem a_X7_readObjector {G : qG}  {M : qM} {J : qJ} {M' : qM} (h : f_X7_readObjector  M = some (M')) : QM G 2 0 0 YX7_readObjector [.ref 3] SH M J (none, SH, M', J) := by
  refine ⟨Nat.le_of_ble_eq_true rfl, rfl, ?_⟩
  show QW G (qrm 2 0 0) YX7_readObjector 0 0 0 [some (.ref 3), none, none, none] [] SH M J _
  unfold f_X7_readObjector at h
  refine q_aload_n (pc := 0) dX7_readObjector_0 rfl ?_
  refine q_iconst (pc := 1) (v := nI 0) dX7_readObjector_1 (by decide) ?_
  refine q_iconst (pc := 2) (v := nI 3) dX7_readObjector_2 (by decide) ?_
  obtain ⟨⟨r3, M4⟩, h2, h⟩ := Option.bind_eq_some_iff.mp h
  try dsimp only at h
  refine q_callv (pc := 3) (st := []) (a_X7_number h2) okX7_number rfl dX7_readObjector_3 lk_X7_75 sh_3 cl_7 rfl (by decide) (by decide) (Nat.le_of_ble_eq_true rfl) ⟨Nat.le_of_ble_eq_true rfl, Nat.le_of_ble_eq_true rfl⟩ rfl ?_
  show QW G (qrm 2 0 0) YX7_readObjector 0 0 6 [some (.ref 3), none, none, none] [.int r3] SH M4 J _
  refine q_istore_n (pc := 6) (ls' := [some (.ref 3), some (.int r3), none, none]) dX7_readObjector_6 (by decide) rfl rfl ?_
  refine q_aload_n (pc := 7) dX7_readObjector_7 rfl ?_
  refine q_iconst (pc := 8) (v := nI 0) dX7_readObjector_8 (by decide) ?_
  refine q_bipush (pc := 9) (v := nI 20) dX7_readObjector_9 (by decide) ?_
  obtain ⟨⟨r7, M8⟩, h6, h⟩ := Option.bind_eq_some_iff.mp h
  try dsimp only at h
  refine q_callv (pc := 11) (st := []) (a_X7_number h6) okX7_number rfl dX7_readObjector_11 lk_X7_75 sh_3 cl_7 rfl (by decide) (by decide) (Nat.le_of_ble_eq_true rfl) ⟨Nat.le_of_ble_eq_true rfl, Nat.le_of_ble_eq_true rfl⟩ rfl ?_
  show QW G (qrm 2 0 0) YX7_readObjector 0 0 14 [some (.ref 3), some (.int r3), none, none] [.int r7] SH M8 J _
  refine q_istore_n (pc := 14) (ls' := [some (.ref 3), some (.int r3), some (.int r7), none]) dX7_readObjector_14 (by decide) rfl rfl ?_
  refine q_aload_n (pc := 15) dX7_readObjector_15 rfl ?_
  refine q_iconst (pc := 16) (v := nI 0) dX7_readObjector_16 (by decide) ?_
  refine q_bipush (pc := 17) (v := nI 31) dX7_readObjector_17 (by decide) ?_
  obtain ⟨⟨r11, M12⟩, h10, h⟩ := Option.bind_eq_some_iff.mp h
  try dsimp only at h
  refine q_callv (pc := 19) (st := []) (a_X7_number h10) okX7_number rfl dX7_readObjector_19 lk_X7_75 sh_3 cl_7 rfl (by decide) (by decide) (Nat.le_of_ble_eq_true rfl) ⟨Nat.le_of_ble_eq_true rfl, Nat.le_of_ble_eq_true rfl⟩ rfl ?_
  show QW G (qrm 2 0 0) YX7_readObjector 0 0 22 [some (.ref 3), some (.int r3), some (.int r7), none] [.int r11] SH M12 J _
  refine q_istore_n (pc := 22) (ls' := [some (.ref 3), some (.int r3), some (.int r7), some (.int r11)]) dX7_readObjector_22 (by decide) rfl rfl ?_
  refine q_aload_n (pc := 23) dX7_readObjector_23 rfl ?_
  refine q_bipush (pc := 24) (v := nI 59) dX7_readObjector_24 (by decide) ?_
  obtain ⟨M15, h14, h⟩ := Option.bind_eq_some_iff.mp h
  refine q_callv (pc := 26) (st := []) (a_X7_expect h14) okX7_expect rfl dX7_readObjector_26 lk_X7_79 sh_3 cl_7 rfl (by decide) (by decide) (Nat.le_of_ble_eq_true rfl) ⟨Nat.le_of_ble_eq_true rfl, Nat.le_of_ble_eq_true rfl⟩ rfl ?_
  show QW G (qrm 2 0 0) YX7_readObjector 0 0 29 [some (.ref 3), some (.int r3), some (.int r7), some (.int r11)] [] SH M15 J _
  refine q_aload_n (pc := 29) dX7_readObjector_29 rfl ?_
  refine q_getf (pc := 30) (f := 0) (v := .ref 4) dX7_readObjector_30 sh_3 cl_7 inX7 rfl (by decide) lk_X7_12 rfl ?_
  refine q_iload_n (pc := 33) dX7_readObjector_33 rfl ?_
  refine q_iload_n (pc := 34) dX7_readObjector_34 rfl ?_
  refine q_iload_n (pc := 35) dX7_readObjector_35 rfl ?_
  obtain ⟨M18, h17, h⟩ := Option.bind_eq_some_iff.mp h
  refine q_callv (pc := 36) (st := []) (a_X5_addObjector_at4 h17) okX5_addObjector rfl dX7_readObjector_36 lk_X7_96 sh_4 cl_5 rfl (by decide) (by decide) (Nat.le_of_ble_eq_true rfl) ⟨Nat.le_of_ble_eq_true rfl, Nat.le_of_ble_eq_true rfl⟩ rfl ?_
  show QW G (qrm 2 0 0) YX7_readObjector 0 0 39 [some (.ref 3), some (.int r3), some (.int r7), some (.int r11)] [] SH M18 J _
  obtain rfl := Option.some.inj h
  exact q_vret (pc := 39) dX7_readObjector_39 rfl rfl rfl
def f_X7_readClause  (M : qM) : Option qM :=
  (qrd M 6 240 (M 3 4)).bind fun v1 => (f_X7_faultOfWord v1 M).bind fun r5 => if r5 = 0 then (qpu M 3 4 ((M 3 4) + (nI 1))).bind fun M7 => if v1 = (nI 100) then (f_X7_readLeast M7).bind fun M12 => some (M12)
    else if v1 = (nI 99) then (f_X7_readCouple M7).bind fun M16 => some (M16)
    else (f_X7_readObjector M7).bind fun M19 => some (M19)
    else (f_X7_fail r5 (M 3 4) M).bind fun M22 => some (M22)
set_option maxRecDepth 20000 in
set_option maxHeartbeats 4000000 in
theorem a_X7_readClause {G : qG}  {M : qM} {J : qJ} {M' : qM} (h : f_X7_readClause  M = some (M')) : QM G 3 0 0 YX7_readClause [.ref 3] SH M J (none, SH, M', J) := by
  refine ⟨Nat.le_of_ble_eq_true rfl, rfl, ?_⟩
  show QW G (qrm 3 0 0) YX7_readClause 0 0 0 [some (.ref 3), none, none] [] SH M J _
  unfold f_X7_readClause at h
  refine q_aload_n (pc := 0) dX7_readClause_0 rfl ?_
  refine q_getf (pc := 1) (f := 3) (v := .ref 6) dX7_readClause_1 sh_3 cl_7 inX7 rfl (by decide) lk_X7_25 rfl ?_
  refine q_aload_n (pc := 4) dX7_readClause_4 rfl ?_
  refine q_getf (pc := 5) (f := 4) (v := .int (M 3 4)) dX7_readClause_5 sh_3 cl_7 inX7 rfl (by decide) lk_X7_29 rfl ?_
  obtain ⟨v1, h2, h⟩ := Option.bind_eq_some_iff.mp h
  refine q_iald (pc := 8) dX7_readClause_8 sh_6 h2 ?_
  refine q_istore_n (pc := 9) (ls' := [some (.ref 3), some (.int v1), none]) dX7_readClause_9 (by decide) rfl rfl ?_
  refine q_aload_n (pc := 10) dX7_readClause_10 rfl ?_
  refine q_iload_n (pc := 11) dX7_readClause_11 rfl ?_
  obtain ⟨r5, h4, h⟩ := Option.bind_eq_some_iff.mp h
  refine q_callv (pc := 12) (st := []) (a_X7_faultOfWord h4) okX7_faultOfWord rfl dX7_readClause_12 lk_X7_44 sh_3 cl_7 rfl (by decide) (by decide) (Nat.le_of_ble_eq_true rfl) ⟨Nat.le_of_ble_eq_true rfl, Nat.le_of_ble_eq_true rfl⟩ rfl ?_
  show QW G (qrm 3 0 0) YX7_readClause 0 0 15 [some (.ref 3), some (.int v1), none] [.int r5] SH M J _
  refine q_istore_n (pc := 15) (ls' := [some (.ref 3), some (.int v1), some (.int r5)]) dX7_readClause_15 (by decide) rfl rfl ?_
  refine q_iload_n (pc := 16) dX7_readClause_16 rfl ?_
  by_cases k6 : r5 = 0
  · rw [if_pos k6] at h
    refine q_if_eq_t (pc := 17) (tgt := 30) dX7_readClause_17 (by decide) k6 ?_
    refine q_aload_n (pc := 30) dX7_readClause_30 rfl ?_
    refine q_dup (pc := 31) dX7_readClause_31 rfl ?_
    refine q_getf (pc := 32) (f := 4) (v := .int (M 3 4)) dX7_readClause_32 sh_3 cl_7 inX7 rfl (by decide) lk_X7_29 rfl ?_
    refine q_iconst (pc := 35) (v := nI 1) dX7_readClause_35 (by decide) ?_
    refine q_iadd (pc := 36) dX7_readClause_36 ?_
    obtain ⟨M7, h8, h⟩ := Option.bind_eq_some_iff.mp h
    refine q_putI (pc := 37) (f := 4) tyX7 dX7_readClause_37 sh_3 cl_7 inX7 tyX7_ok nmX7 rfl (by decide) lk_X7_29 rfl rfl rfl h8 ?_
    refine q_iload_n (pc := 40) dX7_readClause_40 rfl ?_
    refine q_bipush (pc := 41) (v := nI 100) dX7_readClause_41 (by decide) ?_
    by_cases k9 : v1 = (nI 100)
    · rw [if_pos k9] at h
      refine q_icmp_ne_f (pc := 43) (tgt := 53) dX7_readClause_43 (by decide) k9 ?_
      refine q_aload_n (pc := 46) dX7_readClause_46 rfl ?_
      obtain ⟨M12, h11, h⟩ := Option.bind_eq_some_iff.mp h
      refine q_callv (pc := 47) (st := []) (a_X7_readLeast h11) okX7_readLeast rfl dX7_readClause_47 lk_X7_52 sh_3 cl_7 rfl (by decide) (by decide) (Nat.le_of_ble_eq_true rfl) ⟨Nat.le_of_ble_eq_true rfl, Nat.le_of_ble_eq_true rfl⟩ rfl ?_
      show QW G (qrm 3 0 0) YX7_readClause 0 0 50 [some (.ref 3), some (.int v1), some (.int r5)] [] SH M12 J _
      refine q_goto (pc := 50) (tgt := 70) dX7_readClause_50 (by decide) ?_
      obtain rfl := Option.some.inj h
      exact q_vret (pc := 70) dX7_readClause_70 rfl rfl rfl
    · rw [if_neg k9] at h
      refine q_icmp_ne_t (pc := 43) (tgt := 53) dX7_readClause_43 (by decide) k9 ?_
      refine q_iload_n (pc := 53) dX7_readClause_53 rfl ?_
      refine q_bipush (pc := 54) (v := nI 99) dX7_readClause_54 (by decide) ?_
      by_cases k13 : v1 = (nI 99)
      · rw [if_pos k13] at h
        refine q_icmp_ne_f (pc := 56) (tgt := 66) dX7_readClause_56 (by decide) k13 ?_
        refine q_aload_n (pc := 59) dX7_readClause_59 rfl ?_
        obtain ⟨M16, h15, h⟩ := Option.bind_eq_some_iff.mp h
        refine q_callv (pc := 60) (st := []) (a_X7_readCouple h15) okX7_readCouple rfl dX7_readClause_60 lk_X7_55 sh_3 cl_7 rfl (by decide) (by decide) (Nat.le_of_ble_eq_true rfl) ⟨Nat.le_of_ble_eq_true rfl, Nat.le_of_ble_eq_true rfl⟩ rfl ?_
        show QW G (qrm 3 0 0) YX7_readClause 0 0 63 [some (.ref 3), some (.int v1), some (.int r5)] [] SH M16 J _
        refine q_goto (pc := 63) (tgt := 70) dX7_readClause_63 (by decide) ?_
        obtain rfl := Option.some.inj h
        exact q_vret (pc := 70) dX7_readClause_70 rfl rfl rfl
      · rw [if_neg k13] at h
        refine q_icmp_ne_t (pc := 56) (tgt := 66) dX7_readClause_56 (by decide) k13 ?_
        refine q_aload_n (pc := 66) dX7_readClause_66 rfl ?_
        obtain ⟨M19, h18, h⟩ := Option.bind_eq_some_iff.mp h
        refine q_callv (pc := 67) (st := []) (a_X7_readObjector h18) okX7_readObjector rfl dX7_readClause_67 lk_X7_58 sh_3 cl_7 rfl (by decide) (by decide) (Nat.le_of_ble_eq_true rfl) ⟨Nat.le_of_ble_eq_true rfl, Nat.le_of_ble_eq_true rfl⟩ rfl ?_
        show QW G (qrm 3 0 0) YX7_readClause 0 0 70 [some (.ref 3), some (.int v1), some (.int r5)] [] SH M19 J _
        obtain rfl := Option.some.inj h
        exact q_vret (pc := 70) dX7_readClause_70 rfl rfl rfl
  · rw [if_neg k6] at h
    refine q_if_eq_f (pc := 17) (tgt := 30) dX7_readClause_17 (by decide) k6 ?_
    refine q_aload_n (pc := 20) dX7_readClause_20 rfl ?_
    refine q_iload_n (pc := 21) dX7_readClause_21 rfl ?_
    refine q_aload_n (pc := 22) dX7_readClause_22 rfl ?_
    refine q_getf (pc := 23) (f := 4) (v := .int (M 3 4)) dX7_readClause_23 sh_3 cl_7 inX7 rfl (by decide) lk_X7_29 rfl ?_
    obtain ⟨M22, h21, h⟩ := Option.bind_eq_some_iff.mp h
    refine q_callv (pc := 26) (st := []) (a_X7_fail h21) okX7_fail rfl dX7_readClause_26 lk_X7_48 sh_3 cl_7 rfl (by decide) (by decide) (Nat.le_of_ble_eq_true rfl) ⟨Nat.le_of_ble_eq_true rfl, Nat.le_of_ble_eq_true rfl⟩ rfl ?_
    show QW G (qrm 3 0 0) YX7_readClause 0 0 29 [some (.ref 3), some (.int v1), some (.int r5)] [] SH M22 J _
    obtain rfl := Option.some.inj h
    exact q_vret (pc := 29) dX7_readClause_29 rfl rfl rfl
def f_X7_readText_L28  : Nat → Int32 → qM → Option (Int32 × qM)
  | 0, _, _ => none
  | n + 1, c1, M =>
  if (nI 240) ≤ c1 then some (c1, M)
    else if (M 3 5) = 0 then if (M 3 1) ≤ (M 3 4) then some (c1, M)
    else (f_X7_readClause M).bind fun M18 => (f_X7_skipBlanks M18).bind fun M21 => f_X7_readText_L28  n (c1 + nI 1) M21
    else some (c1, M)
set_option maxRecDepth 20000 in
set_option maxHeartbeats 4000000 in
theorem l_X7_readText_L28 {G : qG} {ρ : qR}  (J : qJ) : ∀ (n : Nat) (c1 : Int32) (M : qM) (res : Int32 × qM), f_X7_readText_L28  n c1 M = some res → (∀ x : Int32 × qM, res = x → QW G (qrm 4 0 0) YX7_readText 0 0 67 [some (.ref 3), none] [] SH x.2 J ρ) → QW G (qrm 4 0 0) YX7_readText 0 0 28 [some (.ref 3), some (.int c1)] [] SH M J ρ
  | 0, _, _, _, h, _ => by simp [f_X7_readText_L28] at h
  | n + 1, c1, M, res, h, hk => by
    rw [f_X7_readText_L28] at h
    refine q_iload_n (pc := 28) dX7_readText_28 rfl ?_
    refine q_sipush (pc := 29) (v := nI 240) dX7_readText_29 (by decide) ?_
    by_cases k13 : (nI 240) ≤ c1
    · rw [if_pos k13] at h
      refine q_icmp_ge_t (pc := 32) (tgt := 67) dX7_readText_32 (by decide) k13 ?_
      refine q_weak (ls' := [some (.ref 3), none]) ⟨rfl, trivial⟩ ?_
      obtain rfl := Option.some.inj h
      exact hk (c1, M) rfl
    · rw [if_neg k13] at h
      refine q_icmp_ge_f (pc := 32) (tgt := 67) dX7_readText_32 (by decide) k13 ?_
      refine q_aload_n (pc := 35) dX7_readText_35 rfl ?_
      refine q_getf (pc := 36) (f := 5) (v := .int (M 3 5)) dX7_readText_36 sh_3 cl_7 inX7 rfl (by decide) lk_X7_32 rfl ?_
      by_cases k14 : (M 3 5) = 0
      · rw [if_pos k14] at h
        refine q_if_ne_f (pc := 39) (tgt := 67) dX7_readText_39 (by decide) k14 ?_
        refine q_aload_n (pc := 42) dX7_readText_42 rfl ?_
        refine q_getf (pc := 43) (f := 4) (v := .int (M 3 4)) dX7_readText_43 sh_3 cl_7 inX7 rfl (by decide) lk_X7_29 rfl ?_
        refine q_aload_n (pc := 46) dX7_readText_46 rfl ?_
        refine q_getf (pc := 47) (f := 1) (v := .int (M 3 1)) dX7_readText_47 sh_3 cl_7 inX7 rfl (by decide) lk_X7_18 rfl ?_
        by_cases k15 : (M 3 1) ≤ (M 3 4)
        · rw [if_pos k15] at h
          refine q_icmp_ge_t (pc := 50) (tgt := 67) dX7_readText_50 (by decide) k15 ?_
          refine q_weak (ls' := [some (.ref 3), none]) ⟨rfl, trivial⟩ ?_
          obtain rfl := Option.some.inj h
          exact hk (c1, M) rfl
        · rw [if_neg k15] at h
          refine q_icmp_ge_f (pc := 50) (tgt := 67) dX7_readText_50 (by decide) k15 ?_
          refine q_aload_n (pc := 53) dX7_readText_53 rfl ?_
          obtain ⟨M18, h17, h⟩ := Option.bind_eq_some_iff.mp h
          refine q_callv (pc := 54) (st := []) (a_X7_readClause h17) okX7_readClause rfl dX7_readText_54 lk_X7_41 sh_3 cl_7 rfl (by decide) (by decide) (Nat.le_of_ble_eq_true rfl) ⟨Nat.le_of_ble_eq_true rfl, Nat.le_of_ble_eq_true rfl⟩ rfl ?_
          show QW G (qrm 4 0 0) YX7_readText 0 0 57 [some (.ref 3), some (.int c1)] [] SH M18 J _
          refine q_aload_n (pc := 57) dX7_readText_57 rfl ?_
          obtain ⟨M21, h20, h⟩ := Option.bind_eq_some_iff.mp h
          refine q_callv (pc := 58) (st := []) (a_X7_skipBlanks h20) okX7_skipBlanks rfl dX7_readText_58 lk_X7_38 sh_3 cl_7 rfl (by decide) (by decide) (Nat.le_of_ble_eq_true rfl) ⟨Nat.le_of_ble_eq_true rfl, Nat.le_of_ble_eq_true rfl⟩ rfl ?_
          show QW G (qrm 4 0 0) YX7_readText 0 0 61 [some (.ref 3), some (.int c1)] [] SH M21 J _
          refine q_iincW (pc := 61) (w := nI 1) (ls' := [some (.ref 3), some (.int (c1 + nI 1))]) dX7_readText_61 rfl (by decide) (by decide) rfl rfl ?_
          refine q_goto (pc := 64) (tgt := 28) dX7_readText_64 (by decide) ?_
          exact l_X7_readText_L28  J n (c1 + nI 1) M21 res h hk
      · rw [if_neg k14] at h
        refine q_if_ne_t (pc := 39) (tgt := 67) dX7_readText_39 (by decide) k14 ?_
        refine q_weak (ls' := [some (.ref 3), none]) ⟨rfl, trivial⟩ ?_
        obtain rfl := Option.some.inj h
        exact hk (c1, M) rfl
def f_X7_readText  (M : qM) : Option (Int32 × qM) :=
  (qpu M 3 4 (nI 0)).bind fun M1 => (qpu M1 3 5 (nI 0)).bind fun M3 => (qpu M3 3 2 (-1 : Int32)).bind fun M5 => (f_X5_clear_at4 M5).bind fun M9 => (f_X7_skipBlanks M9).bind fun M12 => (f_X7_readText_L28  qF (nI 0) M12).bind fun e22 => (qpu e22.2 3 1 (nI 0)).bind fun M24 => some (M24 3 5, M24)
set_option maxRecDepth 20000 in
set_option maxHeartbeats 4000000 in
theorem a_X7_readText {G : qG}  {M : qM} {J : qJ} {r : Int32} {M' : qM} (h : f_X7_readText  M = some (r, M')) : QM G 4 0 0 YX7_readText [.ref 3] SH M J (some (.int r), SH, M', J) := by
  refine ⟨Nat.le_of_ble_eq_true rfl, Or.inl rfl, ?_⟩
  show QW G (qrm 4 0 0) YX7_readText 0 0 0 [some (.ref 3), none] [] SH M J _
  unfold f_X7_readText at h
  refine q_aload_n (pc := 0) dX7_readText_0 rfl ?_
  refine q_iconst (pc := 1) (v := nI 0) dX7_readText_1 (by decide) ?_
  obtain ⟨M1, h2, h⟩ := Option.bind_eq_some_iff.mp h
  refine q_putI (pc := 2) (f := 4) tyX7 dX7_readText_2 sh_3 cl_7 inX7 tyX7_ok nmX7 rfl (by decide) lk_X7_29 rfl rfl rfl h2 ?_
  refine q_aload_n (pc := 5) dX7_readText_5 rfl ?_
  refine q_iconst (pc := 6) (v := nI 0) dX7_readText_6 (by decide) ?_
  obtain ⟨M3, h4, h⟩ := Option.bind_eq_some_iff.mp h
  refine q_putI (pc := 7) (f := 5) tyX7 dX7_readText_7 sh_3 cl_7 inX7 tyX7_ok nmX7 rfl (by decide) lk_X7_32 rfl rfl rfl h4 ?_
  refine q_aload_n (pc := 10) dX7_readText_10 rfl ?_
  refine q_iconst (pc := 11) (v := (-1 : Int32)) dX7_readText_11 (by decide) ?_
  obtain ⟨M5, h6, h⟩ := Option.bind_eq_some_iff.mp h
  refine q_putI (pc := 12) (f := 2) tyX7 dX7_readText_12 sh_3 cl_7 inX7 tyX7_ok nmX7 rfl (by decide) lk_X7_22 rfl rfl rfl h6 ?_
  refine q_aload_n (pc := 15) dX7_readText_15 rfl ?_
  refine q_getf (pc := 16) (f := 0) (v := .ref 4) dX7_readText_16 sh_3 cl_7 inX7 rfl (by decide) lk_X7_12 rfl ?_
  obtain ⟨M9, h8, h⟩ := Option.bind_eq_some_iff.mp h
  refine q_callv (pc := 19) (st := []) (a_X5_clear_at4 h8) okX5_clear rfl dX7_readText_19 lk_X7_35 sh_4 cl_5 rfl (by decide) (by decide) (Nat.le_of_ble_eq_true rfl) ⟨Nat.le_of_ble_eq_true rfl, Nat.le_of_ble_eq_true rfl⟩ rfl ?_
  show QW G (qrm 4 0 0) YX7_readText 0 0 22 [some (.ref 3), none] [] SH M9 J _
  refine q_aload_n (pc := 22) dX7_readText_22 rfl ?_
  obtain ⟨M12, h11, h⟩ := Option.bind_eq_some_iff.mp h
  refine q_callv (pc := 23) (st := []) (a_X7_skipBlanks h11) okX7_skipBlanks rfl dX7_readText_23 lk_X7_38 sh_3 cl_7 rfl (by decide) (by decide) (Nat.le_of_ble_eq_true rfl) ⟨Nat.le_of_ble_eq_true rfl, Nat.le_of_ble_eq_true rfl⟩ rfl ?_
  show QW G (qrm 4 0 0) YX7_readText 0 0 26 [some (.ref 3), none] [] SH M12 J _
  refine q_iconst (pc := 26) (v := nI 0) dX7_readText_26 (by decide) ?_
  refine q_istore_n (pc := 27) (ls' := [some (.ref 3), some (.int (nI 0))]) dX7_readText_27 (by decide) rfl rfl ?_
  obtain ⟨⟨e22_1, M23⟩, h26, h⟩ := Option.bind_eq_some_iff.mp h
  try dsimp only at h
  refine l_X7_readText_L28  J qF (nI 0) M12 _ h26 (fun x hx => ?_)
  subst hx
  show QW G (qrm 4 0 0) YX7_readText 0 0 67 [some (.ref 3), none] [] SH M23 J _
  refine q_aload_n (pc := 67) dX7_readText_67 rfl ?_
  refine q_iconst (pc := 68) (v := nI 0) dX7_readText_68 (by decide) ?_
  obtain ⟨M24, h25, h⟩ := Option.bind_eq_some_iff.mp h
  refine q_putI (pc := 69) (f := 1) tyX7 dX7_readText_69 sh_3 cl_7 inX7 tyX7_ok nmX7 rfl (by decide) lk_X7_18 rfl rfl rfl h25 ?_
  refine q_aload_n (pc := 72) dX7_readText_72 rfl ?_
  refine q_getf (pc := 73) (f := 5) (v := .int (M24 3 5)) dX7_readText_73 sh_3 cl_7 inX7 rfl (by decide) lk_X7_32 rfl ?_
  have h := Option.some.inj h
  obtain ⟨rfl, rfl⟩ := Prod.mk.inj h
  exact q_iret (pc := 76) dX7_readText_76 rfl rfl rfl
def f_X5_copyFrom_at1_5 (a2 : Int32) (M : qM) : Option qM :=
  (qco M 5 2 172 172 a2 (nI 0) (nI 172)).bind fun M1 => some (M1)
set_option maxRecDepth 20000 in
set_option maxHeartbeats 4000000 in
theorem a_X5_copyFrom_at1_5 {G : qG} {a2 : Int32} {M : qM} {J : qJ} {M' : qM} (h : f_X5_copyFrom_at1_5 a2 M = some (M')) : QM G 1 0 0 YX5_copyFrom [.ref 1, .ref 5, .int a2] SH M J (none, SH, M', J) := by
  refine ⟨Nat.le_of_ble_eq_true rfl, rfl, ?_⟩
  show QW G (qrm 1 0 0) YX5_copyFrom 0 0 0 [some (.ref 1), some (.ref 5), some (.int a2)] [] SH M J _
  unfold f_X5_copyFrom_at1_5 at h
  refine q_aload_n (pc := 0) dX5_copyFrom_0 rfl ?_
  refine q_iload_n (pc := 1) dX5_copyFrom_1 rfl ?_
  refine q_aload_n (pc := 2) dX5_copyFrom_2 rfl ?_
  refine q_getf (pc := 3) (f := 0) (v := .ref 2) dX5_copyFrom_3 sh_1 cl_5 inX5 rfl (by decide) lk_X5_11 rfl ?_
  refine q_iconst (pc := 6) (v := nI 0) dX5_copyFrom_6 (by decide) ?_
  refine q_sipush (pc := 7) (v := nI 172) dX5_copyFrom_7 (by decide) ?_
  obtain ⟨M1, h2, h⟩ := Option.bind_eq_some_iff.mp h
  refine q_copy (pc := 10) dX5_copyFrom_10 lk_X5_21 sh_5 sh_2 h2 (by decide) (Nat.le_of_ble_eq_true rfl) ?_
  obtain rfl := Option.some.inj h
  exact q_vret (pc := 13) dX5_copyFrom_13 rfl rfl rfl
def f_X6_forget  (M : qM) : Option qM :=
  (qpu M 7 0 (nI 0)).bind fun M1 => some (M1)
set_option maxRecDepth 20000 in
set_option maxHeartbeats 4000000 in
theorem a_X6_forget {G : qG}  {M : qM} {J : qJ} {M' : qM} (h : f_X6_forget  M = some (M')) : QM G 0 0 0 YX6_forget [.ref 7] SH M J (none, SH, M', J) := by
  refine ⟨Nat.le_of_ble_eq_true rfl, rfl, ?_⟩
  show QW G (qrm 0 0 0) YX6_forget 0 0 0 [some (.ref 7)] [] SH M J _
  unfold f_X6_forget at h
  refine q_aload_n (pc := 0) dX6_forget_0 rfl ?_
  refine q_iconst (pc := 1) (v := nI 0) dX6_forget_1 (by decide) ?_
  obtain ⟨M1, h2, h⟩ := Option.bind_eq_some_iff.mp h
  refine q_putI (pc := 2) (f := 0) tyX6 dX6_forget_2 sh_7 cl_6 inX6 tyX6_ok nmX6 rfl (by decide) lk_X6_7 rfl rfl rfl h2 ?_
  obtain rfl := Option.some.inj h
  exact q_vret (pc := 5) dX6_forget_5 rfl rfl rfl
def f_X3_forget  (M : qM) : Option qM :=
  (qpu M 9 2 (nI 0)).bind fun M1 => some (M1)
set_option maxRecDepth 20000 in
set_option maxHeartbeats 4000000 in
theorem a_X3_forget {G : qG}  {M : qM} {J : qJ} {M' : qM} (h : f_X3_forget  M = some (M')) : QM G 0 0 0 YX3_forget [.ref 9] SH M J (none, SH, M', J) := by
  refine ⟨Nat.le_of_ble_eq_true rfl, rfl, ?_⟩
  show QW G (qrm 0 0 0) YX3_forget 0 0 0 [some (.ref 9)] [] SH M J _
  unfold f_X3_forget at h
  refine q_aload_n (pc := 0) dX3_forget_0 rfl ?_
  refine q_iconst (pc := 1) (v := nI 0) dX3_forget_1 (by decide) ?_
  obtain ⟨M1, h2, h⟩ := Option.bind_eq_some_iff.mp h
  refine q_putI (pc := 2) (f := 2) tyX3 dX3_forget_2 sh_9 cl_3 inX3 tyX3_ok nmX3 rfl (by decide) lk_X3_18 rfl rfl rfl h2 ?_
  obtain rfl := Option.some.inj h
  exact q_vret (pc := 5) dX3_forget_5 rfl rfl rfl
def f_X9_clear  (M : qM) : Option qM :=
  (qpu M 20 0 (nI 0)).bind fun M1 => some (M1)
set_option maxRecDepth 20000 in
set_option maxHeartbeats 4000000 in
theorem a_X9_clear {G : qG}  {M : qM} {J : qJ} {M' : qM} (h : f_X9_clear  M = some (M')) : QM G 0 0 0 YX9_clear [.ref 20] SH M J (none, SH, M', J) := by
  refine ⟨Nat.le_of_ble_eq_true rfl, rfl, ?_⟩
  show QW G (qrm 0 0 0) YX9_clear 0 0 0 [some (.ref 20)] [] SH M J _
  unfold f_X9_clear at h
  refine q_aload_n (pc := 0) dX9_clear_0 rfl ?_
  refine q_iconst (pc := 1) (v := nI 0) dX9_clear_1 (by decide) ?_
  obtain ⟨M1, h2, h⟩ := Option.bind_eq_some_iff.mp h
  refine q_putI (pc := 2) (f := 0) tyX9 dX9_clear_2 sh_20 cl_9 inX9 tyX9_ok nmX9 rfl (by decide) lk_X9_9 rfl rfl rfl h2 ?_
  obtain rfl := Option.some.inj h
  exact q_vret (pc := 5) dX9_clear_5 rfl rfl rfl
def f_X0_clear  (M : qM) : Option qM :=
  (qpu M 22 0 (nI 0)).bind fun M1 => some (M1)
set_option maxRecDepth 20000 in
set_option maxHeartbeats 4000000 in
theorem a_X0_clear {G : qG}  {M : qM} {J : qJ} {M' : qM} (h : f_X0_clear  M = some (M')) : QM G 0 0 0 YX0_clear [.ref 22] SH M J (none, SH, M', J) := by
  refine ⟨Nat.le_of_ble_eq_true rfl, rfl, ?_⟩
  show QW G (qrm 0 0 0) YX0_clear 0 0 0 [some (.ref 22)] [] SH M J _
  unfold f_X0_clear at h
  refine q_aload_n (pc := 0) dX0_clear_0 rfl ?_
  refine q_iconst (pc := 1) (v := nI 0) dX0_clear_1 (by decide) ?_
  obtain ⟨M1, h2, h⟩ := Option.bind_eq_some_iff.mp h
  refine q_putI (pc := 2) (f := 0) tyX0 dX0_clear_2 sh_22 cl_0 inX0 tyX0_ok nmX0 rfl (by decide) lk_X0_9 rfl rfl rfl h2 ?_
  obtain rfl := Option.some.inj h
  exact q_vret (pc := 5) dX0_clear_5 rfl rfl rfl
def f_X5_couples  (M : qM) : Option Int32 :=
  (qrd M 2 172 (nI 1)).bind fun v1 => some (v1)
set_option maxRecDepth 20000 in
set_option maxHeartbeats 4000000 in
theorem a_X5_couples {G : qG}  {M : qM} {J : qJ} {r : Int32} (h : f_X5_couples  M = some (r)) : QM G 0 0 0 YX5_couples [.ref 1] SH M J (some (.int r), SH, M, J) := by
  refine ⟨Nat.le_of_ble_eq_true rfl, Or.inl rfl, ?_⟩
  show QW G (qrm 0 0 0) YX5_couples 0 0 0 [some (.ref 1)] [] SH M J _
  unfold f_X5_couples at h
  refine q_aload_n (pc := 0) dX5_couples_0 rfl ?_
  refine q_getf (pc := 1) (f := 0) (v := .ref 2) dX5_couples_1 sh_1 cl_5 inX5 rfl (by decide) lk_X5_11 rfl ?_
  refine q_iconst (pc := 4) (v := nI 1) dX5_couples_4 (by decide) ?_
  obtain ⟨v1, h2, h⟩ := Option.bind_eq_some_iff.mp h
  refine q_iald (pc := 5) dX5_couples_5 sh_2 h2 ?_
  obtain rfl := Option.some.inj h
  exact q_iret (pc := 6) dX5_couples_6 rfl rfl rfl
def f_X11_deanery  (M : qM) : Option (Int32 × qM) :=
  (f_X7_readText M).bind fun p1 => if p1.1 = 0 then (f_X5_copyFrom_at1_5 (nI 0) p1.2).bind fun M8 => (f_X6_forget M8).bind fun M11 => (f_X3_forget M11).bind fun M14 => (f_X9_clear M14).bind fun M17 => (f_X0_clear M17).bind fun M20 => (f_X5_couples M20).bind fun r23 => some (r23, M20)
    else some ((-10 : Int32) - p1.1, p1.2)
set_option maxRecDepth 20000 in
set_option maxHeartbeats 4000000 in
theorem a_X11_deanery {G : qG}  {M : qM} {J : qJ} {r : Int32} {M' : qM} (h : f_X11_deanery  M = some (r, M')) : QM G 5 0 0 YX11_deanery [.ref 0] SH M J (some (.int r), SH, M', J) := by
  refine ⟨Nat.le_of_ble_eq_true rfl, Or.inl rfl, ?_⟩
  show QW G (qrm 5 0 0) YX11_deanery 0 0 0 [some (.ref 0), none] [] SH M J _
  unfold f_X11_deanery at h
  refine q_aload_n (pc := 0) dX11_deanery_0 rfl ?_
  refine q_getf (pc := 1) (f := 1) (v := .ref 3) dX11_deanery_1 sh_0 cl_10 inX11 rfl (by decide) lk_X11_19 rfl ?_
  obtain ⟨⟨r3, M4⟩, h2, h⟩ := Option.bind_eq_some_iff.mp h
  try dsimp only at h
  refine q_callv (pc := 4) (st := []) (a_X7_readText h2) okX7_readText rfl dX11_deanery_4 lk_X11_93 sh_3 cl_7 rfl (by decide) (by decide) (Nat.le_of_ble_eq_true rfl) ⟨Nat.le_of_ble_eq_true rfl, Nat.le_of_ble_eq_true rfl⟩ rfl ?_
  show QW G (qrm 5 0 0) YX11_deanery 0 0 7 [some (.ref 0), none] [.int r3] SH M4 J _
  refine q_istore_n (pc := 7) (ls' := [some (.ref 0), some (.int r3)]) dX11_deanery_7 (by decide) rfl rfl ?_
  refine q_iload_n (pc := 8) dX11_deanery_8 rfl ?_
  by_cases k5 : r3 = 0
  · rw [if_pos k5] at h
    refine q_if_eq_t (pc := 9) (tgt := 17) dX11_deanery_9 (by decide) k5 ?_
    refine q_aload_n (pc := 17) dX11_deanery_17 rfl ?_
    refine q_getf (pc := 18) (f := 0) (v := .ref 1) dX11_deanery_18 sh_0 cl_10 inX11 rfl (by decide) lk_X11_10 rfl ?_
    refine q_aload_n (pc := 21) dX11_deanery_21 rfl ?_
    refine q_getf (pc := 22) (f := 1) (v := .ref 3) dX11_deanery_22 sh_0 cl_10 inX11 rfl (by decide) lk_X11_19 rfl ?_
    refine q_getf (pc := 25) (f := 0) (v := .ref 4) dX11_deanery_25 sh_3 cl_7 inX7 rfl (by decide) lk_X11_97 rfl ?_
    refine q_getf (pc := 28) (f := 0) (v := .ref 5) dX11_deanery_28 sh_4 cl_5 inX5 rfl (by decide) lk_X11_100 rfl ?_
    refine q_iconst (pc := 31) (v := nI 0) dX11_deanery_31 (by decide) ?_
    obtain ⟨M8, h7, h⟩ := Option.bind_eq_some_iff.mp h
    refine q_callv (pc := 32) (st := []) (a_X5_copyFrom_at1_5 h7) okX5_copyFrom rfl dX11_deanery_32 lk_X11_104 sh_1 cl_5 rfl (by decide) (by decide) (Nat.le_of_ble_eq_true rfl) ⟨Nat.le_of_ble_eq_true rfl, Nat.le_of_ble_eq_true rfl⟩ rfl ?_
    show QW G (qrm 5 0 0) YX11_deanery 0 0 35 [some (.ref 0), some (.int r3)] [] SH M8 J _
    refine q_aload_n (pc := 35) dX11_deanery_35 rfl ?_
    refine q_getf (pc := 36) (f := 2) (v := .ref 7) dX11_deanery_36 sh_0 cl_10 inX11 rfl (by decide) lk_X11_26 rfl ?_
    obtain ⟨M11, h10, h⟩ := Option.bind_eq_some_iff.mp h
    refine q_callv (pc := 39) (st := []) (a_X6_forget h10) okX6_forget rfl dX11_deanery_39 lk_X11_108 sh_7 cl_6 rfl (by decide) (by decide) (Nat.le_of_ble_eq_true rfl) ⟨Nat.le_of_ble_eq_true rfl, Nat.le_of_ble_eq_true rfl⟩ rfl ?_
    show QW G (qrm 5 0 0) YX11_deanery 0 0 42 [some (.ref 0), some (.int r3)] [] SH M11 J _
    refine q_aload_n (pc := 42) dX11_deanery_42 rfl ?_
    refine q_getf (pc := 43) (f := 3) (v := .ref 9) dX11_deanery_43 sh_0 cl_10 inX11 rfl (by decide) lk_X11_33 rfl ?_
    obtain ⟨M14, h13, h⟩ := Option.bind_eq_some_iff.mp h
    refine q_callv (pc := 46) (st := []) (a_X3_forget h13) okX3_forget rfl dX11_deanery_46 lk_X11_111 sh_9 cl_3 rfl (by decide) (by decide) (Nat.le_of_ble_eq_true rfl) ⟨Nat.le_of_ble_eq_true rfl, Nat.le_of_ble_eq_true rfl⟩ rfl ?_
    show QW G (qrm 5 0 0) YX11_deanery 0 0 49 [some (.ref 0), some (.int r3)] [] SH M14 J _
    refine q_aload_n (pc := 49) dX11_deanery_49 rfl ?_
    refine q_getf (pc := 50) (f := 8) (v := .ref 20) dX11_deanery_50 sh_0 cl_10 inX11 rfl (by decide) lk_X11_68 rfl ?_
    obtain ⟨M17, h16, h⟩ := Option.bind_eq_some_iff.mp h
    refine q_callv (pc := 53) (st := []) (a_X9_clear h16) okX9_clear rfl dX11_deanery_53 lk_X11_112 sh_20 cl_9 rfl (by decide) (by decide) (Nat.le_of_ble_eq_true rfl) ⟨Nat.le_of_ble_eq_true rfl, Nat.le_of_ble_eq_true rfl⟩ rfl ?_
    show QW G (qrm 5 0 0) YX11_deanery 0 0 56 [some (.ref 0), some (.int r3)] [] SH M17 J _
    refine q_aload_n (pc := 56) dX11_deanery_56 rfl ?_
    refine q_getf (pc := 57) (f := 9) (v := .ref 22) dX11_deanery_57 sh_0 cl_10 inX11 rfl (by decide) lk_X11_75 rfl ?_
    obtain ⟨M20, h19, h⟩ := Option.bind_eq_some_iff.mp h
    refine q_callv (pc := 60) (st := []) (a_X0_clear h19) okX0_clear rfl dX11_deanery_60 lk_X11_115 sh_22 cl_0 rfl (by decide) (by decide) (Nat.le_of_ble_eq_true rfl) ⟨Nat.le_of_ble_eq_true rfl, Nat.le_of_ble_eq_true rfl⟩ rfl ?_
    show QW G (qrm 5 0 0) YX11_deanery 0 0 63 [some (.ref 0), some (.int r3)] [] SH M20 J _
    refine q_aload_n (pc := 63) dX11_deanery_63 rfl ?_
    refine q_getf (pc := 64) (f := 0) (v := .ref 1) dX11_deanery_64 sh_0 cl_10 inX11 rfl (by decide) lk_X11_10 rfl ?_
    obtain ⟨r23, h22, h⟩ := Option.bind_eq_some_iff.mp h
    refine q_callv (pc := 67) (st := []) (a_X5_couples h22) okX5_couples rfl dX11_deanery_67 lk_X11_116 sh_1 cl_5 rfl (by decide) (by decide) (Nat.le_of_ble_eq_true rfl) ⟨Nat.le_of_ble_eq_true rfl, Nat.le_of_ble_eq_true rfl⟩ rfl ?_
    show QW G (qrm 5 0 0) YX11_deanery 0 0 70 [some (.ref 0), some (.int r3)] [.int r23] SH M20 J _
    have h := Option.some.inj h
    obtain ⟨rfl, rfl⟩ := Prod.mk.inj h
    exact q_iret (pc := 70) dX11_deanery_70 rfl rfl rfl
  · rw [if_neg k5] at h
    refine q_if_eq_f (pc := 9) (tgt := 17) dX11_deanery_9 (by decide) k5 ?_
    refine q_bipush (pc := 12) (v := (-10 : Int32)) dX11_deanery_12 (by decide) ?_
    refine q_iload_n (pc := 14) dX11_deanery_14 rfl ?_
    refine q_isub (pc := 15) dX11_deanery_15 ?_
    have h := Option.some.inj h
    obtain ⟨rfl, rfl⟩ := Prod.mk.inj h
    exact q_iret (pc := 16) dX11_deanery_16 rfl rfl rfl
def f_X11_fault  (M : qM) : Option Int32 :=
  some (M 3 2)
set_option maxRecDepth 20000 in
set_option maxHeartbeats 4000000 in
theorem a_X11_fault {G : qG}  {M : qM} {J : qJ} {r : Int32} (h : f_X11_fault  M = some (r)) : QM G 0 0 0 YX11_fault [.ref 0] SH M J (some (.int r), SH, M, J) := by
  refine ⟨Nat.le_of_ble_eq_true rfl, Or.inl rfl, ?_⟩
  show QW G (qrm 0 0 0) YX11_fault 0 0 0 [some (.ref 0)] [] SH M J _
  unfold f_X11_fault at h
  refine q_aload_n (pc := 0) dX11_fault_0 rfl ?_
  refine q_getf (pc := 1) (f := 1) (v := .ref 3) dX11_fault_1 sh_0 cl_10 inX11 rfl (by decide) lk_X11_19 rfl ?_
  refine q_getf (pc := 4) (f := 2) (v := .int (M 3 2)) dX11_fault_4 sh_3 cl_7 inX7 rfl (by decide) lk_X11_119 rfl ?_
  obtain rfl := Option.some.inj h
  exact q_iret (pc := 7) dX11_fault_7 rfl rfl rfl
def f_X5_least  (M : qM) : Option Int32 :=
  (qrd M 2 172 (nI 0)).bind fun v1 => some (v1)
set_option maxRecDepth 20000 in
set_option maxHeartbeats 4000000 in
theorem a_X5_least {G : qG}  {M : qM} {J : qJ} {r : Int32} (h : f_X5_least  M = some (r)) : QM G 0 0 0 YX5_least [.ref 1] SH M J (some (.int r), SH, M, J) := by
  refine ⟨Nat.le_of_ble_eq_true rfl, Or.inl rfl, ?_⟩
  show QW G (qrm 0 0 0) YX5_least 0 0 0 [some (.ref 1)] [] SH M J _
  unfold f_X5_least at h
  refine q_aload_n (pc := 0) dX5_least_0 rfl ?_
  refine q_getf (pc := 1) (f := 0) (v := .ref 2) dX5_least_1 sh_1 cl_5 inX5 rfl (by decide) lk_X5_11 rfl ?_
  refine q_iconst (pc := 4) (v := nI 0) dX5_least_4 (by decide) ?_
  obtain ⟨v1, h2, h⟩ := Option.bind_eq_some_iff.mp h
  refine q_iald (pc := 5) dX5_least_5 sh_2 h2 ?_
  obtain rfl := Option.some.inj h
  exact q_iret (pc := 6) dX5_least_6 rfl rfl rfl
def f_X5_objectors  (M : qM) : Option Int32 :=
  (qrd M 2 172 (nI 2)).bind fun v1 => some (v1)
set_option maxRecDepth 20000 in
set_option maxHeartbeats 4000000 in
theorem a_X5_objectors {G : qG}  {M : qM} {J : qJ} {r : Int32} (h : f_X5_objectors  M = some (r)) : QM G 0 0 0 YX5_objectors [.ref 1] SH M J (some (.int r), SH, M, J) := by
  refine ⟨Nat.le_of_ble_eq_true rfl, Or.inl rfl, ?_⟩
  show QW G (qrm 0 0 0) YX5_objectors 0 0 0 [some (.ref 1)] [] SH M J _
  unfold f_X5_objectors at h
  refine q_aload_n (pc := 0) dX5_objectors_0 rfl ?_
  refine q_getf (pc := 1) (f := 0) (v := .ref 2) dX5_objectors_1 sh_1 cl_5 inX5 rfl (by decide) lk_X5_11 rfl ?_
  refine q_iconst (pc := 4) (v := nI 2) dX5_objectors_4 (by decide) ?_
  obtain ⟨v1, h2, h⟩ := Option.bind_eq_some_iff.mp h
  refine q_iald (pc := 5) dX5_objectors_5 sh_2 h2 ?_
  obtain rfl := Option.some.inj h
  exact q_iret (pc := 6) dX5_objectors_6 rfl rfl rfl
def f_X5_years  (M : qM) : Option Int32 :=
  (qrd M 2 172 (nI 3)).bind fun v1 => some (v1)
set_option maxRecDepth 20000 in
set_option maxHeartbeats 4000000 in
theorem a_X5_years {G : qG}  {M : qM} {J : qJ} {r : Int32} (h : f_X5_years  M = some (r)) : QM G 0 0 0 YX5_years [.ref 1] SH M J (some (.int r), SH, M, J) := by
  refine ⟨Nat.le_of_ble_eq_true rfl, Or.inl rfl, ?_⟩
  show QW G (qrm 0 0 0) YX5_years 0 0 0 [some (.ref 1)] [] SH M J _
  unfold f_X5_years at h
  refine q_aload_n (pc := 0) dX5_years_0 rfl ?_
  refine q_getf (pc := 1) (f := 0) (v := .ref 2) dX5_years_1 sh_1 cl_5 inX5 rfl (by decide) lk_X5_11 rfl ?_
  refine q_iconst (pc := 4) (v := nI 3) dX5_years_4 (by decide) ?_
  obtain ⟨v1, h2, h⟩ := Option.bind_eq_some_iff.mp h
  refine q_iald (pc := 5) dX5_years_5 sh_2 h2 ?_
  obtain rfl := Option.some.inj h
  exact q_iret (pc := 6) dX5_years_6 rfl rfl rfl
def f_X5_fate (a1 : Int32) (M : qM) : Option Int32 :=
  (qrd M 2 172 ((nI 12) + a1)).bind fun v1 => some (v1)
set_option maxRecDepth 20000 in
set_option maxHeartbeats 4000000 in
theorem a_X5_fate {G : qG} {a1 : Int32} {M : qM} {J : qJ} {r : Int32} (h : f_X5_fate a1 M = some (r)) : QM G 0 0 0 YX5_fate [.ref 1, .int a1] SH M J (some (.int r), SH, M, J) := by
  refine ⟨Nat.le_of_ble_eq_true rfl, Or.inl rfl, ?_⟩
  show QW G (qrm 0 0 0) YX5_fate 0 0 0 [some (.ref 1), some (.int a1)] [] SH M J _
  unfold f_X5_fate at h
  refine q_aload_n (pc := 0) dX5_fate_0 rfl ?_
  refine q_getf (pc := 1) (f := 0) (v := .ref 2) dX5_fate_1 sh_1 cl_5 inX5 rfl (by decide) lk_X5_11 rfl ?_
  refine q_bipush (pc := 4) (v := nI 12) dX5_fate_4 (by decide) ?_
  refine q_iload_n (pc := 6) dX5_fate_6 rfl ?_
  refine q_iadd (pc := 7) dX5_fate_7 ?_
  obtain ⟨v1, h2, h⟩ := Option.bind_eq_some_iff.mp h
  refine q_iald (pc := 8) dX5_fate_8 sh_2 h2 ?_
  obtain rfl := Option.some.inj h
  exact q_iret (pc := 9) dX5_fate_9 rfl rfl rfl
def f_X5_couplesThat_L4 (x1 : Int32) (M : qM) : Nat → Int32 → Int32 → Option (Int32 × Int32)
  | 0, _, _ => none
  | n + 1, c2, c3 =>
  (f_X5_couples M).bind fun r3 => if r3 ≤ c3 then some (c2, c3)
    else (f_X5_fate c3 M).bind fun r7 => if r7 = x1 then f_X5_couplesThat_L4 x1 M n (c2 ||| ((nI 1) <<< (c3 &&& 31))) (c3 + nI 1)
    else f_X5_couplesThat_L4 x1 M n c2 (c3 + nI 1)
set_option maxRecDepth 20000 in
set_option maxHeartbeats 4000000 in
theorem l_X5_couplesThat_L4 {G : qG} {ρ : qR} (x1 : Int32) (M : qM) (J : qJ) : ∀ (n : Nat) (c2 : Int32) (c3 : Int32) (res : Int32 × Int32), f_X5_couplesThat_L4 x1 M n c2 c3 = some res → (∀ x : Int32 × Int32, res = x → QW G (qrm 1 0 0) YX5_couplesThat 0 0 33 [none, none, some (.int x.1), none] [] SH M J ρ) → QW G (qrm 1 0 0) YX5_couplesThat 0 0 4 [some (.ref 1), some (.int x1), some (.int c2), some (.int c3)] [] SH M J ρ
  | 0, _, _, _, h, _ => by simp [f_X5_couplesThat_L4] at h
  | n + 1, c2, c3, res, h, hk => by
    rw [f_X5_couplesThat_L4] at h
    refine q_iload_n (pc := 4) dX5_couplesThat_4 rfl ?_
    refine q_aload_n (pc := 5) dX5_couplesThat_5 rfl ?_
    obtain ⟨r3, h2, h⟩ := Option.bind_eq_some_iff.mp h
    refine q_callv (pc := 6) (st := [.int c3]) (a_X5_couples h2) okX5_couples rfl dX5_couplesThat_6 lk_X5_27 sh_1 cl_5 rfl (by decide) (by decide) (Nat.le_of_ble_eq_true rfl) ⟨Nat.le_of_ble_eq_true rfl, Nat.le_of_ble_eq_true rfl⟩ rfl ?_
    show QW G (qrm 1 0 0) YX5_couplesThat 0 0 9 [some (.ref 1), some (.int x1), some (.int c2), some (.int c3)] [.int r3, .int c3] SH M J _
    by_cases k4 : r3 ≤ c3
    · rw [if_pos k4] at h
      refine q_icmp_ge_t (pc := 9) (tgt := 33) dX5_couplesThat_9 (by decide) k4 ?_
      refine q_weak (ls' := [none, none, some (.int c2), none]) ⟨rfl, trivial⟩ ?_
      obtain rfl := Option.some.inj h
      exact hk (c2, c3) rfl
    · rw [if_neg k4] at h
      refine q_icmp_ge_f (pc := 9) (tgt := 33) dX5_couplesThat_9 (by decide) k4 ?_
      refine q_aload_n (pc := 12) dX5_couplesThat_12 rfl ?_
      refine q_iload_n (pc := 13) dX5_couplesThat_13 rfl ?_
      obtain ⟨r7, h6, h⟩ := Option.bind_eq_some_iff.mp h
      refine q_callv (pc := 14) (st := []) (a_X5_fate h6) okX5_fate rfl dX5_couplesThat_14 lk_X5_31 sh_1 cl_5 rfl (by decide) (by decide) (Nat.le_of_ble_eq_true rfl) ⟨Nat.le_of_ble_eq_true rfl, Nat.le_of_ble_eq_true rfl⟩ rfl ?_
      show QW G (qrm 1 0 0) YX5_couplesThat 0 0 17 [some (.ref 1), some (.int x1), some (.int c2), some (.int c3)] [.int r7] SH M J _
      refine q_iload_n (pc := 17) dX5_couplesThat_17 rfl ?_
      by_cases k8 : r7 = x1
      · rw [if_pos k8] at h
        refine q_icmp_ne_f (pc := 18) (tgt := 27) dX5_couplesThat_18 (by decide) k8 ?_
        refine q_iload_n (pc := 21) dX5_couplesThat_21 rfl ?_
        refine q_iconst (pc := 22) (v := nI 1) dX5_couplesThat_22 (by decide) ?_
        refine q_iload_n (pc := 23) dX5_couplesThat_23 rfl ?_
        refine q_ishl (pc := 24) dX5_couplesThat_24 ?_
        refine q_ior (pc := 25) dX5_couplesThat_25 ?_
        refine q_istore_n (pc := 26) (ls' := [some (.ref 1), some (.int x1), some (.int (c2 ||| ((nI 1) <<< (c3 &&& 31)))), some (.int c3)]) dX5_couplesThat_26 (by decide) rfl rfl ?_
        refine q_iincW (pc := 27) (w := nI 1) (ls' := [some (.ref 1), some (.int x1), some (.int (c2 ||| ((nI 1) <<< (c3 &&& 31)))), some (.int (c3 + nI 1))]) dX5_couplesThat_27 rfl (by decide) (by decide) rfl rfl ?_
        refine q_goto (pc := 30) (tgt := 4) dX5_couplesThat_30 (by decide) ?_
        exact l_X5_couplesThat_L4 x1 M J n (c2 ||| ((nI 1) <<< (c3 &&& 31))) (c3 + nI 1) res h hk
      · rw [if_neg k8] at h
        refine q_icmp_ne_t (pc := 18) (tgt := 27) dX5_couplesThat_18 (by decide) k8 ?_
        refine q_iincW (pc := 27) (w := nI 1) (ls' := [some (.ref 1), some (.int x1), some (.int c2), some (.int (c3 + nI 1))]) dX5_couplesThat_27 rfl (by decide) (by decide) rfl rfl ?_
        refine q_goto (pc := 30) (tgt := 4) dX5_couplesThat_30 (by decide) ?_
        exact l_X5_couplesThat_L4 x1 M J n c2 (c3 + nI 1) res h hk
def f_X5_couplesThat (a1 : Int32) (M : qM) : Option Int32 :=
  (f_X5_couplesThat_L4 a1 M qF (nI 0) (nI 0)).bind fun e9 => some (e9.1)
set_option maxRecDepth 20000 in
set_option maxHeartbeats 4000000 in
theorem a_X5_couplesThat {G : qG} {a1 : Int32} {M : qM} {J : qJ} {r : Int32} (h : f_X5_couplesThat a1 M = some (r)) : QM G 1 0 0 YX5_couplesThat [.ref 1, .int a1] SH M J (some (.int r), SH, M, J) := by
  refine ⟨Nat.le_of_ble_eq_true rfl, Or.inl rfl, ?_⟩
  show QW G (qrm 1 0 0) YX5_couplesThat 0 0 0 [some (.ref 1), some (.int a1), none, none] [] SH M J _
  unfold f_X5_couplesThat at h
  refine q_iconst (pc := 0) (v := nI 0) dX5_couplesThat_0 (by decide) ?_
  refine q_istore_n (pc := 1) (ls' := [some (.ref 1), some (.int a1), some (.int (nI 0)), none]) dX5_couplesThat_1 (by decide) rfl rfl ?_
  refine q_iconst (pc := 2) (v := nI 0) dX5_couplesThat_2 (by decide) ?_
  refine q_istore_n (pc := 3) (ls' := [some (.ref 1), some (.int a1), some (.int (nI 0)), some (.int (nI 0))]) dX5_couplesThat_3 (by decide) rfl rfl ?_
  obtain ⟨⟨e9_2, e9_3⟩, h10, h⟩ := Option.bind_eq_some_iff.mp h
  try dsimp only at h
  refine l_X5_couplesThat_L4 a1 M J qF (nI 0) (nI 0) _ h10 (fun x hx => ?_)
  subst hx
  show QW G (qrm 1 0 0) YX5_couplesThat 0 0 33 [none, none, some (.int e9_2), none] [] SH M J _
  refine q_iload_n (pc := 33) dX5_couplesThat_33 rfl ?_
  obtain rfl := Option.some.inj h
  exact q_iret (pc := 34) dX5_couplesThat_34 rfl rfl rfl
def f_X5_stood  (M : qM) : Option Int32 :=
  (qrd M 2 172 (nI 4)).bind fun v1 => some (v1)
set_option maxRecDepth 20000 in
set_option maxHeartbeats 4000000 in
theorem a_X5_stood {G : qG}  {M : qM} {J : qJ} {r : Int32} (h : f_X5_stood  M = some (r)) : QM G 0 0 0 YX5_stood [.ref 1] SH M J (some (.int r), SH, M, J) := by
  refine ⟨Nat.le_of_ble_eq_true rfl, Or.inl rfl, ?_⟩
  show QW G (qrm 0 0 0) YX5_stood 0 0 0 [some (.ref 1)] [] SH M J _
  unfold f_X5_stood at h
  refine q_aload_n (pc := 0) dX5_stood_0 rfl ?_
  refine q_getf (pc := 1) (f := 0) (v := .ref 2) dX5_stood_1 sh_1 cl_5 inX5 rfl (by decide) lk_X5_11 rfl ?_
  refine q_iconst (pc := 4) (v := nI 4) dX5_stood_4 (by decide) ?_
  obtain ⟨v1, h2, h⟩ := Option.bind_eq_some_iff.mp h
  refine q_iald (pc := 5) dX5_stood_5 sh_2 h2 ?_
  obtain rfl := Option.some.inj h
  exact q_iret (pc := 6) dX5_stood_6 rfl rfl rfl
def f_X5_boxed  (M : qM) : Option Int32 :=
  (qrd M 2 172 (nI 5)).bind fun v1 => some (v1)
set_option maxRecDepth 20000 in
set_option maxHeartbeats 4000000 in
theorem a_X5_boxed {G : qG}  {M : qM} {J : qJ} {r : Int32} (h : f_X5_boxed  M = some (r)) : QM G 0 0 0 YX5_boxed [.ref 1] SH M J (some (.int r), SH, M, J) := by
  refine ⟨Nat.le_of_ble_eq_true rfl, Or.inl rfl, ?_⟩
  show QW G (qrm 0 0 0) YX5_boxed 0 0 0 [some (.ref 1)] [] SH M J _
  unfold f_X5_boxed at h
  refine q_aload_n (pc := 0) dX5_boxed_0 rfl ?_
  refine q_getf (pc := 1) (f := 0) (v := .ref 2) dX5_boxed_1 sh_1 cl_5 inX5 rfl (by decide) lk_X5_11 rfl ?_
  refine q_iconst (pc := 4) (v := nI 5) dX5_boxed_4 (by decide) ?_
  obtain ⟨v1, h2, h⟩ := Option.bind_eq_some_iff.mp h
  refine q_iald (pc := 5) dX5_boxed_5 sh_2 h2 ?_
  obtain rfl := Option.some.inj h
  exact q_iret (pc := 6) dX5_boxed_6 rfl rfl rfl
def f_X5_waits (a1 : Int32) (M : qM) : Option Bool :=
  (qrd M 2 172 ((nI 12) + a1)).bind fun v1 => if v1 = 0 then some (true)
    else some (false)
set_option maxRecDepth 20000 in
set_option maxHeartbeats 4000000 in
theorem a_X5_waits {G : qG} {a1 : Int32} {M : qM} {J : qJ} {r : Bool} (h : f_X5_waits a1 M = some (r)) : QM G 0 0 0 YX5_waits [.ref 1, .int a1] SH M J (some (.int (qb r)), SH, M, J) := by
  refine ⟨Nat.le_of_ble_eq_true rfl, Or.inr ⟨rfl, _, rfl⟩, ?_⟩
  show QW G (qrm 0 0 0) YX5_waits 0 0 0 [some (.ref 1), some (.int a1)] [] SH M J _
  unfold f_X5_waits at h
  refine q_aload_n (pc := 0) dX5_waits_0 rfl ?_
  refine q_getf (pc := 1) (f := 0) (v := .ref 2) dX5_waits_1 sh_1 cl_5 inX5 rfl (by decide) lk_X5_11 rfl ?_
  refine q_bipush (pc := 4) (v := nI 12) dX5_waits_4 (by decide) ?_
  refine q_iload_n (pc := 6) dX5_waits_6 rfl ?_
  refine q_iadd (pc := 7) dX5_waits_7 ?_
  obtain ⟨v1, h2, h⟩ := Option.bind_eq_some_iff.mp h
  refine q_iald (pc := 8) dX5_waits_8 sh_2 h2 ?_
  by_cases k3 : v1 = 0
  · rw [if_pos k3] at h
    refine q_if_ne_f (pc := 9) (tgt := 16) dX5_waits_9 (by decide) k3 ?_
    refine q_iconst (pc := 12) (v := nI 1) dX5_waits_12 (by decide) ?_
    refine q_goto (pc := 13) (tgt := 17) dX5_waits_13 (by decide) ?_
    obtain rfl := Option.some.inj h
    exact q_iret (pc := 17) dX5_waits_17 rfl rfl rfl
  · rw [if_neg k3] at h
    refine q_if_ne_t (pc := 9) (tgt := 16) dX5_waits_9 (by decide) k3 ?_
    refine q_iconst (pc := 16) (v := nI 0) dX5_waits_16 (by decide) ?_
    obtain rfl := Option.some.inj h
    exact q_iret (pc := 17) dX5_waits_17 rfl rfl rfl
def f_X5_kind (a1 : Int32) (M : qM) : Option Int32 :=
  (qrd M 2 172 ((nI 54) + a1)).bind fun v1 => some (v1)
set_option maxRecDepth 20000 in
set_option maxHeartbeats 4000000 in
theorem a_X5_kind {G : qG} {a1 : Int32} {M : qM} {J : qJ} {r : Int32} (h : f_X5_kind a1 M = some (r)) : QM G 0 0 0 YX5_kind [.ref 1, .int a1] SH M J (some (.int r), SH, M, J) := by
  refine ⟨Nat.le_of_ble_eq_true rfl, Or.inl rfl, ?_⟩
  show QW G (qrm 0 0 0) YX5_kind 0 0 0 [some (.ref 1), some (.int a1)] [] SH M J _
  unfold f_X5_kind at h
  refine q_aload_n (pc := 0) dX5_kind_0 rfl ?_
  refine q_getf (pc := 1) (f := 0) (v := .ref 2) dX5_kind_1 sh_1 cl_5 inX5 rfl (by decide) lk_X5_11 rfl ?_
  refine q_bipush (pc := 4) (v := nI 54) dX5_kind_4 (by decide) ?_
  refine q_iload_n (pc := 6) dX5_kind_6 rfl ?_
  refine q_iadd (pc := 7) dX5_kind_7 ?_
  obtain ⟨v1, h2, h⟩ := Option.bind_eq_some_iff.mp h
  refine q_iald (pc := 8) dX5_kind_8 sh_2 h2 ?_
  obtain rfl := Option.some.inj h
  exact q_iret (pc := 9) dX5_kind_9 rfl rfl rfl
def f_X5_known (a1 : Int32) (M : qM) : Option Int32 :=
  (qrd M 2 172 ((nI 66) + a1)).bind fun v1 => some (v1)
set_option maxRecDepth 20000 in
set_option maxHeartbeats 4000000 in
theorem a_X5_known {G : qG} {a1 : Int32} {M : qM} {J : qJ} {r : Int32} (h : f_X5_known a1 M = some (r)) : QM G 0 0 0 YX5_known [.ref 1, .int a1] SH M J (some (.int r), SH, M, J) := by
  refine ⟨Nat.le_of_ble_eq_true rfl, Or.inl rfl, ?_⟩
  show QW G (qrm 0 0 0) YX5_known 0 0 0 [some (.ref 1), some (.int a1)] [] SH M J _
  unfold f_X5_known at h
  refine q_aload_n (pc := 0) dX5_known_0 rfl ?_
  refine q_getf (pc := 1) (f := 0) (v := .ref 2) dX5_known_1 sh_1 cl_5 inX5 rfl (by decide) lk_X5_11 rfl ?_
  refine q_bipush (pc := 4) (v := nI 66) dX5_known_4 (by decide) ?_
  refine q_iload_n (pc := 6) dX5_known_6 rfl ?_
  refine q_iadd (pc := 7) dX5_known_7 ?_
  obtain ⟨v1, h2, h⟩ := Option.bind_eq_some_iff.mp h
  refine q_iald (pc := 8) dX5_known_8 sh_2 h2 ?_
  obtain rfl := Option.some.inj h
  exact q_iret (pc := 9) dX5_known_9 rfl rfl rfl
def f_X5_weight (a1 : Int32) (a2 : Int32) (M : qM) : Option Int32 :=
  (qrd M 2 172 (((nI 24) + (a1 * (nI 5))) + a2)).bind fun v1 => some (v1)
set_option maxRecDepth 20000 in
set_option maxHeartbeats 4000000 in
theorem a_X5_weight {G : qG} {a1 : Int32} {a2 : Int32} {M : qM} {J : qJ} {r : Int32} (h : f_X5_weight a1 a2 M = some (r)) : QM G 0 0 0 YX5_weight [.ref 1, .int a1, .int a2] SH M J (some (.int r), SH, M, J) := by
  refine ⟨Nat.le_of_ble_eq_true rfl, Or.inl rfl, ?_⟩
  show QW G (qrm 0 0 0) YX5_weight 0 0 0 [some (.ref 1), some (.int a1), some (.int a2)] [] SH M J _
  unfold f_X5_weight at h
  refine q_aload_n (pc := 0) dX5_weight_0 rfl ?_
  refine q_getf (pc := 1) (f := 0) (v := .ref 2) dX5_weight_1 sh_1 cl_5 inX5 rfl (by decide) lk_X5_11 rfl ?_
  refine q_bipush (pc := 4) (v := nI 24) dX5_weight_4 (by decide) ?_
  refine q_iload_n (pc := 6) dX5_weight_6 rfl ?_
  refine q_iconst (pc := 7) (v := nI 5) dX5_weight_7 (by decide) ?_
  refine q_imul (pc := 8) dX5_weight_8 ?_
  refine q_iadd (pc := 9) dX5_weight_9 ?_
  refine q_iload_n (pc := 10) dX5_weight_10 rfl ?_
  refine q_iadd (pc := 11) dX5_weight_11 ?_
  obtain ⟨v1, h2, h⟩ := Option.bind_eq_some_iff.mp h
  refine q_iald (pc := 12) dX5_weight_12 sh_2 h2 ?_
  obtain rfl := Option.some.inj h
  exact q_iret (pc := 13) dX5_weight_13 rfl rfl rfl
