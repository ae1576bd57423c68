def f_X8_firstChoice_L3 (x2 : Int32) (x3 : Int32) (x4 : Int32) (M : qM) : Nat → Int32 → Option ((Int32) ⊕ (Int32))
  | 0, _ => none
  | n + 1, c5 =>
  (f_X5_couples M).bind fun r3 => if r3 ≤ c5 then some (.inr (c5))
    else if ((x4 >>> (c5 &&& 31)) &&& (nI 1)) = (nI 1) then (f_X8_valueOf x2 c5 x3 x4 M).bind fun r8 => (qrd M 17 64 x4).bind fun v9 => if r8 = v9 then some (.inl (c5))
    else f_X8_firstChoice_L3 x2 x3 x4 M n (c5 + nI 1)
    else f_X8_firstChoice_L3 x2 x3 x4 M n (c5 + nI 1)
set_option maxRecDepth 20000 in
set_option maxHeartbeats 4000000 in
theorem l_X8_firstChoice_L3 {G : qG} {ρ : qR} (x2 : Int32) (x3 : Int32) (x4 : Int32) (M : qM) (J : qJ) : ∀ (n : Nat) (c5 : Int32) (res : (Int32) ⊕ (Int32)), f_X8_firstChoice_L3 x2 x3 x4 M n c5 = some res → (∀ x : Int32, res = .inr x → QW G (qrm 5 0 0) YX8_firstChoice 0 0 53 [none, none, none, none, none, none] [] SH M J ρ) → (∀ r : Int32, res = .inl r → (some (.int r), SH, M, J) = ρ) → QW G (qrm 5 0 0) YX8_firstChoice 0 0 3 [some (.ref 16), some (.ref 1), some (.int x2), some (.int x3), some (.int x4), some (.int c5)] [] SH M J ρ
  | 0, _, _, h, _, _ => by simp [f_X8_firstChoice_L3] at h
  | n + 1, c5, res, h, hk, hr => by
    rw [f_X8_firstChoice_L3] at h
    refine q_iload (pc := 3) dX8_firstChoice_3 rfl ?_
    refine q_aload_n (pc := 5) dX8_firstChoice_5 rfl ?_
    obtain ⟨r3, h2, h⟩ := Option.bind_eq_some_iff.mp h
    refine q_callv (pc := 6) (st := [.int c5]) (a_X5_couples h2) okX5_couples rfl dX8_firstChoice_6 lk_X8_19 sh_1 cl_5 rfl (by decide) (by decide) (Nat.le_of_ble_eq_true rfl) ⟨Nat.le_of_ble_eq_true rfl, Nat.le_of_ble_eq_true rfl⟩ rfl ?_
    show QW G (qrm 5 0 0) YX8_firstChoice 0 0 9 [some (.ref 16), some (.ref 1), some (.int x2), some (.int x3), some (.int x4), some (.int c5)] [.int r3, .int c5] SH M J _
    by_cases k4 : r3 ≤ c5
    · rw [if_pos k4] at h
      refine q_icmp_ge_t (pc := 9) (tgt := 53) dX8_firstChoice_9 (by decide) k4 ?_
      refine q_weak (ls' := [none, none, none, none, none, none]) trivial ?_
      obtain rfl := Option.some.inj h
      exact hk (c5) rfl
    · rw [if_neg k4] at h
      refine q_icmp_ge_f (pc := 9) (tgt := 53) dX8_firstChoice_9 (by decide) k4 ?_
      refine q_iload (pc := 12) dX8_firstChoice_12 rfl ?_
      refine q_iload (pc := 14) dX8_firstChoice_14 rfl ?_
      refine q_ishr (pc := 16) dX8_firstChoice_16 ?_
      refine q_iconst (pc := 17) (v := nI 1) dX8_firstChoice_17 (by decide) ?_
      refine q_iand (pc := 18) dX8_firstChoice_18 ?_
      refine q_iconst (pc := 19) (v := nI 1) dX8_firstChoice_19 (by decide) ?_
      by_cases k5 : ((x4 >>> (c5 &&& 31)) &&& (nI 1)) = (nI 1)
      · rw [if_pos k5] at h
        refine q_icmp_ne_f (pc := 20) (tgt := 47) dX8_firstChoice_20 (by decide) k5 ?_
        refine q_aload_n (pc := 23) dX8_firstChoice_23 rfl ?_
        refine q_aload_n (pc := 24) dX8_firstChoice_24 rfl ?_
        refine q_iload_n (pc := 25) dX8_firstChoice_25 rfl ?_
        refine q_iload (pc := 26) dX8_firstChoice_26 rfl ?_
        refine q_iload_n (pc := 28) dX8_firstChoice_28 rfl ?_
        refine q_iload (pc := 29) dX8_firstChoice_29 rfl ?_
        obtain ⟨r8, h7, h⟩ := Option.bind_eq_some_iff.mp h
        refine q_callv (pc := 31) (st := []) (a_X8_valueOf h7) okX8_valueOf rfl dX8_firstChoice_31 lk_X8_25 sh_16 cl_8 rfl (by decide) (by decide) (Nat.le_of_ble_eq_true rfl) ⟨Nat.le_of_ble_eq_true rfl, Nat.le_of_ble_eq_true rfl⟩ rfl ?_
        show QW G (qrm 5 0 0) YX8_firstChoice 0 0 34 [some (.ref 16), some (.ref 1), some (.int x2), some (.int x3), some (.int x4), some (.int c5)] [.int r8] SH M J _
        refine q_aload_n (pc := 34) dX8_firstChoice_34 rfl ?_
        refine q_getf (pc := 35) (f := 0) (v := .ref 17) dX8_firstChoice_35 sh_16 cl_8 inX8 rfl (by decide) lk_X8_9 rfl ?_
        refine q_iload (pc := 38) dX8_firstChoice_38 rfl ?_
        obtain ⟨v9, h10, h⟩ := Option.bind_eq_some_iff.mp h
        refine q_iald (pc := 40) dX8_firstChoice_40 sh_17 h10 ?_
        by_cases k11 : r8 = v9
        · rw [if_pos k11] at h
          refine q_icmp_ne_f (pc := 41) (tgt := 47) dX8_firstChoice_41 (by decide) k11 ?_
          refine q_iload (pc := 44) dX8_firstChoice_44 rfl ?_
          obtain rfl := Option.some.inj h
          exact q_iret (pc := 46) dX8_firstChoice_46 rfl rfl (hr (c5) rfl)
        · rw [if_neg k11] at h
          refine q_icmp_ne_t (pc := 41) (tgt := 47) dX8_firstChoice_41 (by decide) k11 ?_
          refine q_iincW (pc := 47) (w := nI 1) (ls' := [some (.ref 16), some (.ref 1), some (.int x2), some (.int x3), some (.int x4), some (.int (c5 + nI 1))]) dX8_firstChoice_47 rfl (by decide) (by decide) rfl rfl ?_
          refine q_goto (pc := 50) (tgt := 3) dX8_firstChoice_50 (by decide) ?_
          exact l_X8_firstChoice_L3 x2 x3 x4 M J n (c5 + nI 1) res h hk hr
      · rw [if_neg k5] at h
        refine q_icmp_ne_t (pc := 20) (tgt := 47) dX8_firstChoice_20 (by decide) k5 ?_
        refine q_iincW (pc := 47) (w := nI 1) (ls' := [some (.ref 16), some (.ref 1), some (.int x2), some (.int x3), some (.int x4), some (.int (c5 + nI 1))]) dX8_firstChoice_47 rfl (by decide) (by decide) rfl rfl ?_
        refine q_goto (pc := 50) (tgt := 3) dX8_firstChoice_50 (by decide) ?_
        exact l_X8_firstChoice_L3 x2 x3 x4 M J n (c5 + nI 1) res h hk hr
def f_X8_firstChoice (a2 : Int32) (a3 : Int32) (a4 : Int32) (M : qM) : Option Int32 :=
  (f_X8_firstChoice_L3 a2 a3 a4 M qF (nI 0)).bind fun e12 => Sum.elim some (fun e12 => some (nI 0)) e12
set_option maxRecDepth 20000 in
set_option maxHeartbeats 4000000 in
theorem a_X8_firstChoice {G : qG} {a2 : Int32} {a3 : Int32} {a4 : Int32} {M : qM} {J : qJ} {r : Int32} (h : f_X8_firstChoice a2 a3 a4 M = some (r)) : QM G 5 0 0 YX8_firstChoice [.ref 16, .ref 1, .int a2, .int a3, .int a4] SH M J (some (.int r), SH, M, J) := by
  refine ⟨Nat.le_of_ble_eq_true rfl, Or.inl rfl, ?_⟩
  show QW G (qrm 5 0 0) YX8_firstChoice 0 0 0 [some (.ref 16), some (.ref 1), some (.int a2), some (.int a3), some (.int a4), none] [] SH M J _
  unfold f_X8_firstChoice at h
  refine q_iconst (pc := 0) (v := nI 0) dX8_firstChoice_0 (by decide) ?_
  refine q_istore (pc := 1) (ls' := [some (.ref 16), some (.ref 1), some (.int a2), some (.int a3), some (.int a4), some (.int (nI 0))]) dX8_firstChoice_1 (by decide) rfl rfl ?_
  obtain ⟨e12, h13, h⟩ := Option.bind_eq_some_iff.mp h
  rcases e12 with r | e12_5
  · simp only [Sum.elim_inl] at h
    obtain rfl := Option.some.inj h
    exact l_X8_firstChoice_L3 a2 a3 a4 M J qF (nI 0) _ h13 (fun x hx => by cases hx) (fun r2 hx => by have hx := Sum.inl.inj hx; subst hx; rfl)
  · simp only [Sum.elim_inr] at h
    refine l_X8_firstChoice_L3 a2 a3 a4 M J qF (nI 0) _ h13 (fun x hx => ?_) (fun r hx => by cases hx)
    have hx := Sum.inr.inj hx
    subst hx
    show QW G (qrm 5 0 0) YX8_firstChoice 0 0 53 [none, none, none, none, none, none] [] SH M J _
    refine q_iconst (pc := 53) (v := nI 0) dX8_firstChoice_53 (by decide) ?_
    obtain rfl := Option.some.inj h
    exact q_iret (pc := 54) dX8_firstChoice_54 rfl rfl rfl
def f_X8_figures_L9 (x2 : Int32) (x3 : Int32) (M : qM) : Nat → Int32 → Int32 → Int32 → Option (Int32 × Int32 × Int32)
  | 0, _, _, _ => none
  | n + 1, c4, c5, c6 =>
  if (nI 5) ≤ c6 then some (c4, c5, c6)
    else if c5 = 0 then some (c4, c5, c6)
    else (f_X8_firstChoice x2 x3 c5 M).bind fun r5 => f_X8_figures_L9 x2 x3 M n (((c4 * (nI 10)) + r5) + (nI 1)) (c5 &&& (((nI 1) <<< (r5 &&& 31)) ^^^ (-1 : Int32))) (c6 + nI 1)
set_option maxRecDepth 20000 in
set_option maxHeartbeats 4000000 in
theorem l_X8_figures_L9 {G : qG} {ρ : qR} (x2 : Int32) (x3 : Int32) (M : qM) (J : qJ) : ∀ (n : Nat) (c4 : Int32) (c5 : Int32) (c6 : Int32) (res : Int32 × Int32 × Int32), f_X8_figures_L9 x2 x3 M n c4 c5 c6 = some res → (∀ x : Int32 × Int32 × Int32, res = x → QW G (qrm 6 0 0) YX8_figures 0 0 60 [none, none, none, none, some (.int x.1), none, none, none] [] SH M J ρ) → QW G (qrm 6 0 0) YX8_figures 0 0 9 [some (.ref 16), some (.ref 1), some (.int x2), some (.int x3), some (.int c4), some (.int c5), some (.int c6), none] [] SH M J ρ
  | 0, _, _, _, _, h, _ => by simp [f_X8_figures_L9] at h
  | n + 1, c4, c5, c6, res, h, hk => by
    rw [f_X8_figures_L9] at h
    refine q_iload (pc := 9) dX8_figures_9 rfl ?_
    refine q_iconst (pc := 11) (v := nI 5) dX8_figures_11 (by decide) ?_
    by_cases k1 : (nI 5) ≤ c6
    · rw [if_pos k1] at h
      refine q_icmp_ge_t (pc := 12) (tgt := 60) dX8_figures_12 (by decide) k1 ?_
      refine q_weak (ls' := [none, none, none, none, some (.int c4), none, none, none]) ⟨rfl, trivial⟩ ?_
      obtain rfl := Option.some.inj h
      exact hk (c4, c5, c6) rfl
    · rw [if_neg k1] at h
      refine q_icmp_ge_f (pc := 12) (tgt := 60) dX8_figures_12 (by decide) k1 ?_
      refine q_iload (pc := 15) dX8_figures_15 rfl ?_
      by_cases k2 : c5 = 0
      · rw [if_pos k2] at h
        refine q_if_eq_t (pc := 17) (tgt := 60) dX8_figures_17 (by decide) k2 ?_
        refine q_weak (ls' := [none, none, none, none, some (.int c4), none, none, none]) ⟨rfl, trivial⟩ ?_
        obtain rfl := Option.some.inj h
        exact hk (c4, c5, c6) rfl
      · rw [if_neg k2] at h
        refine q_if_eq_f (pc := 17) (tgt := 60) dX8_figures_17 (by decide) k2 ?_
        refine q_aload_n (pc := 20) dX8_figures_20 rfl ?_
        refine q_aload_n (pc := 21) dX8_figures_21 rfl ?_
        refine q_iload_n (pc := 22) dX8_figures_22 rfl ?_
        refine q_iload_n (pc := 23) dX8_figures_23 rfl ?_
        refine q_iload (pc := 24) dX8_figures_24 rfl ?_
        obtain ⟨r5, h4, h⟩ := Option.bind_eq_some_iff.mp h
        refine q_callv (pc := 26) (st := []) (a_X8_firstChoice h4) okX8_firstChoice rfl dX8_figures_26 lk_X8_45 sh_16 cl_8 rfl (by decide) (by decide) (Nat.le_of_ble_eq_true rfl) ⟨Nat.le_of_ble_eq_true rfl, Nat.le_of_ble_eq_true rfl⟩ rfl ?_
        show QW G (qrm 6 0 0) YX8_figures 0 0 29 [some (.ref 16), some (.ref 1), some (.int x2), some (.int x3), some (.int c4), some (.int c5), some (.int c6), none] [.int r5] SH M J _
        refine q_istore (pc := 29) (ls' := [some (.ref 16), some (.ref 1), some (.int x2), some (.int x3), some (.int c4), some (.int c5), some (.int c6), some (.int r5)]) dX8_figures_29 (by decide) rfl rfl ?_
        refine q_iload (pc := 31) dX8_figures_31 rfl ?_
        refine q_bipush (pc := 33) (v := nI 10) dX8_figures_33 (by decide) ?_
        refine q_imul (pc := 35) dX8_figures_35 ?_
        refine q_iload (pc := 36) dX8_figures_36 rfl ?_
        refine q_iadd (pc := 38) dX8_figures_38 ?_
        refine q_iconst (pc := 39) (v := nI 1) dX8_figures_39 (by decide) ?_
        refine q_iadd (pc := 40) dX8_figures_40 ?_
        refine q_istore (pc := 41) (ls' := [some (.ref 16), some (.ref 1), some (.int x2), some (.int x3), some (.int (((c4 * (nI 10)) + r5) + (nI 1))), some (.int c5), some (.int c6), some (.int r5)]) dX8_figures_41 (by decide) rfl rfl ?_
        refine q_iload (pc := 43) dX8_figures_43 rfl ?_
        refine q_iconst (pc := 45) (v := nI 1) dX8_figures_45 (by decide) ?_
        refine q_iload (pc := 46) dX8_figures_46 rfl ?_
        refine q_ishl (pc := 48) dX8_figures_48 ?_
        refine q_iconst (pc := 49) (v := (-1 : Int32)) dX8_figures_49 (by decide) ?_
        refine q_ixor (pc := 50) dX8_figures_50 ?_
        refine q_iand (pc := 51) dX8_figures_51 ?_
        refine q_istore (pc := 52) (ls' := [some (.ref 16), some (.ref 1), some (.int x2), some (.int x3), some (.int (((c4 * (nI 10)) + r5) + (nI 1))), some (.int (c5 &&& (((nI 1) <<< (r5 &&& 31)) ^^^ (-1 : Int32)))), some (.int c6), some (.int r5)]) dX8_figures_52 (by decide) rfl rfl ?_
        refine q_iincW (pc := 54) (w := nI 1) (ls' := [some (.ref 16), some (.ref 1), some (.int x2), some (.int x3), some (.int (((c4 * (nI 10)) + r5) + (nI 1))), some (.int (c5 &&& (((nI 1) <<< (r5 &&& 31)) ^^^ (-1 : Int32)))), some (.int (c6 + nI 1)), some (.int r5)]) dX8_figures_54 rfl (by decide) (by decide) rfl rfl ?_
        refine q_goto (pc := 57) (tgt := 9) dX8_figures_57 (by decide) ?_
        refine q_weak (ls' := [some (.ref 16), some (.ref 1), some (.int x2), some (.int x3), some (.int (((c4 * (nI 10)) + r5) + (nI 1))), some (.int (c5 &&& (((nI 1) <<< (r5 &&& 31)) ^^^ (-1 : Int32)))), some (.int (c6 + nI 1)), none]) ⟨rfl, ⟨rfl, ⟨rfl, ⟨rfl, ⟨rfl, ⟨rfl, ⟨rfl, trivial⟩⟩⟩⟩⟩⟩⟩ ?_
        exact l_X8_figures_L9 x2 x3 M J n (((c4 * (nI 10)) + r5) + (nI 1)) (c5 &&& (((nI 1) <<< (r5 &&& 31)) ^^^ (-1 : Int32))) (c6 + nI 1) res h hk
def f_X8_figures (a2 : Int32) (a3 : Int32) (M : qM) : Option Int32 :=
  (f_X8_figures_L9 a2 a3 M qF (nI 0) a3 (nI 0)).bind fun e6 => some (e6.1)
set_option maxRecDepth 20000 in
set_option maxHeartbeats 4000000 in
theorem a_X8_figures {G : qG} {a2 : Int32} {a3 : Int32} {M : qM} {J : qJ} {r : Int32} (h : f_X8_figures a2 a3 M = some (r)) : QM G 6 0 0 YX8_figures [.ref 16, .ref 1, .int a2, .int a3] SH M J (some (.int r), SH, M, J) := by
  refine ⟨Nat.le_of_ble_eq_true rfl, Or.inl rfl, ?_⟩
  show QW G (qrm 6 0 0) YX8_figures 0 0 0 [some (.ref 16), some (.ref 1), some (.int a2), some (.int a3), none, none, none, none] [] SH M J _
  unfold f_X8_figures at h
  refine q_iconst (pc := 0) (v := nI 0) dX8_figures_0 (by decide) ?_
  refine q_istore (pc := 1) (ls' := [some (.ref 16), some (.ref 1), some (.int a2), some (.int a3), some (.int (nI 0)), none, none, none]) dX8_figures_1 (by decide) rfl rfl ?_
  refine q_iload_n (pc := 3) dX8_figures_3 rfl ?_
  refine q_istore (pc := 4) (ls' := [some (.ref 16), some (.ref 1), some (.int a2), some (.int a3), some (.int (nI 0)), some (.int a3), none, none]) dX8_figures_4 (by decide) rfl rfl ?_
  refine q_iconst (pc := 6) (v := nI 0) dX8_figures_6 (by decide) ?_
  refine q_istore (pc := 7) (ls' := [some (.ref 16), some (.ref 1), some (.int a2), some (.int a3), some (.int (nI 0)), some (.int a3), some (.int (nI 0)), none]) dX8_figures_7 (by decide) rfl rfl ?_
  obtain ⟨⟨e6_4, e6_5, e6_6⟩, h7, h⟩ := Option.bind_eq_some_iff.mp h
  try dsimp only at h
  refine l_X8_figures_L9 a2 a3 M J qF (nI 0) a3 (nI 0) _ h7 (fun x hx => ?_)
  subst hx
  show QW G (qrm 6 0 0) YX8_figures 0 0 60 [none, none, none, none, some (.int e6_4), none, none, none] [] SH M J _
  refine q_iload (pc := 60) dX8_figures_60 rfl ?_
  obtain rfl := Option.some.inj h
  exact q_iret (pc := 62) dX8_figures_62 rfl rfl rfl
def f_X11_rounds (a1 : Int32) (a2 : Int32) (a3 : Int32) (M : qM) : Option (Int32 × qM) :=
  (f_X5_hasObjector a1 M).bind fun b3 => if b3 = true then (f_X5_couples M).bind fun r7 => (f_X11_isSetOf a2 r7 M).bind fun b10 => if b10 = true then (f_X11_isOutside a3 (nI 0) (nI 1) M).bind fun b14 => if b14 = true then some ((-1000000002 : Int32), M)
    else (f_X5_couplesThat (nI 0) M).bind fun r18 => if (a2 &&& (r18 ^^^ (-1 : Int32))) = 0 then (f_J6_bitCount a2 M).bind fun r22 => if r22 ≤ (nI 5) then (f_X8_weigh a1 a2 M).bind fun M26 => if a3 = 0 then (f_X8_howMany a2 M26).bind fun r30 => some (r30, M26)
    else (f_X8_figures a1 a2 M26).bind fun r33 => some (r33, M26)
    else some ((-1000000003 : Int32), M)
    else some ((-1000000003 : Int32), M)
    else some ((-1000000001 : Int32), M)
    else some ((-1000000001 : Int32), M)
set_option maxRecDepth 20000 in
set_option maxHeartbeats 4000000 in
theorem a_X11_rounds {G : qG} {a1 : Int32} {a2 : Int32} {a3 : Int32} {M : qM} {J : qJ} {r : Int32} {M' : qM} (h : f_X11_rounds a1 a2 a3 M = some (r, M')) : QM G 7 0 0 YX11_rounds [.ref 0, .int a1, .int a2, .int a3] SH M J (some (.int r), SH, M', J) := by
  refine ⟨Nat.le_of_ble_eq_true rfl, Or.inl rfl, ?_⟩
  show QW G (qrm 7 0 0) YX11_rounds 0 0 0 [some (.ref 0), some (.int a1), some (.int a2), some (.int a3)] [] SH M J _
  unfold f_X11_rounds at h
  refine q_aload_n (pc := 0) dX11_rounds_0 rfl ?_
  refine q_getf (pc := 1) (f := 0) (v := .ref 1) dX11_rounds_1 sh_0 cl_10 inX11 rfl (by decide) lk_X11_10 rfl ?_
  refine q_iload_n (pc := 4) dX11_rounds_4 rfl ?_
  obtain ⟨b3, h2, h⟩ := Option.bind_eq_some_iff.mp h
  refine q_callv (pc := 5) (st := []) (a_X5_hasObjector h2) okX5_hasObjector rfl dX11_rounds_5 lk_X11_186 sh_1 cl_5 rfl (by decide) (by decide) (Nat.le_of_ble_eq_true rfl) ⟨Nat.le_of_ble_eq_true rfl, Nat.le_of_ble_eq_true rfl⟩ rfl ?_
  show QW G (qrm 7 0 0) YX11_rounds 0 0 8 [some (.ref 0), some (.int a1), some (.int a2), some (.int a3)] [.int (qb b3)] SH M J _
  by_cases k4 : b3 = true
  · rw [if_pos k4] at h
    refine q_if_eq_f (pc := 8) (tgt := 25) dX11_rounds_8 (by decide) (qb_t k4) ?_
    refine q_iload_n (pc := 11) dX11_rounds_11 rfl ?_
    refine q_aload_n (pc := 12) dX11_rounds_12 rfl ?_
    refine q_getf (pc := 13) (f := 0) (v := .ref 1) dX11_rounds_13 sh_0 cl_10 inX11 rfl (by decide) lk_X11_10 rfl ?_
    obtain ⟨r7, h6, h⟩ := Option.bind_eq_some_iff.mp h
    refine q_callv (pc := 16) (st := [.int a2]) (a_X5_couples h6) okX5_couples rfl dX11_rounds_16 lk_X11_116 sh_1 cl_5 rfl (by decide) (by decide) (Nat.le_of_ble_eq_true rfl) ⟨Nat.le_of_ble_eq_true rfl, Nat.le_of_ble_eq_true rfl⟩ rfl ?_
    show QW G (qrm 7 0 0) YX11_rounds 0 0 19 [some (.ref 0), some (.int a1), some (.int a2), some (.int a3)] [.int r7, .int a2] SH M J _
    obtain ⟨b10, h9, h⟩ := Option.bind_eq_some_iff.mp h
    refine q_calls (pc := 19) (st := []) (a_X11_isSetOf h9) okX11_isSetOf rfl dX11_rounds_19 lk_X11_268 rfl (by decide) (by decide) (Nat.le_of_ble_eq_true rfl) ⟨Nat.le_of_ble_eq_true rfl, Nat.le_of_ble_eq_true rfl⟩ rfl ?_
    show QW G (qrm 7 0 0) YX11_rounds 0 0 22 [some (.ref 0), some (.int a1), some (.int a2), some (.int a3)] [.int (qb b10)] SH M J _
    by_cases k11 : b10 = true
    · rw [if_pos k11] at h
      refine q_if_ne_t (pc := 22) (tgt := 28) dX11_rounds_22 (by decide) (qb_t k11) ?_
      refine q_iload_n (pc := 28) dX11_rounds_28 rfl ?_
      refine q_iconst (pc := 29) (v := nI 0) dX11_rounds_29 (by decide) ?_
      refine q_iconst (pc := 30) (v := nI 1) dX11_rounds_30 (by decide) ?_
      obtain ⟨b14, h13, h⟩ := Option.bind_eq_some_iff.mp h
      refine q_calls (pc := 31) (st := []) (a_X11_isOutside h13) okX11_isOutside rfl dX11_rounds_31 lk_X11_79 rfl (by decide) (by decide) (Nat.le_of_ble_eq_true rfl) ⟨Nat.le_of_ble_eq_true rfl, Nat.le_of_ble_eq_true rfl⟩ rfl ?_
      show QW G (qrm 7 0 0) YX11_rounds 0 0 34 [some (.ref 0), some (.int a1), some (.int a2), some (.int a3)] [.int (qb b14)] SH M J _
      by_cases k15 : b14 = true
      · rw [if_pos k15] at h
        refine q_if_eq_f (pc := 34) (tgt := 40) dX11_rounds_34 (by decide) (qb_t k15) ?_
        refine q_ldc (pc := 37) (v := (-1000000002 : Int32)) dX11_rounds_37 lk_X11_83 ?_
        have h := Option.some.inj h
        obtain ⟨rfl, rfl⟩ := Prod.mk.inj h
        exact q_iret (pc := 39) dX11_rounds_39 rfl rfl rfl
      · rw [if_neg k15] at h
        refine q_if_eq_t (pc := 34) (tgt := 40) dX11_rounds_34 (by decide) (qb_f k15) ?_
        refine q_iload_n (pc := 40) dX11_rounds_40 rfl ?_
        refine q_aload_n (pc := 41) dX11_rounds_41 rfl ?_
        refine q_getf (pc := 42) (f := 0) (v := .ref 1) dX11_rounds_42 sh_0 cl_10 inX11 rfl (by decide) lk_X11_10 rfl ?_
        refine q_iconst (pc := 45) (v := nI 0) dX11_rounds_45 (by decide) ?_
        obtain ⟨r18, h17, h⟩ := Option.bind_eq_some_iff.mp h
        refine q_callv (pc := 46) (st := [.int a2]) (a_X5_couplesThat h17) okX5_couplesThat rfl dX11_rounds_46 lk_X11_135 sh_1 cl_5 rfl (by decide) (by decide) (Nat.le_of_ble_eq_true rfl) ⟨Nat.le_of_ble_eq_true rfl, Nat.le_of_ble_eq_true rfl⟩ rfl ?_
        show QW G (qrm 7 0 0) YX11_rounds 0 0 49 [some (.ref 0), some (.int a1), some (.int a2), some (.int a3)] [.int r18, .int a2] SH M J _
        refine q_iconst (pc := 49) (v := (-1 : Int32)) dX11_rounds_49 (by decide) ?_
        refine q_ixor (pc := 50) dX11_rounds_50 ?_
        refine q_iand (pc := 51) dX11_rounds_51 ?_
        by_cases k19 : (a2 &&& (r18 ^^^ (-1 : Int32))) = 0
        · rw [if_pos k19] at h
          refine q_if_ne_f (pc := 52) (tgt := 63) dX11_rounds_52 (by decide) k19 ?_
          refine q_iload_n (pc := 55) dX11_rounds_55 rfl ?_
          obtain ⟨r22, h21, h⟩ := Option.bind_eq_some_iff.mp h
          refine q_calls (pc := 56) (st := []) (a_J6_bitCount h21) okJ6_bitCount_0f7a4 rfl dX11_rounds_56 lk_X11_271 rfl (by decide) (by decide) (Nat.le_of_ble_eq_true rfl) ⟨Nat.le_of_ble_eq_true rfl, Nat.le_of_ble_eq_true rfl⟩ rfl ?_
          show QW G (qrm 7 0 0) YX11_rounds 0 0 59 [some (.ref 0), some (.int a1), some (.int a2), some (.int a3)] [.int r22] SH M J _
          refine q_iconst (pc := 59) (v := nI 5) dX11_rounds_59 (by decide) ?_
          by_cases k23 : r22 ≤ (nI 5)
          · rw [if_pos k23] at h
            refine q_icmp_le_t (pc := 60) (tgt := 66) dX11_rounds_60 (by decide) k23 ?_
            refine q_aload_n (pc := 66) dX11_rounds_66 rfl ?_
            refine q_getf (pc := 67) (f := 6) (v := .ref 16) dX11_rounds_67 sh_0 cl_10 inX11 rfl (by decide) lk_X11_54 rfl ?_
            refine q_aload_n (pc := 70) dX11_rounds_70 rfl ?_
            refine q_getf (pc := 71) (f := 0) (v := .ref 1) dX11_rounds_71 sh_0 cl_10 inX11 rfl (by decide) lk_X11_10 rfl ?_
            refine q_iload_n (pc := 74) dX11_rounds_74 rfl ?_
            refine q_iload_n (pc := 75) dX11_rounds_75 rfl ?_
            obtain ⟨M26, h25, h⟩ := Option.bind_eq_some_iff.mp h
            refine q_callv (pc := 76) (st := []) (a_X8_weigh h25) okX8_weigh rfl dX11_rounds_76 lk_X11_276 sh_16 cl_8 rfl (by decide) (by decide) (Nat.le_of_ble_eq_true rfl) ⟨Nat.le_of_ble_eq_true rfl, Nat.le_of_ble_eq_true rfl⟩ rfl ?_
            show QW G (qrm 7 0 0) YX11_rounds 0 0 79 [some (.ref 0), some (.int a1), some (.int a2), some (.int a3)] [] SH M26 J _
            refine q_iload_n (pc := 79) dX11_rounds_79 rfl ?_
            by_cases k27 : a3 = 0
            · rw [if_pos k27] at h
              refine q_if_ne_f (pc := 80) (tgt := 94) dX11_rounds_80 (by decide) k27 ?_
              refine q_aload_n (pc := 83) dX11_rounds_83 rfl ?_
              refine q_getf (pc := 84) (f := 6) (v := .ref 16) dX11_rounds_84 sh_0 cl_10 inX11 rfl (by decide) lk_X11_54 rfl ?_
              refine q_iload_n (pc := 87) dX11_rounds_87 rfl ?_
              obtain ⟨r30, h29, h⟩ := Option.bind_eq_some_iff.mp h
              refine q_callv (pc := 88) (st := []) (a_X8_howMany h29) okX8_howMany rfl dX11_rounds_88 lk_X11_279 sh_16 cl_8 rfl (by decide) (by decide) (Nat.le_of_ble_eq_true rfl) ⟨Nat.le_of_ble_eq_true rfl, Nat.le_of_ble_eq_true rfl⟩ rfl ?_
              show QW G (qrm 7 0 0) YX11_rounds 0 0 91 [some (.ref 0), some (.int a1), some (.int a2), some (.int a3)] [.int r30] SH M26 J _
              refine q_goto (pc := 91) (tgt := 107) dX11_rounds_91 (by decide) ?_
              have h := Option.some.inj h
              obtain ⟨rfl, rfl⟩ := Prod.mk.inj h
              exact q_iret (pc := 107) dX11_rounds_107 rfl rfl rfl
            · rw [if_neg k27] at h
              refine q_if_ne_t (pc := 80) (tgt := 94) dX11_rounds_80 (by decide) k27 ?_
              refine q_aload_n (pc := 94) dX11_rounds_94 rfl ?_
              refine q_getf (pc := 95) (f := 6) (v := .ref 16) dX11_rounds_95 sh_0 cl_10 inX11 rfl (by decide) lk_X11_54 rfl ?_
              refine q_aload_n (pc := 98) dX11_rounds_98 rfl ?_
              refine q_getf (pc := 99) (f := 0) (v := .ref 1) dX11_rounds_99 sh_0 cl_10 inX11 rfl (by decide) lk_X11_10 rfl ?_
              refine q_iload_n (pc := 102) dX11_rounds_102 rfl ?_
              refine q_iload_n (pc := 103) dX11_rounds_103 rfl ?_
              obtain ⟨r33, h32, h⟩ := Option.bind_eq_some_iff.mp h
              refine q_callv (pc := 104) (st := []) (a_X8_figures h32) okX8_figures rfl dX11_rounds_104 lk_X11_281 sh_16 cl_8 rfl (by decide) (by decide) (Nat.le_of_ble_eq_true rfl) ⟨Nat.le_of_ble_eq_true rfl, Nat.le_of_ble_eq_true rfl⟩ rfl ?_
              show QW G (qrm 7 0 0) YX11_rounds 0 0 107 [some (.ref 0), some (.int a1), some (.int a2), some (.int a3)] [.int r33] SH M26 J _
              have h := Option.some.inj h
              obtain ⟨rfl, rfl⟩ := Prod.mk.inj h
              exact q_iret (pc := 107) dX11_rounds_107 rfl rfl rfl
          · rw [if_neg k23] at h
            refine q_icmp_le_f (pc := 60) (tgt := 66) dX11_rounds_60 (by decide) k23 ?_
            refine q_ldc (pc := 63) (v := (-1000000003 : Int32)) dX11_rounds_63 lk_X11_215 ?_
            have h := Option.some.inj h
            obtain ⟨rfl, rfl⟩ := Prod.mk.inj h
            exact q_iret (pc := 65) dX11_rounds_65 rfl rfl rfl
        · rw [if_neg k19] at h
          refine q_if_ne_t (pc := 52) (tgt := 63) dX11_rounds_52 (by decide) k19 ?_
          refine q_ldc (pc := 63) (v := (-1000000003 : Int32)) dX11_rounds_63 lk_X11_215 ?_
          have h := Option.some.inj h
          obtain ⟨rfl, rfl⟩ := Prod.mk.inj h
          exact q_iret (pc := 65) dX11_rounds_65 rfl rfl rfl
    · rw [if_neg k11] at h
      refine q_if_ne_f (pc := 22) (tgt := 28) dX11_rounds_22 (by decide) (qb_f k11) ?_
      refine q_ldc (pc := 25) (v := (-1000000001 : Int32)) dX11_rounds_25 lk_X11_165 ?_
      have h := Option.some.inj h
      obtain ⟨rfl, rfl⟩ := Prod.mk.inj h
      exact q_iret (pc := 27) dX11_rounds_27 rfl rfl rfl
  · rw [if_neg k4] at h
    refine q_if_eq_t (pc := 8) (tgt := 25) dX11_rounds_8 (by decide) (qb_f k4) ?_
    refine q_ldc (pc := 25) (v := (-1000000001 : Int32)) dX11_rounds_25 lk_X11_165 ?_
    have h := Option.some.inj h
    obtain ⟨rfl, rfl⟩ := Prod.mk.inj h
    exact q_iret (pc := 27) dX11_rounds_27 rfl rfl rfl
def f_X11_holds (a1 : Int32) (a2 : Int32) (M : qM) : Option Int32 :=
  (f_X5_hasCouple a1 M).bind fun b3 => if b3 = true then (f_X5_objectors M).bind fun r7 => (f_X11_isSetOf a2 r7 M).bind fun b10 => if b10 = true then (f_X10_safeAnswer a1 a2 M).bind fun r14 => some (r14)
    else some ((-1000000001 : Int32))
    else some ((-1000000001 : Int32))
set_option maxRecDepth 20000 in
set_option maxHeartbeats 4000000 in
theorem a_X11_holds {G : qG} {a1 : Int32} {a2 : Int32} {M : qM} {J : qJ} {r : Int32} (h : f_X11_holds a1 a2 M = some (r)) : QM G 5 0 0 YX11_holds [.ref 0, .int a1, .int a2] SH M J (some (.int r), SH, M, J) := by
  refine ⟨Nat.le_of_ble_eq_true rfl, Or.inl rfl, ?_⟩
  show QW G (qrm 5 0 0) YX11_holds 0 0 0 [some (.ref 0), some (.int a1), some (.int a2)] [] SH M J _
  unfold f_X11_holds at h
  refine q_aload_n (pc := 0) dX11_holds_0 rfl ?_
  refine q_getf (pc := 1) (f := 0) (v := .ref 1) dX11_holds_1 sh_0 cl_10 inX11 rfl (by decide) lk_X11_10 rfl ?_
  refine q_iload_n (pc := 4) dX11_holds_4 rfl ?_
  obtain ⟨b3, h2, h⟩ := Option.bind_eq_some_iff.mp h
  refine q_callv (pc := 5) (st := []) (a_X5_hasCouple h2) okX5_hasCouple rfl dX11_holds_5 lk_X11_161 sh_1 cl_5 rfl (by decide) (by decide) (Nat.le_of_ble_eq_true rfl) ⟨Nat.le_of_ble_eq_true rfl, Nat.le_of_ble_eq_true rfl⟩ rfl ?_
  show QW G (qrm 5 0 0) YX11_holds 0 0 8 [some (.ref 0), some (.int a1), some (.int a2)] [.int (qb b3)] SH M J _
  by_cases k4 : b3 = true
  · rw [if_pos k4] at h
    refine q_if_eq_f (pc := 8) (tgt := 25) dX11_holds_8 (by decide) (qb_t k4) ?_
    refine q_iload_n (pc := 11) dX11_holds_11 rfl ?_
    refine q_aload_n (pc := 12) dX11_holds_12 rfl ?_
    refine q_getf (pc := 13) (f := 0) (v := .ref 1) dX11_holds_13 sh_0 cl_10 inX11 rfl (by decide) lk_X11_10 rfl ?_
    obtain ⟨r7, h6, h⟩ := Option.bind_eq_some_iff.mp h
    refine q_callv (pc := 16) (st := [.int a2]) (a_X5_objectors h6) okX5_objectors rfl dX11_holds_16 lk_X11_126 sh_1 cl_5 rfl (by decide) (by decide) (Nat.le_of_ble_eq_true rfl) ⟨Nat.le_of_ble_eq_true rfl, Nat.le_of_ble_eq_true rfl⟩ rfl ?_
    show QW G (qrm 5 0 0) YX11_holds 0 0 19 [some (.ref 0), some (.int a1), some (.int a2)] [.int r7, .int a2] SH M J _
    obtain ⟨b10, h9, h⟩ := Option.bind_eq_some_iff.mp h
    refine q_calls (pc := 19) (st := []) (a_X11_isSetOf h9) okX11_isSetOf rfl dX11_holds_19 lk_X11_268 rfl (by decide) (by decide) (Nat.le_of_ble_eq_true rfl) ⟨Nat.le_of_ble_eq_true rfl, Nat.le_of_ble_eq_true rfl⟩ rfl ?_
    show QW G (qrm 5 0 0) YX11_holds 0 0 22 [some (.ref 0), some (.int a1), some (.int a2)] [.int (qb b10)] SH M J _
    by_cases k11 : b10 = true
    · rw [if_pos k11] at h
      refine q_if_ne_t (pc := 22) (tgt := 28) dX11_holds_22 (by decide) (qb_t k11) ?_
      refine q_aload_n (pc := 28) dX11_holds_28 rfl ?_
      refine q_getf (pc := 29) (f := 0) (v := .ref 1) dX11_holds_29 sh_0 cl_10 inX11 rfl (by decide) lk_X11_10 rfl ?_
      refine q_iload_n (pc := 32) dX11_holds_32 rfl ?_
      refine q_iload_n (pc := 33) dX11_holds_33 rfl ?_
      obtain ⟨r14, h13, h⟩ := Option.bind_eq_some_iff.mp h
      refine q_calls (pc := 34) (st := []) (a_X10_safeAnswer h13) okX10_safeAnswer rfl dX11_holds_34 lk_X11_284 rfl (by decide) (by decide) (Nat.le_of_ble_eq_true rfl) ⟨Nat.le_of_ble_eq_true rfl, Nat.le_of_ble_eq_true rfl⟩ rfl ?_
      show QW G (qrm 5 0 0) YX11_holds 0 0 37 [some (.ref 0), some (.int a1), some (.int a2)] [.int r14] SH M J _
      obtain rfl := Option.some.inj h
      exact q_iret (pc := 37) dX11_holds_37 rfl rfl rfl
    · rw [if_neg k11] at h
      refine q_if_ne_f (pc := 22) (tgt := 28) dX11_holds_22 (by decide) (qb_f k11) ?_
      refine q_ldc (pc := 25) (v := (-1000000001 : Int32)) dX11_holds_25 lk_X11_165 ?_
      obtain rfl := Option.some.inj h
      exact q_iret (pc := 27) dX11_holds_27 rfl rfl rfl
  · rw [if_neg k4] at h
    refine q_if_eq_t (pc := 8) (tgt := 25) dX11_holds_8 (by decide) (qb_f k4) ?_
    refine q_ldc (pc := 25) (v := (-1000000001 : Int32)) dX11_holds_25 lk_X11_165 ?_
    obtain rfl := Option.some.inj h
    exact q_iret (pc := 27) dX11_holds_27 rfl rfl rfl
def f_X2_oddsOfDry_L7 (x0 : Int32) (x1 : Int32) (M : qM) : Nat → Int64 → Int32 → Option (Int64 × Int32)
  | 0, _, _ => none
  | n + 1, c2, c4 =>
  if x0 ≤ c4 then some (c2, c4)
    else (qldiv (c2 * x1.toInt64) (lN 100)).bind fun v2 => f_X2_oddsOfDry_L7 x0 x1 M n v2 (c4 + nI 1)
set_option maxRecDepth 20000 in
set_option maxHeartbeats 4000000 in
theorem l_X2_oddsOfDry_L7 {G : qG} {ρ : qR} (x0 : Int32) (x1 : Int32) (M : qM) (J : qJ) : ∀ (n : Nat) (c2 : Int64) (c4 : Int32) (res : Int64 × Int32), f_X2_oddsOfDry_L7 x0 x1 M n c2 c4 = some res → (∀ x : Int64 × Int32, res = x → QW G (qrm 0 0 0) YX2_oddsOfDry 0 0 28 [none, none, some (.long x.1), none, none] [] SH M J ρ) → QW G (qrm 0 0 0) YX2_oddsOfDry 0 0 7 [some (.int x0), some (.int x1), some (.long c2), none, some (.int c4)] [] SH M J ρ
  | 0, _, _, _, h, _ => by simp [f_X2_oddsOfDry_L7] at h
  | n + 1, c2, c4, res, h, hk => by
    rw [f_X2_oddsOfDry_L7] at h
    refine q_iload (pc := 7) dX2_oddsOfDry_7 rfl ?_
    refine q_iload_n (pc := 9) dX2_oddsOfDry_9 rfl ?_
    by_cases k1 : x0 ≤ c4
    · rw [if_pos k1] at h
      refine q_icmp_ge_t (pc := 10) (tgt := 28) dX2_oddsOfDry_10 (by decide) k1 ?_
      refine q_weak (ls' := [none, none, some (.long c2), none, none]) ⟨rfl, trivial⟩ ?_
      obtain rfl := Option.some.inj h
      exact hk (c2, c4) rfl
    · rw [if_neg k1] at h
      refine q_icmp_ge_f (pc := 10) (tgt := 28) dX2_oddsOfDry_10 (by decide) k1 ?_
      refine q_lload_n (pc := 13) dX2_oddsOfDry_13 rfl ?_
      refine q_iload_n (pc := 14) dX2_oddsOfDry_14 rfl ?_
      refine q_i2l (pc := 15) dX2_oddsOfDry_15 ?_
      refine q_lmul (pc := 16) dX2_oddsOfDry_16 ?_
      refine q_ldc2 (pc := 17) (v := lN 100) dX2_oddsOfDry_17 lk_X2_55 ?_
      obtain ⟨v2, h3, h⟩ := Option.bind_eq_some_iff.mp h
      refine q_ldiv (pc := 20) dX2_oddsOfDry_20 h3 ?_
      refine q_lstore_n (pc := 21) (ls' := [some (.int x0), some (.int x1), some (.long v2), none, some (.int c4)]) dX2_oddsOfDry_21 (by decide) rfl rfl ?_
      refine q_iincW (pc := 22) (w := nI 1) (ls' := [some (.int x0), some (.int x1), some (.long v2), none, some (.int (c4 + nI 1))]) dX2_oddsOfDry_22 rfl (by decide) (by decide) rfl rfl ?_
      refine q_goto (pc := 25) (tgt := 7) dX2_oddsOfDry_25 (by decide) ?_
      exact l_X2_oddsOfDry_L7 x0 x1 M J n v2 (c4 + nI 1) res h hk
def f_X2_oddsOfDry (a0 : Int32) (a1 : Int32) (M : qM) : Option Int32 :=
  (f_X2_oddsOfDry_L7 a0 a1 M qF (lN 1000000000) (nI 0)).bind fun e4 => some (e4.1.toInt32)
set_option maxRecDepth 20000 in
set_option maxHeartbeats 4000000 in
theorem a_X2_oddsOfDry {G : qG} {a0 : Int32} {a1 : Int32} {M : qM} {J : qJ} {r : Int32} (h : f_X2_oddsOfDry a0 a1 M = some (r)) : QM G 0 0 0 YX2_oddsOfDry [.int a0, .int a1] SH M J (some (.int r), SH, M, J) := by
  refine ⟨Nat.le_of_ble_eq_true rfl, Or.inl rfl, ?_⟩
  show QW G (qrm 0 0 0) YX2_oddsOfDry 0 0 0 [some (.int a0), some (.int a1), none, none, none] [] SH M J _
  unfold f_X2_oddsOfDry at h
  refine q_ldc2 (pc := 0) (v := lN 1000000000) dX2_oddsOfDry_0 lk_X2_53 ?_
  refine q_lstore_n (pc := 3) (ls' := [some (.int a0), some (.int a1), some (.long (lN 1000000000)), none, none]) dX2_oddsOfDry_3 (by decide) rfl rfl ?_
  refine q_iconst (pc := 4) (v := nI 0) dX2_oddsOfDry_4 (by decide) ?_
  refine q_istore (pc := 5) (ls' := [some (.int a0), some (.int a1), some (.long (lN 1000000000)), none, some (.int (nI 0))]) dX2_oddsOfDry_5 (by decide) rfl rfl ?_
  obtain ⟨⟨e4_2, e4_4⟩, h5, h⟩ := Option.bind_eq_some_iff.mp h
  try dsimp only at h
  refine l_X2_oddsOfDry_L7 a0 a1 M J qF (lN 1000000000) (nI 0) _ h5 (fun x hx => ?_)
  subst hx
  show QW G (qrm 0 0 0) YX2_oddsOfDry 0 0 28 [none, none, some (.long e4_2), none, none] [] SH M J _
  refine q_lload_n (pc := 28) dX2_oddsOfDry_28 rfl ?_
  refine q_l2i (pc := 29) dX2_oddsOfDry_29 ?_
  obtain rfl := Option.some.inj h
  exact q_iret (pc := 30) dX2_oddsOfDry_30 rfl rfl rfl
def f_X11_dry (a1 : Int32) (a2 : Int32) (M : qM) : Option Int32 :=
  (f_X11_isOutside a1 (nI 0) (nI 60) M).bind fun b3 => if b3 = true then some ((-1000000002 : Int32))
    else (f_X11_isOutside a2 (nI 0) (nI 100) M).bind fun b7 => if b7 = true then some ((-1000000002 : Int32))
    else (f_X2_oddsOfDry a1 a2 M).bind fun r11 => some (r11)
set_option maxRecDepth 20000 in
set_option maxHeartbeats 4000000 in
theorem a_X11_dry {G : qG} {a1 : Int32} {a2 : Int32} {M : qM} {J : qJ} {r : Int32} (h : f_X11_dry a1 a2 M = some (r)) : QM G 1 0 0 YX11_dry [.ref 0, .int a1, .int a2] SH M J (some (.int r), SH, M, J) := by
  refine ⟨Nat.le_of_ble_eq_true rfl, Or.inl rfl, ?_⟩
  show QW G (qrm 1 0 0) YX11_dry 0 0 0 [some (.ref 0), some (.int a1), some (.int a2)] [] SH M J _
  unfold f_X11_dry at h
  refine q_iload_n (pc := 0) dX11_dry_0 rfl ?_
  refine q_iconst (pc := 1) (v := nI 0) dX11_dry_1 (by decide) ?_
  refine q_bipush (pc := 2) (v := nI 60) dX11_dry_2 (by decide) ?_
  obtain ⟨b3, h2, h⟩ := Option.bind_eq_some_iff.mp h
  refine q_calls (pc := 4) (st := []) (a_X11_isOutside h2) okX11_isOutside rfl dX11_dry_4 lk_X11_79 rfl (by decide) (by decide) (Nat.le_of_ble_eq_true rfl) ⟨Nat.le_of_ble_eq_true rfl, Nat.le_of_ble_eq_true rfl⟩ rfl ?_
  show QW G (qrm 1 0 0) YX11_dry 0 0 7 [some (.ref 0), some (.int a1), some (.int a2)] [.int (qb b3)] SH M J _
  by_cases k4 : b3 = true
  · rw [if_pos k4] at h
    refine q_if_ne_t (pc := 7) (tgt := 20) dX11_dry_7 (by decide) (qb_t k4) ?_
    refine q_ldc (pc := 20) (v := (-1000000002 : Int32)) dX11_dry_20 lk_X11_83 ?_
    obtain rfl := Option.some.inj h
    exact q_iret (pc := 22) dX11_dry_22 rfl rfl rfl
  · rw [if_neg k4] at h
    refine q_if_ne_f (pc := 7) (tgt := 20) dX11_dry_7 (by decide) (qb_f k4) ?_
    refine q_iload_n (pc := 10) dX11_dry_10 rfl ?_
    refine q_iconst (pc := 11) (v := nI 0) dX11_dry_11 (by decide) ?_
    refine q_bipush (pc := 12) (v := nI 100) dX11_dry_12 (by decide) ?_
    obtain ⟨b7, h6, h⟩ := Option.bind_eq_some_iff.mp h
    refine q_calls (pc := 14) (st := []) (a_X11_isOutside h6) okX11_isOutside rfl dX11_dry_14 lk_X11_79 rfl (by decide) (by decide) (Nat.le_of_ble_eq_true rfl) ⟨Nat.le_of_ble_eq_true rfl, Nat.le_of_ble_eq_true rfl⟩ rfl ?_
    show QW G (qrm 1 0 0) YX11_dry 0 0 17 [some (.ref 0), some (.int a1), some (.int a2)] [.int (qb b7)] SH M J _
    by_cases k8 : b7 = true
    · rw [if_pos k8] at h
      refine q_if_eq_f (pc := 17) (tgt := 23) dX11_dry_17 (by decide) (qb_t k8) ?_
      refine q_ldc (pc := 20) (v := (-1000000002 : Int32)) dX11_dry_20 lk_X11_83 ?_
      obtain rfl := Option.some.inj h
      exact q_iret (pc := 22) dX11_dry_22 rfl rfl rfl
    · rw [if_neg k8] at h
      refine q_if_eq_t (pc := 17) (tgt := 23) dX11_dry_17 (by decide) (qb_f k8) ?_
      refine q_iload_n (pc := 23) dX11_dry_23 rfl ?_
      refine q_iload_n (pc := 24) dX11_dry_24 rfl ?_
      obtain ⟨r11, h10, h⟩ := Option.bind_eq_some_iff.mp h
      refine q_calls (pc := 25) (st := []) (a_X2_oddsOfDry h10) okX2_oddsOfDry rfl dX11_dry_25 lk_X11_287 rfl (by decide) (by decide) (Nat.le_of_ble_eq_true rfl) ⟨Nat.le_of_ble_eq_true rfl, Nat.le_of_ble_eq_true rfl⟩ rfl ?_
      show QW G (qrm 1 0 0) YX11_dry 0 0 28 [some (.ref 0), some (.int a1), some (.int a2)] [.int r11] SH M J _
      obtain rfl := Option.some.inj h
      exact q_iret (pc := 28) dX11_dry_28 rfl rfl rfl
def f_X9_isFull  (M : qM) : Option Bool :=
  if (M 20 0) < (nI 6) then some (false)
    else some (true)
set_option maxRecDepth 20000 in
set_option maxHeartbeats 4000000 in
theorem a_X9_isFull {G : qG}  {M : qM} {J : qJ} {r : Bool} (h : f_X9_isFull  M = some (r)) : QM G 0 0 0 YX9_isFull [.ref 20] SH M J (some (.int (qb r)), SH, M, J) := by
  refine ⟨Nat.le_of_ble_eq_true rfl, Or.inr ⟨rfl, _, rfl⟩, ?_⟩
  show QW G (qrm 0 0 0) YX9_isFull 0 0 0 [some (.ref 20)] [] SH M J _
  unfold f_X9_isFull at h
  refine q_aload_n (pc := 0) dX9_isFull_0 rfl ?_
  refine q_getf (pc := 1) (f := 0) (v := .int (M 20 0)) dX9_isFull_1 sh_20 cl_9 inX9 rfl (by decide) lk_X9_9 rfl ?_
  refine q_bipush (pc := 4) (v := nI 6) dX9_isFull_4 (by decide) ?_
  by_cases k1 : (M 20 0) < (nI 6)
  · rw [if_pos k1] at h
    refine q_icmp_lt_t (pc := 6) (tgt := 13) dX9_isFull_6 (by decide) k1 ?_
    refine q_iconst (pc := 13) (v := nI 0) dX9_isFull_13 (by decide) ?_
    obtain rfl := Option.some.inj h
    exact q_iret (pc := 14) dX9_isFull_14 rfl rfl rfl
  · rw [if_neg k1] at h
    refine q_icmp_lt_f (pc := 6) (tgt := 13) dX9_isFull_6 (by decide) k1 ?_
    refine q_iconst (pc := 9) (v := nI 1) dX9_isFull_9 (by decide) ?_
    refine q_goto (pc := 10) (tgt := 14) dX9_isFull_10 (by decide) ?_
    obtain rfl := Option.some.inj h
    exact q_iret (pc := 14) dX9_isFull_14 rfl rfl rfl
def f_X9_add (a1 : Int32) (a2 : Int32) (a3 : Int32) (M : qM) : Option (Int32 × qM) :=
  (qwr M 21 18 ((M 20 0) * (nI 3)) a1).bind fun M1 => (qwr M1 21 18 (((M1 20 0) * (nI 3)) + (nI 1)) a2).bind fun M3 => (qwr M3 21 18 (((M3 20 0) * (nI 3)) + (nI 2)) a3).bind fun M5 => (qpu M5 20 0 ((M5 20 0) + (nI 1))).bind fun M7 => some (M7 20 0, M7)
set_option maxRecDepth 20000 in
set_option maxHeartbeats 4000000 in
theorem a_X9_add {G : qG} {a1 : Int32} {a2 : Int32} {a3 : Int32} {M : qM} {J : qJ} {r : Int32} {M' : qM} (h : f_X9_add a1 a2 a3 M = some (r, M')) : QM G 0 0 0 YX9_add [.ref 20, .int a1, .int a2, .int a3] SH M J (some (.int r), SH, M', J) := by
  refine ⟨Nat.le_of_ble_eq_true rfl, Or.inl rfl, ?_⟩
  show QW G (qrm 0 0 0) YX9_add 0 0 0 [some (.ref 20), some (.int a1), some (.int a2), some (.int a3)] [] SH M J _
  unfold f_X9_add at h
  refine q_aload_n (pc := 0) dX9_add_0 rfl ?_
  refine q_getf (pc := 1) (f := 1) (v := .ref 21) dX9_add_1 sh_20 cl_9 inX9 rfl (by decide) lk_X9_15 rfl ?_
  refine q_aload_n (pc := 4) dX9_add_4 rfl ?_
  refine q_getf (pc := 5) (f := 0) (v := .int (M 20 0)) dX9_add_5 sh_20 cl_9 inX9 rfl (by decide) lk_X9_9 rfl ?_
  refine q_iconst (pc := 8) (v := nI 3) dX9_add_8 (by decide) ?_
  refine q_imul (pc := 9) dX9_add_9 ?_
  refine q_iload_n (pc := 10) dX9_add_10 rfl ?_
  obtain ⟨M1, h2, h⟩ := Option.bind_eq_some_iff.mp h
  refine q_iast (pc := 11) dX9_add_11 sh_21 h2 ?_
  refine q_aload_n (pc := 12) dX9_add_12 rfl ?_
  refine q_getf (pc := 13) (f := 1) (v := .ref 21) dX9_add_13 sh_20 cl_9 inX9 rfl (by decide) lk_X9_15 rfl ?_
  refine q_aload_n (pc := 16) dX9_add_16 rfl ?_
  refine q_getf (pc := 17) (f := 0) (v := .int (M1 20 0)) dX9_add_17 sh_20 cl_9 inX9 rfl (by decide) lk_X9_9 rfl ?_
  refine q_iconst (pc := 20) (v := nI 3) dX9_add_20 (by decide) ?_
  refine q_imul (pc := 21) dX9_add_21 ?_
  refine q_iconst (pc := 22) (v := nI 1) dX9_add_22 (by decide) ?_
  refine q_iadd (pc := 23) dX9_add_23 ?_
  refine q_iload_n (pc := 24) dX9_add_24 rfl ?_
  obtain ⟨M3, h4, h⟩ := Option.bind_eq_some_iff.mp h
  refine q_iast (pc := 25) dX9_add_25 sh_21 h4 ?_
  refine q_aload_n (pc := 26) dX9_add_26 rfl ?_
  refine q_getf (pc := 27) (f := 1) (v := .ref 21) dX9_add_27 sh_20 cl_9 inX9 rfl (by decide) lk_X9_15 rfl ?_
  refine q_aload_n (pc := 30) dX9_add_30 rfl ?_
  refine q_getf (pc := 31) (f := 0) (v := .int (M3 20 0)) dX9_add_31 sh_20 cl_9 inX9 rfl (by decide) lk_X9_9 rfl ?_
  refine q_iconst (pc := 34) (v := nI 3) dX9_add_34 (by decide) ?_
  refine q_imul (pc := 35) dX9_add_35 ?_
  refine q_iconst (pc := 36) (v := nI 2) dX9_add_36 (by decide) ?_
  refine q_iadd (pc := 37) dX9_add_37 ?_
  refine q_iload_n (pc := 38) dX9_add_38 rfl ?_
  obtain ⟨M5, h6, h⟩ := Option.bind_eq_some_iff.mp h
  refine q_iast (pc := 39) dX9_add_39 sh_21 h6 ?_
  refine q_aload_n (pc := 40) dX9_add_40 rfl ?_
  refine q_dup (pc := 41) dX9_add_41 rfl ?_
  refine q_getf (pc := 42) (f := 0) (v := .int (M5 20 0)) dX9_add_42 sh_20 cl_9 inX9 rfl (by decide) lk_X9_9 rfl ?_
  refine q_iconst (pc := 45) (v := nI 1) dX9_add_45 (by decide) ?_
  refine q_iadd (pc := 46) dX9_add_46 ?_
  obtain ⟨M7, h8, h⟩ := Option.bind_eq_some_iff.mp h
  refine q_putI (pc := 47) (f := 0) tyX9 dX9_add_47 sh_20 cl_9 inX9 tyX9_ok nmX9 rfl (by decide) lk_X9_9 rfl rfl rfl h8 ?_
  refine q_aload_n (pc := 50) dX9_add_50 rfl ?_
  refine q_getf (pc := 51) (f := 0) (v := .int (M7 20 0)) dX9_add_51 sh_20 cl_9 inX9 rfl (by decide) lk_X9_9 rfl ?_
  have h := Option.some.inj h
  obtain ⟨rfl, rfl⟩ := Prod.mk.inj h
  exact q_iret (pc := 54) dX9_add_54 rfl rfl rfl
def f_X11_say (a1 : Int32) (a2 : Int32) (a3 : Int32) (M : qM) : Option (Int32 × qM) :=
  (f_X11_isOutside a1 (nI 0) (nI 2) M).bind fun b3 => if b3 = true then some ((-1000000002 : Int32), M)
    else (f_X11_isOutside a2 (nI 0) (nI 40) M).bind fun b7 => if b7 = true then some ((-1000000002 : Int32), M)
    else (f_X11_isOutside a3 (nI 0) (nI 99) M).bind fun b11 => if b11 = true then some ((-1000000002 : Int32), M)
    else (f_X9_isFull M).bind fun b15 => if b15 = true then some ((-1000000004 : Int32), M)
    else (f_X9_add a1 a2 a3 M).bind fun p17 => some (p17.1, p17.2)
set_option maxRecDepth 20000 in
set_option maxHeartbeats 4000000 in
theorem a_X11_say {G : qG} {a1 : Int32} {a2 : Int32} {a3 : Int32} {M : qM} {J : qJ} {r : Int32} {M' : qM} (h : f_X11_say a1 a2 a3 M = some (r, M')) : QM G 1 0 0 YX11_say [.ref 0, .int a1, .int a2, .int a3] SH M J (some (.int r), SH, M', J) := by
  refine ⟨Nat.le_of_ble_eq_true rfl, Or.inl rfl, ?_⟩
  show QW G (qrm 1 0 0) YX11_say 0 0 0 [some (.ref 0), some (.int a1), some (.int a2), some (.int a3)] [] SH M J _
  unfold f_X11_say at h
  refine q_iload_n (pc := 0) dX11_say_0 rfl ?_
  refine q_iconst (pc := 1) (v := nI 0) dX11_say_1 (by decide) ?_
  refine q_iconst (pc := 2) (v := nI 2) dX11_say_2 (by decide) ?_
  obtain ⟨b3, h2, h⟩ := Option.bind_eq_some_iff.mp h
  refine q_calls (pc := 3) (st := []) (a_X11_isOutside h2) okX11_isOutside rfl dX11_say_3 lk_X11_79 rfl (by decide) (by decide) (Nat.le_of_ble_eq_true rfl) ⟨Nat.le_of_ble_eq_true rfl, Nat.le_of_ble_eq_true rfl⟩ rfl ?_
  show QW G (qrm 1 0 0) YX11_say 0 0 6 [some (.ref 0), some (.int a1), some (.int a2), some (.int a3)] [.int (qb b3)] SH M J _
  by_cases k4 : b3 = true
  · rw [if_pos k4] at h
    refine q_if_ne_t (pc := 6) (tgt := 29) dX11_say_6 (by decide) (qb_t k4) ?_
    refine q_ldc (pc := 29) (v := (-1000000002 : Int32)) dX11_say_29 lk_X11_83 ?_
    have h := Option.some.inj h
    obtain ⟨rfl, rfl⟩ := Prod.mk.inj h
    exact q_iret (pc := 31) dX11_say_31 rfl rfl rfl
  · rw [if_neg k4] at h
    refine q_if_ne_f (pc := 6) (tgt := 29) dX11_say_6 (by decide) (qb_f k4) ?_
    refine q_iload_n (pc := 9) dX11_say_9 rfl ?_
    refine q_iconst (pc := 10) (v := nI 0) dX11_say_10 (by decide) ?_
    refine q_bipush (pc := 11) (v := nI 40) dX11_say_11 (by decide) ?_
    obtain ⟨b7, h6, h⟩ := Option.bind_eq_some_iff.mp h
    refine q_calls (pc := 13) (st := []) (a_X11_isOutside h6) okX11_isOutside rfl dX11_say_13 lk_X11_79 rfl (by decide) (by decide) (Nat.le_of_ble_eq_true rfl) ⟨Nat.le_of_ble_eq_true rfl, Nat.le_of_ble_eq_true rfl⟩ rfl ?_
    show QW G (qrm 1 0 0) YX11_say 0 0 16 [some (.ref 0), some (.int a1), some (.int a2), some (.int a3)] [.int (qb b7)] SH M J _
    by_cases k8 : b7 = true
    · rw [if_pos k8] at h
      refine q_if_ne_t (pc := 16) (tgt := 29) dX11_say_16 (by decide) (qb_t k8) ?_
      refine q_ldc (pc := 29) (v := (-1000000002 : Int32)) dX11_say_29 lk_X11_83 ?_
      have h := Option.some.inj h
      obtain ⟨rfl, rfl⟩ := Prod.mk.inj h
      exact q_iret (pc := 31) dX11_say_31 rfl rfl rfl
    · rw [if_neg k8] at h
      refine q_if_ne_f (pc := 16) (tgt := 29) dX11_say_16 (by decide) (qb_f k8) ?_
      refine q_iload_n (pc := 19) dX11_say_19 rfl ?_
      refine q_iconst (pc := 20) (v := nI 0) dX11_say_20 (by decide) ?_
      refine q_bipush (pc := 21) (v := nI 99) dX11_say_21 (by decide) ?_
      obtain ⟨b11, h10, h⟩ := Option.bind_eq_some_iff.mp h
      refine q_calls (pc := 23) (st := []) (a_X11_isOutside h10) okX11_isOutside rfl dX11_say_23 lk_X11_79 rfl (by decide) (by decide) (Nat.le_of_ble_eq_true rfl) ⟨Nat.le_of_ble_eq_true rfl, Nat.le_of_ble_eq_true rfl⟩ rfl ?_
      show QW G (qrm 1 0 0) YX11_say 0 0 26 [some (.ref 0), some (.int a1), some (.int a2), some (.int a3)] [.int (qb b11)] SH M J _
      by_cases k12 : b11 = true
      · rw [if_pos k12] at h
        refine q_if_eq_f (pc := 26) (tgt := 32) dX11_say_26 (by decide) (qb_t k12) ?_
        refine q_ldc (pc := 29) (v := (-1000000002 : Int32)) dX11_say_29 lk_X11_83 ?_
        have h := Option.some.inj h
        obtain ⟨rfl, rfl⟩ := Prod.mk.inj h
        exact q_iret (pc := 31) dX11_say_31 rfl rfl rfl
      · rw [if_neg k12] at h
        refine q_if_eq_t (pc := 26) (tgt := 32) dX11_say_26 (by decide) (qb_f k12) ?_
        refine q_aload_n (pc := 32) dX11_say_32 rfl ?_
        refine q_getf (pc := 33) (f := 8) (v := .ref 20) dX11_say_33 sh_0 cl_10 inX11 rfl (by decide) lk_X11_68 rfl ?_
        obtain ⟨b15, h14, h⟩ := Option.bind_eq_some_iff.mp h
        refine q_callv (pc := 36) (st := []) (a_X9_isFull h14) okX9_isFull rfl dX11_say_36 lk_X11_290 sh_20 cl_9 rfl (by decide) (by decide) (Nat.le_of_ble_eq_true rfl) ⟨Nat.le_of_ble_eq_true rfl, Nat.le_of_ble_eq_true rfl⟩ rfl ?_
        show QW G (qrm 1 0 0) YX11_say 0 0 39 [some (.ref 0), some (.int a1), some (.int a2), some (.int a3)] [.int (qb b15)] SH M J _
        by_cases k16 : b15 = true
        · rw [if_pos k16] at h
          refine q_if_eq_f (pc := 39) (tgt := 47) dX11_say_39 (by decide) (qb_t k16) ?_
          refine q_ldc (pc := 42) (v := (-1000000004 : Int32)) dX11_say_42 lk_X11_88 ?_
          refine q_goto (pc := 44) (tgt := 57) dX11_say_44 (by decide) ?_
          have h := Option.some.inj h
          obtain ⟨rfl, rfl⟩ := Prod.mk.inj h
          exact q_iret (pc := 57) dX11_say_57 rfl rfl rfl
        · rw [if_neg k16] at h
          refine q_if_eq_t (pc := 39) (tgt := 47) dX11_say_39 (by decide) (qb_f k16) ?_
          refine q_aload_n (pc := 47) dX11_say_47 rfl ?_
          refine q_getf (pc := 48) (f := 8) (v := .ref 20) dX11_say_48 sh_0 cl_10 inX11 rfl (by decide) lk_X11_68 rfl ?_
          refine q_iload_n (pc := 51) dX11_say_51 rfl ?_
          refine q_iload_n (pc := 52) dX11_say_52 rfl ?_
          refine q_iload_n (pc := 53) dX11_say_53 rfl ?_
          obtain ⟨⟨r19, M20⟩, h18, h⟩ := Option.bind_eq_some_iff.mp h
          try dsimp only at h
          refine q_callv (pc := 54) (st := []) (a_X9_add h18) okX9_add rfl dX11_say_54 lk_X11_291 sh_20 cl_9 rfl (by decide) (by decide) (Nat.le_of_ble_eq_true rfl) ⟨Nat.le_of_ble_eq_true rfl, Nat.le_of_ble_eq_true rfl⟩ rfl ?_
          show QW G (qrm 1 0 0) YX11_say 0 0 57 [some (.ref 0), some (.int a1), some (.int a2), some (.int a3)] [.int r19] SH M20 J _
          have h := Option.some.inj h
          obtain ⟨rfl, rfl⟩ := Prod.mk.inj h
          exact q_iret (pc := 57) dX11_say_57 rfl rfl rfl
def f_X9_fits_L2 (x1 : Int32) (M : qM) : Nat → Int32 → Option ((Bool) ⊕ (Int32))
  | 0, _ => none
  | n + 1, c2 =>
  if ((M 20 0) * (nI 3)) ≤ c2 then some (.inr (c2))
    else (qrd M 21 18 c2).bind fun v2 => (qrd M 21 18 (c2 + (nI 1))).bind fun v4 => (f_X11_strengthBy v2 v4 x1 M).bind fun r8 => (qrd M 21 18 (c2 + (nI 2))).bind fun v9 => if r8 = v9 then f_X9_fits_L2 x1 M n (c2 + nI 3)
    else some (.inl (false))
set_option maxRecDepth 20000 in
set_option maxHeartbeats 4000000 in
theorem l_X9_fits_L2 {G : qG} {ρ : qR} (x1 : Int32) (M : qM) (J : qJ) : ∀ (n : Nat) (c2 : Int32) (res : (Bool) ⊕ (Int32)), f_X9_fits_L2 x1 M n c2 = some res → (∀ x : Int32, res = .inr x → QW G (qrm 1 0 0) YX9_fits 0 0 49 [none, none, none] [] SH M J ρ) → (∀ r : Bool, res = .inl r → (some (.int (qb r)), SH, M, J) = ρ) → QW G (qrm 1 0 0) YX9_fits 0 0 2 [some (.ref 20), some (.int x1), some (.int c2)] [] SH M J ρ
  | 0, _, _, h, _, _ => by simp [f_X9_fits_L2] at h
  | n + 1, c2, res, h, hk, hr => by
    rw [f_X9_fits_L2] at h
    refine q_iload_n (pc := 2) dX9_fits_2 rfl ?_
    refine q_aload_n (pc := 3) dX9_fits_3 rfl ?_
    refine q_getf (pc := 4) (f := 0) (v := .int (M 20 0)) dX9_fits_4 sh_20 cl_9 inX9 rfl (by decide) lk_X9_9 rfl ?_
    refine q_iconst (pc := 7) (v := nI 3) dX9_fits_7 (by decide) ?_
    refine q_imul (pc := 8) dX9_fits_8 ?_
    by_cases k1 : ((M 20 0) * (nI 3)) ≤ c2
    · rw [if_pos k1] at h
      refine q_icmp_ge_t (pc := 9) (tgt := 49) dX9_fits_9 (by decide) k1 ?_
      refine q_weak (ls' := [none, none, none]) trivial ?_
      obtain rfl := Option.some.inj h
      exact hk (c2) rfl
    · rw [if_neg k1] at h
      refine q_icmp_ge_f (pc := 9) (tgt := 49) dX9_fits_9 (by decide) k1 ?_
      refine q_aload_n (pc := 12) dX9_fits_12 rfl ?_
      refine q_getf (pc := 13) (f := 1) (v := .ref 21) dX9_fits_13 sh_20 cl_9 inX9 rfl (by decide) lk_X9_15 rfl ?_
      refine q_iload_n (pc := 16) dX9_fits_16 rfl ?_
      obtain ⟨v2, h3, h⟩ := Option.bind_eq_some_iff.mp h
      refine q_iald (pc := 17) dX9_fits_17 sh_21 h3 ?_
      refine q_aload_n (pc := 18) dX9_fits_18 rfl ?_
      refine q_getf (pc := 19) (f := 1) (v := .ref 21) dX9_fits_19 sh_20 cl_9 inX9 rfl (by decide) lk_X9_15 rfl ?_
      refine q_iload_n (pc := 22) dX9_fits_22 rfl ?_
      refine q_iconst (pc := 23) (v := nI 1) dX9_fits_23 (by decide) ?_
      refine q_iadd (pc := 24) dX9_fits_24 ?_
      obtain ⟨v4, h5, h⟩ := Option.bind_eq_some_iff.mp h
      refine q_iald (pc := 25) dX9_fits_25 sh_21 h5 ?_
      refine q_iload_n (pc := 26) dX9_fits_26 rfl ?_
      obtain ⟨r8, h7, h⟩ := Option.bind_eq_some_iff.mp h
      refine q_callsn (pc := 27) (st := []) (a_X11_strengthBy h7) okX11_strengthBy rfl dX9_fits_27 lkn_X9_19 rfl (by decide) (by decide) (Nat.le_of_ble_eq_true rfl) ⟨Nat.le_of_ble_eq_true rfl, Nat.le_of_ble_eq_true rfl⟩ rfl ?_
      show QW G (qrm 1 0 0) YX9_fits 0 0 30 [some (.ref 20), some (.int x1), some (.int c2)] [.int r8] SH M J _
      refine q_aload_n (pc := 30) dX9_fits_30 rfl ?_
      refine q_getf (pc := 31) (f := 1) (v := .ref 21) dX9_fits_31 sh_20 cl_9 inX9 rfl (by decide) lk_X9_15 rfl ?_
      refine q_iload_n (pc := 34) dX9_fits_34 rfl ?_
      refine q_iconst (pc := 35) (v := nI 2) dX9_fits_35 (by decide) ?_
      refine q_iadd (pc := 36) dX9_fits_36 ?_
      obtain ⟨v9, h10, h⟩ := Option.bind_eq_some_iff.mp h
      refine q_iald (pc := 37) dX9_fits_37 sh_21 h10 ?_
      by_cases k11 : r8 = v9
      · rw [if_pos k11] at h
        refine q_icmp_eq_t (pc := 38) (tgt := 43) dX9_fits_38 (by decide) k11 ?_
        refine q_iincW (pc := 43) (w := nI 3) (ls' := [some (.ref 20), some (.int x1), some (.int (c2 + nI 3))]) dX9_fits_43 rfl (by decide) (by decide) rfl rfl ?_
        refine q_goto (pc := 46) (tgt := 2) dX9_fits_46 (by decide) ?_
        exact l_X9_fits_L2 x1 M J n (c2 + nI 3) res h hk hr
      · rw [if_neg k11] at h
        refine q_icmp_eq_f (pc := 38) (tgt := 43) dX9_fits_38 (by decide) k11 ?_
        refine q_iconst (pc := 41) (v := nI 0) dX9_fits_41 (by decide) ?_
        obtain rfl := Option.some.inj h
        exact q_iret (pc := 42) dX9_fits_42 rfl rfl (hr (false) rfl)
def f_X9_fits (a1 : Int32) (M : qM) : Option Bool :=
  (f_X9_fits_L2 a1 M qF (nI 0)).bind fun e12 => Sum.elim some (fun e12 => some (true)) e12
set_option maxRecDepth 20000 in
set_option maxHeartbeats 4000000 in
theorem a_X9_fits {G : qG} {a1 : Int32} {M : qM} {J : qJ} {r : Bool} (h : f_X9_fits a1 M = some (r)) : QM G 1 0 0 YX9_fits [.ref 20, .int a1] SH M J (some (.int (qb r)), SH, M, J) := by
  refine ⟨Nat.le_of_ble_eq_true rfl, Or.inr ⟨rfl, _, rfl⟩, ?_⟩
  show QW G (qrm 1 0 0) YX9_fits 0 0 0 [some (.ref 20), some (.int a1), none] [] SH M J _
  unfold f_X9_fits at h
  refine q_iconst (pc := 0) (v := nI 0) dX9_fits_0 (by decide) ?_
  refine q_istore_n (pc := 1) (ls' := [some (.ref 20), some (.int a1), some (.int (nI 0))]) dX9_fits_1 (by decide) rfl rfl ?_
  obtain ⟨e12, h13, h⟩ := Option.bind_eq_some_iff.mp h
  rcases e12 with r | e12_2
  · simp only [Sum.elim_inl] at h
    obtain rfl := Option.some.inj h
    exact l_X9_fits_L2 a1 M J qF (nI 0) _ h13 (fun x hx => by cases hx) (fun r2 hx => by have hx := Sum.inl.inj hx; subst hx; rfl)
  · simp only [Sum.elim_inr] at h
    refine l_X9_fits_L2 a1 M J qF (nI 0) _ h13 (fun x hx => ?_) (fun r hx => by cases hx)
    have hx := Sum.inr.inj hx
    subst hx
    show QW G (qrm 1 0 0) YX9_fits 0 0 49 [none, none, none] [] SH M J _
    refine q_iconst (pc := 49) (v := nI 1) dX9_fits_49 (by decide) ?_
    obtain rfl := Option.some.inj h
    exact q_iret (pc := 50) dX9_fits_50 rfl rfl rfl
def f_X9_howManyFit_L4  (M : qM) : Nat → Int32 → Int32 → Option (Int32 × Int32)
  | 0, _, _ => none
  | n + 1, c1, c2 =>
  if (nI 20) < c2 then some (c1, c2)
    else (f_X9_fits c2 M).bind fun b4 => if b4 = true then f_X9_howManyFit_L4  M n (c1 + (nI 1)) (c2 + nI 1)
    else f_X9_howManyFit_L4  M n (c1 + (nI 0)) (c2 + nI 1)
set_option maxRecDepth 20000 in
set_option maxHeartbeats 4000000 in
theorem l_X9_howManyFit_L4 {G : qG} {ρ : qR}  (M : qM) (J : qJ) : ∀ (n : Nat) (c1 : Int32) (c2 : Int32) (res : Int32 × Int32), f_X9_howManyFit_L4  M n c1 c2 = some res → (∀ x : Int32 × Int32, res = x → QW G (qrm 2 0 0) YX9_howManyFit 0 0 32 [none, some (.int x.1), none] [] SH M J ρ) → QW G (qrm 2 0 0) YX9_howManyFit 0 0 4 [some (.ref 20), some (.int c1), some (.int c2)] [] SH M J ρ
  | 0, _, _, _, h, _ => by simp [f_X9_howManyFit_L4] at h
  | n + 1, c1, c2, res, h, hk => by
    rw [f_X9_howManyFit_L4] at h
    refine q_iload_n (pc := 4) dX9_howManyFit_4 rfl ?_
    refine q_bipush (pc := 5) (v := nI 20) dX9_howManyFit_5 (by decide) ?_
    by_cases k1 : (nI 20) < c2
    · rw [if_pos k1] at h
      refine q_icmp_gt_t (pc := 7) (tgt := 32) dX9_howManyFit_7 (by decide) k1 ?_
      refine q_weak (ls' := [none, some (.int c1), none]) ⟨rfl, trivial⟩ ?_
      obtain rfl := Option.some.inj h
      exact hk (c1, c2) rfl
    · rw [if_neg k1] at h
      refine q_icmp_gt_f (pc := 7) (tgt := 32) dX9_howManyFit_7 (by decide) k1 ?_
      refine q_iload_n (pc := 10) dX9_howManyFit_10 rfl ?_
      refine q_aload_n (pc := 11) dX9_howManyFit_11 rfl ?_
      refine q_iload_n (pc := 12) dX9_howManyFit_12 rfl ?_
      obtain ⟨b4, h3, h⟩ := Option.bind_eq_some_iff.mp h
      refine q_callv (pc := 13) (st := [.int c1]) (a_X9_fits h3) okX9_fits rfl dX9_howManyFit_13 lk_X9_23 sh_20 cl_9 rfl (by decide) (by decide) (Nat.le_of_ble_eq_true rfl) ⟨Nat.le_of_ble_eq_true rfl, Nat.le_of_ble_eq_true rfl⟩ rfl ?_
      show QW G (qrm 2 0 0) YX9_howManyFit 0 0 16 [some (.ref 20), some (.int c1), some (.int c2)] [.int (qb b4), .int c1] SH M J _
      by_cases k5 : b4 = true
      · rw [if_pos k5] at h
        refine q_if_eq_f (pc := 16) (tgt := 23) dX9_howManyFit_16 (by decide) (qb_t k5) ?_
        refine q_iconst (pc := 19) (v := nI 1) dX9_howManyFit_19 (by decide) ?_
        refine q_goto (pc := 20) (tgt := 24) dX9_howManyFit_20 (by decide) ?_
        refine q_iadd (pc := 24) dX9_howManyFit_24 ?_
        refine q_istore_n (pc := 25) (ls' := [some (.ref 20), some (.int (c1 + (nI 1))), some (.int c2)]) dX9_howManyFit_25 (by decide) rfl rfl ?_
        refine q_iincW (pc := 26) (w := nI 1) (ls' := [some (.ref 20), some (.int (c1 + (nI 1))), some (.int (c2 + nI 1))]) dX9_howManyFit_26 rfl (by decide) (by decide) rfl rfl ?_
        refine q_goto (pc := 29) (tgt := 4) dX9_howManyFit_29 (by decide) ?_
        exact l_X9_howManyFit_L4  M J n (c1 + (nI 1)) (c2 + nI 1) res h hk
      · rw [if_neg k5] at h
        refine q_if_eq_t (pc := 16) (tgt := 23) dX9_howManyFit_16 (by decide) (qb_f k5) ?_
        refine q_iconst (pc := 23) (v := nI 0) dX9_howManyFit_23 (by decide) ?_
        refine q_iadd (pc := 24) dX9_howManyFit_24 ?_
        refine q_istore_n (pc := 25) (ls' := [some (.ref 20), some (.int (c1 + (nI 0))), some (.int c2)]) dX9_howManyFit_25 (by decide) rfl rfl ?_
        refine q_iincW (pc := 26) (w := nI 1) (ls' := [some (.ref 20), some (.int (c1 + (nI 0))), some (.int (c2 + nI 1))]) dX9_howManyFit_26 rfl (by decide) (by decide) rfl rfl ?_
        refine q_goto (pc := 29) (tgt := 4) dX9_howManyFit_29 (by decide) ?_
        exact l_X9_howManyFit_L4  M J n (c1 + (nI 0)) (c2 + nI 1) res h hk
def f_X9_howManyFit  (M : qM) : Option Int32 :=
  (f_X9_howManyFit_L4 M qF (nI 0) (nI 0)).bind fun e6 => some (e6.1)
set_option maxRecDepth 20000 in
set_option maxHeartbeats 4000000 in
theorem a_X9_howManyFit {G : qG}  {M : qM} {J : qJ} {r : Int32} (h : f_X9_howManyFit  M = some (r)) : QM G 2 0 0 YX9_howManyFit [.ref 20] SH M J (some (.int r), SH, M, J) := by
  refine ⟨Nat.le_of_ble_eq_true rfl, Or.inl rfl, ?_⟩
  show QW G (qrm 2 0 0) YX9_howManyFit 0 0 0 [some (.ref 20), none, none] [] SH M J _
  unfold f_X9_howManyFit at h
  refine q_iconst (pc := 0) (v := nI 0) dX9_howManyFit_0 (by decide) ?_
  refine q_istore_n (pc := 1) (ls' := [some (.ref 20), some (.int (nI 0)), none]) dX9_howManyFit_1 (by decide) rfl rfl ?_
  refine q_iconst (pc := 2) (v := nI 0) dX9_howManyFit_2 (by decide) ?_
  refine q_istore_n (pc := 3) (ls' := [some (.ref 20), some (.int (nI 0)), some (.int (nI 0))]) dX9_howManyFit_3 (by decide) rfl rfl ?_
  obtain ⟨⟨e6_1, e6_2⟩, h7, h⟩ := Option.bind_eq_some_iff.mp h
  try dsimp only at h
  refine l_X9_howManyFit_L4 M J qF (nI 0) (nI 0) _ h7 (fun x hx => ?_)
  subst hx
  show QW G (qrm 2 0 0) YX9_howManyFit 0 0 32 [none, some (.int e6_1), none] [] SH M J _
  refine q_iload_n (pc := 32) dX9_howManyFit_32 rfl ?_
  obtain rfl := Option.some.inj h
  exact q_iret (pc := 33) dX9_howManyFit_33 rfl rfl rfl
def f_X9_leastThatFits_L2  (M : qM) : Nat → Int32 → Option ((Int32) ⊕ (Int32))
  | 0, _ => none
  | n + 1, c1 =>
  if (nI 20) < c1 then some (.inr (c1))
    else (f_X9_fits c1 M).bind fun b4 => if b4 = true then some (.inl (c1))
    else f_X9_leastThatFits_L2  M n (c1 + nI 1)
set_option maxRecDepth 20000 in
set_option maxHeartbeats 4000000 in
theorem l_X9_leastThatFits_L2 {G : qG} {ρ : qR}  (M : qM) (J : qJ) : ∀ (n : Nat) (c1 : Int32) (res : (Int32) ⊕ (Int32)), f_X9_leastThatFits_L2  M n c1 = some res → (∀ x : Int32, res = .inr x → QW G (qrm 2 0 0) YX9_leastThatFits 0 0 24 [none, none] [] SH M J ρ) → (∀ r : Int32, res = .inl r → (some (.int r), SH, M, J) = ρ) → QW G (qrm 2 0 0) YX9_leastThatFits 0 0 2 [some (.ref 20), some (.int c1)] [] SH M J ρ
  | 0, _, _, h, _, _ => by simp [f_X9_leastThatFits_L2] at h
  | n + 1, c1, res, h, hk, hr => by
    rw [f_X9_leastThatFits_L2] at h
    refine q_iload_n (pc := 2) dX9_leastThatFits_2 rfl ?_
    refine q_bipush (pc := 3) (v := nI 20) dX9_leastThatFits_3 (by decide) ?_
    by_cases k1 : (nI 20) < c1
    · rw [if_pos k1] at h
      refine q_icmp_gt_t (pc := 5) (tgt := 24) dX9_leastThatFits_5 (by decide) k1 ?_
      refine q_weak (ls' := [none, none]) trivial ?_
      obtain rfl := Option.some.inj h
      exact hk (c1) rfl
    · rw [if_neg k1] at h
      refine q_icmp_gt_f (pc := 5) (tgt := 24) dX9_leastThatFits_5 (by decide) k1 ?_
      refine q_aload_n (pc := 8) dX9_leastThatFits_8 rfl ?_
      refine q_iload_n (pc := 9) dX9_leastThatFits_9 rfl ?_
      obtain ⟨b4, h3, h⟩ := Option.bind_eq_some_iff.mp h
      refine q_callv (pc := 10) (st := []) (a_X9_fits h3) okX9_fits rfl dX9_leastThatFits_10 lk_X9_23 sh_20 cl_9 rfl (by decide) (by decide) (Nat.le_of_ble_eq_true rfl) ⟨Nat.le_of_ble_eq_true rfl, Nat.le_of_ble_eq_true rfl⟩ rfl ?_
      show QW G (qrm 2 0 0) YX9_leastThatFits 0 0 13 [some (.ref 20), some (.int c1)] [.int (qb b4)] SH M J _
      by_cases k5 : b4 = true
      · rw [if_pos k5] at h
        refine q_if_eq_f (pc := 13) (tgt := 18) dX9_leastThatFits_13 (by decide) (qb_t k5) ?_
        refine q_iload_n (pc := 16) dX9_leastThatFits_16 rfl ?_
        obtain rfl := Option.some.inj h
        exact q_iret (pc := 17) dX9_leastThatFits_17 rfl rfl (hr (c1) rfl)
      · rw [if_neg k5] at h
        refine q_if_eq_t (pc := 13) (tgt := 18) dX9_leastThatFits_13 (by decide) (qb_f k5) ?_
        refine q_iincW (pc := 18) (w := nI 1) (ls' := [some (.ref 20), some (.int (c1 + nI 1))]) dX9_leastThatFits_18 rfl (by decide) (by decide) rfl rfl ?_
        refine q_goto (pc := 21) (tgt := 2) dX9_leastThatFits_21 (by decide) ?_
        exact l_X9_leastThatFits_L2  M J n (c1 + nI 1) res h hk hr
def f_X9_leastThatFits  (M : qM) : Option Int32 :=
  (f_X9_leastThatFits_L2 M qF (nI 0)).bind fun e6 => Sum.elim some (fun e6 => some ((-1 : Int32))) e6
set_option maxRecDepth 20000 in
set_option maxHeartbeats 4000000 in
theorem a_X9_leastThatFits {G : qG}  {M : qM} {J : qJ} {r : Int32} (h : f_X9_leastThatFits  M = some (r)) : QM G 2 0 0 YX9_leastThatFits [.ref 20] SH M J (some (.int r), SH, M, J) := by
  refine ⟨Nat.le_of_ble_eq_true rfl, Or.inl rfl, ?_⟩
  show QW G (qrm 2 0 0) YX9_leastThatFits 0 0 0 [some (.ref 20), none] [] SH M J _
  unfold f_X9_leastThatFits at h
  refine q_iconst (pc := 0) (v := nI 0) dX9_leastThatFits_0 (by decide) ?_
  refine q_istore_n (pc := 1) (ls' := [some (.ref 20), some (.int (nI 0))]) dX9_leastThatFits_1 (by decide) rfl rfl ?_
  obtain ⟨e6, h7, h⟩ := Option.bind_eq_some_iff.mp h
  rcases e6 with r | e6_1
  · simp only [Sum.elim_inl] at h
    obtain rfl := Option.some.inj h
    exact l_X9_leastThatFits_L2 M J qF (nI 0) _ h7 (fun x hx => by cases hx) (fun r2 hx => by have hx := Sum.inl.inj hx; subst hx; rfl)
  · simp only [Sum.elim_inr] at h
    refine l_X9_leastThatFits_L2 M J qF (nI 0) _ h7 (fun x hx => ?_) (fun r hx => by cases hx)
    have hx := Sum.inr.inj hx
    subst hx
    show QW G (qrm 2 0 0) YX9_leastThatFits 0 0 24 [none, none] [] SH M J _
    refine q_iconst (pc := 24) (v := (-1 : Int32)) dX9_leastThatFits_24 (by decide) ?_
    obtain rfl := Option.some.inj h
    exact q_iret (pc := 25) dX9_leastThatFits_25 rfl rfl rfl
def f_X9_greatestThatFits_L3  (M : qM) : Nat → Int32 → Option ((Int32) ⊕ (Int32))
  | 0, _ => none
  | n + 1, c1 =>
  if c1 < 0 then some (.inr (c1))
    else (f_X9_fits c1 M).bind fun b4 => if b4 = true then some (.inl (c1))
    else f_X9_greatestThatFits_L3  M n (c1 + (-1 : Int32))
set_option maxRecDepth 20000 in
set_option maxHeartbeats 4000000 in
theorem l_X9_greatestThatFits_L3 {G : qG} {ρ : qR}  (M : qM) (J : qJ) : ∀ (n : Nat) (c1 : Int32) (res : (Int32) ⊕ (Int32)), f_X9_greatestThatFits_L3  M n c1 = some res → (∀ x : Int32, res = .inr x → QW G (qrm 2 0 0) YX9_greatestThatFits 0 0 23 [none, none] [] SH M J ρ) → (∀ r : Int32, res = .inl r → (some (.int r), SH, M, J) = ρ) → QW G (qrm 2 0 0) YX9_greatestThatFits 0 0 3 [some (.ref 20), some (.int c1)] [] SH M J ρ
  | 0, _, _, h, _, _ => by simp [f_X9_greatestThatFits_L3] at h
  | n + 1, c1, res, h, hk, hr => by
    rw [f_X9_greatestThatFits_L3] at h
    refine q_iload_n (pc := 3) dX9_greatestThatFits_3 rfl ?_
    by_cases k1 : c1 < 0
    · rw [if_pos k1] at h
      refine q_if_lt_t (pc := 4) (tgt := 23) dX9_greatestThatFits_4 (by decide) k1 ?_
      refine q_weak (ls' := [none, none]) trivial ?_
      obtain rfl := Option.some.inj h
      exact hk (c1) rfl
    · rw [if_neg k1] at h
      refine q_if_lt_f (pc := 4) (tgt := 23) dX9_greatestThatFits_4 (by decide) k1 ?_
      refine q_aload_n (pc := 7) dX9_greatestThatFits_7 rfl ?_
      refine q_iload_n (pc := 8) dX9_greatestThatFits_8 rfl ?_
      obtain ⟨b4, h3, h⟩ := Option.bind_eq_some_iff.mp h
      refine q_callv (pc := 9) (st := []) (a_X9_fits h3) okX9_fits rfl dX9_greatestThatFits_9 lk_X9_23 sh_20 cl_9 rfl (by decide) (by decide) (Nat.le_of_ble_eq_true rfl) ⟨Nat.le_of_ble_eq_true rfl, Nat.le_of_ble_eq_true rfl⟩ rfl ?_
      show QW G (qrm 2 0 0) YX9_greatestThatFits 0 0 12 [some (.ref 20), some (.int c1)] [.int (qb b4)] SH M J _
      by_cases k5 : b4 = true
      · rw [if_pos k5] at h
        refine q_if_eq_f (pc := 12) (tgt := 17) dX9_greatestThatFits_12 (by decide) (qb_t k5) ?_
        refine q_iload_n (pc := 15) dX9_greatestThatFits_15 rfl ?_
        obtain rfl := Option.some.inj h
        exact q_iret (pc := 16) dX9_greatestThatFits_16 rfl rfl (hr (c1) rfl)
      · rw [if_neg k5] at h
        refine q_if_eq_t (pc := 12) (tgt := 17) dX9_greatestThatFits_12 (by decide) (qb_f k5) ?_
        refine q_iincW (pc := 17) (w := (-1 : Int32)) (ls' := [some (.ref 20), some (.int (c1 + (-1 : Int32)))]) dX9_greatestThatFits_17 rfl (by decide) (by decide) rfl rfl ?_
        refine q_goto (pc := 20) (tgt := 3) dX9_greatestThatFits_20 (by decide) ?_
        exact l_X9_greatestThatFits_L3  M J n (c1 + (-1 : Int32)) res h hk hr
def f_X9_greatestThatFits  (M : qM) : Option Int32 :=
  (f_X9_greatestThatFits_L3 M qF (nI 20)).bind fun e6 => Sum.elim some (fun e6 => some ((-1 : Int32))) e6
set_option maxRecDepth 20000 in
set_option maxHeartbeats 4000000 in
theorem a_X9_greatestThatFits {G : qG}  {M : qM} {J : qJ} {r : Int32} (h : f_X9_greatestThatFits  M = some (r)) : QM G 2 0 0 YX9_greatestThatFits [.ref 20] SH M J (some (.int r), SH, M, J) := by
  refine ⟨Nat.le_of_ble_eq_true rfl, Or.inl rfl, ?_⟩
  show QW G (qrm 2 0 0) YX9_greatestThatFits 0 0 0 [some (.ref 20), none] [] SH M J _
  unfold f_X9_greatestThatFits at h
  refine q_bipush (pc := 0) (v := nI 20) dX9_greatestThatFits_0 (by decide) ?_
  refine q_istore_n (pc := 2) (ls' := [some (.ref 20), some (.int (nI 20))]) dX9_greatestThatFits_2 (by decide) rfl rfl ?_
  obtain ⟨e6, h7, h⟩ := Option.bind_eq_some_iff.mp h
  rcases e6 with r | e6_1
  · simp only [Sum.elim_inl] at h
    obtain rfl := Option.some.inj h
    exact l_X9_greatestThatFits_L3 M J qF (nI 20) _ h7 (fun x hx => by cases hx) (fun r2 hx => by have hx := Sum.inl.inj hx; subst hx; rfl)
  · simp only [Sum.elim_inr] at h
    refine l_X9_greatestThatFits_L3 M J qF (nI 20) _ h7 (fun x hx => ?_) (fun r hx => by cases hx)
    have hx := Sum.inr.inj hx
    subst hx
    show QW G (qrm 2 0 0) YX9_greatestThatFits 0 0 23 [none, none] [] SH M J _
    refine q_iconst (pc := 23) (v := (-1 : Int32)) dX9_greatestThatFits_23 (by decide) ?_
    obtain rfl := Option.some.inj h
    exact q_iret (pc := 24) dX9_greatestThatFits_24 rfl rfl rfl
def f_X11_weights (a1 : Int32) (M : qM) : Option Int32 :=
  if a1 = nI 0 then (f_X9_howManyFit M).bind fun r4 => some (r4)
    else if a1 = nI 1 then (f_X9_leastThatFits M).bind fun r8 => some (r8)
    else if a1 = nI 2 then (f_X9_greatestThatFits M).bind fun r12 => some (r12)
    else some ((-1000000002 : Int32))
set_option maxRecDepth 20000 in
set_option maxHeartbeats 4000000 in
theorem a_X11_weights {G : qG} {a1 : Int32} {M : qM} {J : qJ} {r : Int32} (h : f_X11_weights a1 M = some (r)) : QM G 3 0 0 YX11_weights [.ref 0, .int a1] SH M J (some (.int r), SH, M, J) := by
  refine ⟨Nat.le_of_ble_eq_true rfl, Or.inl rfl, ?_⟩
  show QW G (qrm 3 0 0) YX11_weights 0 0 0 [some (.ref 0), some (.int a1)] [] SH M J _
  unfold f_X11_weights at h
  refine q_iload_n (pc := 0) dX11_weights_0 rfl ?_
  by_cases k1 : a1 = nI 0
  · rw [if_pos k1] at h
    refine q_tabIn (pc := 1) (tgt := 28) (off := 27) (j := 0) dX11_weights_1 (by rw [k1]; rfl) (by decide) (by decide) rfl (by decide) ?_
    refine q_aload_n (pc := 28) dX11_weights_28 rfl ?_
    refine q_getf (pc := 29) (f := 8) (v := .ref 20) dX11_weights_29 sh_0 cl_10 inX11 rfl (by decide) lk_X11_68 rfl ?_
    obtain ⟨r4, h3, h⟩ := Option.bind_eq_some_iff.mp h
    refine q_callv (pc := 32) (st := []) (a_X9_howManyFit h3) okX9_howManyFit rfl dX11_weights_32 lk_X11_294 sh_20 cl_9 rfl (by decide) (by decide) (Nat.le_of_ble_eq_true rfl) ⟨Nat.le_of_ble_eq_true rfl, Nat.le_of_ble_eq_true rfl⟩ rfl ?_
    show QW G (qrm 3 0 0) YX11_weights 0 0 35 [some (.ref 0), some (.int a1)] [.int r4] SH M J _
    obtain rfl := Option.some.inj h
    exact q_iret (pc := 35) dX11_weights_35 rfl rfl rfl
  · rw [if_neg k1] at h
    by_cases k5 : a1 = nI 1
    · rw [if_pos k5] at h
      refine q_tabIn (pc := 1) (tgt := 36) (off := 35) (j := 1) dX11_weights_1 (by rw [k5]; rfl) (by decide) (by decide) rfl (by decide) ?_
      refine q_aload_n (pc := 36) dX11_weights_36 rfl ?_
      refine q_getf (pc := 37) (f := 8) (v := .ref 20) dX11_weights_37 sh_0 cl_10 inX11 rfl (by decide) lk_X11_68 rfl ?_
      obtain ⟨r8, h7, h⟩ := Option.bind_eq_some_iff.mp h
      refine q_callv (pc := 40) (st := []) (a_X9_leastThatFits h7) okX9_leastThatFits rfl dX11_weights_40 lk_X11_297 sh_20 cl_9 rfl (by decide) (by decide) (Nat.le_of_ble_eq_true rfl) ⟨Nat.le_of_ble_eq_true rfl, Nat.le_of_ble_eq_true rfl⟩ rfl ?_
      show QW G (qrm 3 0 0) YX11_weights 0 0 43 [some (.ref 0), some (.int a1)] [.int r8] SH M J _
      obtain rfl := Option.some.inj h
      exact q_iret (pc := 43) dX11_weights_43 rfl rfl rfl
    · rw [if_neg k5] at h
      by_cases k9 : a1 = nI 2
      · rw [if_pos k9] at h
        refine q_tabIn (pc := 1) (tgt := 44) (off := 43) (j := 2) dX11_weights_1 (by rw [k9]; rfl) (by decide) (by decide) rfl (by decide) ?_
        refine q_aload_n (pc := 44) dX11_weights_44 rfl ?_
        refine q_getf (pc := 45) (f := 8) (v := .ref 20) dX11_weights_45 sh_0 cl_10 inX11 rfl (by decide) lk_X11_68 rfl ?_
        obtain ⟨r12, h11, h⟩ := Option.bind_eq_some_iff.mp h
        refine q_callv (pc := 48) (st := []) (a_X9_greatestThatFits h11) okX9_greatestThatFits rfl dX11_weights_48 lk_X11_300 sh_20 cl_9 rfl (by decide) (by decide) (Nat.le_of_ble_eq_true rfl) ⟨Nat.le_of_ble_eq_true rfl, Nat.le_of_ble_eq_true rfl⟩ rfl ?_
        show QW G (qrm 3 0 0) YX11_weights 0 0 51 [some (.ref 0), some (.int a1)] [.int r12] SH M J _
        obtain rfl := Option.some.inj h
        exact q_iret (pc := 51) dX11_weights_51 rfl rfl rfl
      · rw [if_neg k9] at h
        have hsw : a1.toInt < (0) ∨ (2) < a1.toInt := by
          have := lv_neT k1 (show (nI 0).toInt = 0 from rfl)
          have := lv_neT k5 (show (nI 1).toInt = 1 from rfl)
          have := lv_neT k9 (show (nI 2).toInt = 2 from rfl)
          omega
        refine q_tabOut (pc := 1) (tgt := 52) dX11_weights_1 hsw (by decide) ?_
        refine q_ldc (pc := 52) (v := (-1000000002 : Int32)) dX11_weights_52 lk_X11_83 ?_
        obtain rfl := Option.some.inj h
        exact q_iret (pc := 54) dX11_weights_54 rfl rfl rfl
def f_X9_partOf_L14 (x1 : Int32) (x3 : Int32) (M : qM) : Nat → Int32 → Int32 → Option (Int32 × Int32)
  | 0, _, _ => none
  | n + 1, c4, c5 =>
  if (nI 20) < c5 then some (c4, c5)
    else (f_X9_fits c5 M).bind fun b7 => if b7 = true then (f_X11_strengthBy x1 (nI 10) c5 M).bind fun r11 => if r11 = x3 then f_X9_partOf_L14 x1 x3 M n (c4 + (nI 1)) (c5 + nI 1)
    else f_X9_partOf_L14 x1 x3 M n (c4 + (nI 0)) (c5 + nI 1)
    else f_X9_partOf_L14 x1 x3 M n (c4 + (nI 0)) (c5 + nI 1)
set_option maxRecDepth 20000 in
set_option maxHeartbeats 4000000 in
theorem l_X9_partOf_L14 {G : qG} {ρ : qR} (x1 : Int32) (x3 : Int32) (M : qM) (J : qJ) : ∀ (n : Nat) (c4 : Int32) (c5 : Int32) (res : Int32 × Int32), f_X9_partOf_L14 x1 x3 M n c4 c5 = some res → (∀ x : Int32 × Int32, res = x → QW G (qrm 2 0 0) YX9_partOf 0 0 58 [none, none, none, none, some (.int x.1), none] [] SH M J ρ) → QW G (qrm 2 0 0) YX9_partOf 0 0 14 [some (.ref 20), some (.int x1), none, some (.int x3), some (.int c4), some (.int c5)] [] SH M J ρ
  | 0, _, _, _, h, _ => by simp [f_X9_partOf_L14] at h
  | n + 1, c4, c5, res, h, hk => by
    rw [f_X9_partOf_L14] at h
    refine q_iload (pc := 14) dX9_partOf_14 rfl ?_
    refine q_bipush (pc := 16) (v := nI 20) dX9_partOf_16 (by decide) ?_
    by_cases k4 : (nI 20) < c5
    · rw [if_pos k4] at h
      refine q_icmp_gt_t (pc := 18) (tgt := 58) dX9_partOf_18 (by decide) k4 ?_
      refine q_weak (ls' := [none, none, none, none, some (.int c4), none]) ⟨rfl, trivial⟩ ?_
      obtain rfl := Option.some.inj h
      exact hk (c4, c5) rfl
    · rw [if_neg k4] at h
      refine q_icmp_gt_f (pc := 18) (tgt := 58) dX9_partOf_18 (by decide) k4 ?_
      refine q_iload (pc := 21) dX9_partOf_21 rfl ?_
      refine q_aload_n (pc := 23) dX9_partOf_23 rfl ?_
      refine q_iload (pc := 24) dX9_partOf_24 rfl ?_
      obtain ⟨b7, h6, h⟩ := Option.bind_eq_some_iff.mp h
      refine q_callv (pc := 26) (st := [.int c4]) (a_X9_fits h6) okX9_fits rfl dX9_partOf_26 lk_X9_23 sh_20 cl_9 rfl (by decide) (by decide) (Nat.le_of_ble_eq_true rfl) ⟨Nat.le_of_ble_eq_true rfl, Nat.le_of_ble_eq_true rfl⟩ rfl ?_
      show QW G (qrm 2 0 0) YX9_partOf 0 0 29 [some (.ref 20), some (.int x1), none, some (.int x3), some (.int c4), some (.int c5)] [.int (qb b7), .int c4] SH M J _
      by_cases k8 : b7 = true
      · rw [if_pos k8] at h
        refine q_if_eq_f (pc := 29) (tgt := 48) dX9_partOf_29 (by decide) (qb_t k8) ?_
        refine q_iload_n (pc := 32) dX9_partOf_32 rfl ?_
        refine q_bipush (pc := 33) (v := nI 10) dX9_partOf_33 (by decide) ?_
        refine q_iload (pc := 35) dX9_partOf_35 rfl ?_
        obtain ⟨r11, h10, h⟩ := Option.bind_eq_some_iff.mp h
        refine q_callsn (pc := 37) (st := [.int c4]) (a_X11_strengthBy h10) okX11_strengthBy rfl dX9_partOf_37 lkn_X9_19 rfl (by decide) (by decide) (Nat.le_of_ble_eq_true rfl) ⟨Nat.le_of_ble_eq_true rfl, Nat.le_of_ble_eq_true rfl⟩ rfl ?_
        show QW G (qrm 2 0 0) YX9_partOf 0 0 40 [some (.ref 20), some (.int x1), none, some (.int x3), some (.int c4), some (.int c5)] [.int r11, .int c4] SH M J _
        refine q_iload_n (pc := 40) dX9_partOf_40 rfl ?_
        by_cases k12 : r11 = x3
        · rw [if_pos k12] at h
          refine q_icmp_ne_f (pc := 41) (tgt := 48) dX9_partOf_41 (by decide) k12 ?_
          refine q_iconst (pc := 44) (v := nI 1) dX9_partOf_44 (by decide) ?_
          refine q_goto (pc := 45) (tgt := 49) dX9_partOf_45 (by decide) ?_
          refine q_iadd (pc := 49) dX9_partOf_49 ?_
          refine q_istore (pc := 50) (ls' := [some (.ref 20), some (.int x1), none, some (.int x3), some (.int (c4 + (nI 1))), some (.int c5)]) dX9_partOf_50 (by decide) rfl rfl ?_
          refine q_iincW (pc := 52) (w := nI 1) (ls' := [some (.ref 20), some (.int x1), none, some (.int x3), some (.int (c4 + (nI 1))), some (.int (c5 + nI 1))]) dX9_partOf_52 rfl (by decide) (by decide) rfl rfl ?_
          refine q_goto (pc := 55) (tgt := 14) dX9_partOf_55 (by decide) ?_
          exact l_X9_partOf_L14 x1 x3 M J n (c4 + (nI 1)) (c5 + nI 1) res h hk
        · rw [if_neg k12] at h
          refine q_icmp_ne_t (pc := 41) (tgt := 48) dX9_partOf_41 (by decide) k12 ?_
          refine q_iconst (pc := 48) (v := nI 0) dX9_partOf_48 (by decide) ?_
          refine q_iadd (pc := 49) dX9_partOf_49 ?_
          refine q_istore (pc := 50) (ls' := [some (.ref 20), some (.int x1), none, some (.int x3), some (.int (c4 + (nI 0))), some (.int c5)]) dX9_partOf_50 (by decide) rfl rfl ?_
          refine q_iincW (pc := 52) (w := nI 1) (ls' := [some (.ref 20), some (.int x1), none, some (.int x3), some (.int (c4 + (nI 0))), some (.int (c5 + nI 1))]) dX9_partOf_52 rfl (by decide) (by decide) rfl rfl ?_
          refine q_goto (pc := 55) (tgt := 14) dX9_partOf_55 (by decide) ?_
          exact l_X9_partOf_L14 x1 x3 M J n (c4 + (nI 0)) (c5 + nI 1) res h hk
      · rw [if_neg k8] at h
        refine q_if_eq_t (pc := 29) (tgt := 48) dX9_partOf_29 (by decide) (qb_f k8) ?_
        refine q_iconst (pc := 48) (v := nI 0) dX9_partOf_48 (by decide) ?_
        refine q_iadd (pc := 49) dX9_partOf_49 ?_
        refine q_istore (pc := 50) (ls' := [some (.ref 20), some (.int x1), none, some (.int x3), some (.int (c4 + (nI 0))), some (.int c5)]) dX9_partOf_50 (by decide) rfl rfl ?_
        refine q_iincW (pc := 52) (w := nI 1) (ls' := [some (.ref 20), some (.int x1), none, some (.int x3), some (.int (c4 + (nI 0))), some (.int (c5 + nI 1))]) dX9_partOf_52 rfl (by decide) (by decide) rfl rfl ?_
        refine q_goto (pc := 55) (tgt := 14) dX9_partOf_55 (by decide) ?_
        exact l_X9_partOf_L14 x1 x3 M J n (c4 + (nI 0)) (c5 + nI 1) res h hk
def f_X9_partOf (a1 : Int32) (a2 : Int32) (M : qM) : Option Int32 :=
  (f_X11_strengthBy a1 (nI 10) a2 M).bind fun r3 => (f_X9_partOf_L14 a1 r3 M qF (nI 0) (nI 0)).bind fun e13 => some (e13.1)
set_option maxRecDepth 20000 in
set_option maxHeartbeats 4000000 in
theorem a_X9_partOf {G : qG} {a1 : Int32} {a2 : Int32} {M : qM} {J : qJ} {r : Int32} (h : f_X9_partOf a1 a2 M = some (r)) : QM G 2 0 0 YX9_partOf [.ref 20, .int a1, .int a2] SH M J (some (.int r), SH, M, J) := by
  refine ⟨Nat.le_of_ble_eq_true rfl, Or.inl rfl, ?_⟩
  show QW G (qrm 2 0 0) YX9_partOf 0 0 0 [some (.ref 20), some (.int a1), some (.int a2), none, none, none] [] SH M J _
  unfold f_X9_partOf at h
  refine q_iload_n (pc := 0) dX9_partOf_0 rfl ?_
  refine q_bipush (pc := 1) (v := nI 10) dX9_partOf_1 (by decide) ?_
  refine q_iload_n (pc := 3) dX9_partOf_3 rfl ?_
  obtain ⟨r3, h2, h⟩ := Option.bind_eq_some_iff.mp h
  refine q_callsn (pc := 4) (st := []) (a_X11_strengthBy h2) okX11_strengthBy rfl dX9_partOf_4 lkn_X9_19 rfl (by decide) (by decide) (Nat.le_of_ble_eq_true rfl) ⟨Nat.le_of_ble_eq_true rfl, Nat.le_of_ble_eq_true rfl⟩ rfl ?_
  show QW G (qrm 2 0 0) YX9_partOf 0 0 7 [some (.ref 20), some (.int a1), some (.int a2), none, none, none] [.int r3] SH M J _
  refine q_istore_n (pc := 7) (ls' := [some (.ref 20), some (.int a1), some (.int a2), some (.int r3), none, none]) dX9_partOf_7 (by decide) rfl rfl ?_
  refine q_iconst (pc := 8) (v := nI 0) dX9_partOf_8 (by decide) ?_
  refine q_istore (pc := 9) (ls' := [some (.ref 20), some (.int a1), some (.int a2), some (.int r3), some (.int (nI 0)), none]) dX9_partOf_9 (by decide) rfl rfl ?_
  refine q_iconst (pc := 11) (v := nI 0) dX9_partOf_11 (by decide) ?_
  refine q_istore (pc := 12) (ls' := [some (.ref 20), some (.int a1), some (.int a2), some (.int r3), some (.int (nI 0)), some (.int (nI 0))]) dX9_partOf_12 (by decide) rfl rfl ?_
  refine q_weak (ls' := [some (.ref 20), some (.int a1), none, some (.int r3), some (.int (nI 0)), some (.int (nI 0))]) ⟨rfl, ⟨rfl, ⟨rfl, ⟨rfl, ⟨rfl, trivial⟩⟩⟩⟩⟩ ?_
  obtain ⟨⟨e13_4, e13_5⟩, h14, h⟩ := Option.bind_eq_some_iff.mp h
  try dsimp only at h
  refine l_X9_partOf_L14 a1 r3 M J qF (nI 0) (nI 0) _ h14 (fun x hx => ?_)
  subst hx
  show QW G (qrm 2 0 0) YX9_partOf 0 0 58 [none, none, none, none, some (.int e13_4), none] [] SH M J _
  refine q_iload (pc := 58) dX9_partOf_58 rfl ?_
  obtain rfl := Option.some.inj h
  exact q_iret (pc := 60) dX9_partOf_60 rfl rfl rfl
def f_X9_greatestPart_L4 (x1 : Int32) (M : qM) : Nat → Int32 → Int32 → Option (Int32 × Int32)
  | 0, _, _ => none
  | n + 1, c2, c3 =>
  if (nI 20) < c3 then some (c2, c3)
    else (f_X9_fits c3 M).bind fun b4 => if b4 = true then (f_X9_partOf x1 c3 M).bind fun r8 => f_X9_greatestPart_L4 x1 M n (qmax c2 r8) (c3 + nI 1)
    else f_X9_greatestPart_L4 x1 M n c2 (c3 + nI 1)
set_option maxRecDepth 20000 in
set_option maxHeartbeats 4000000 in
theorem l_X9_greatestPart_L4 {G : qG} {ρ : qR} (x1 : Int32) (M : qM) (J : qJ) : ∀ (n : Nat) (c2 : Int32) (c3 : Int32) (res : Int32 × Int32), f_X9_greatestPart_L4 x1 M n c2 c3 = some res → (∀ x : Int32 × Int32, res = x → QW G (qrm 3 0 0) YX9_greatestPart 0 0 35 [none, none, some (.int x.1), none] [] SH M J ρ) → QW G (qrm 3 0 0) YX9_greatestPart 0 0 4 [some (.ref 20), some (.int x1), some (.int c2), some (.int c3)] [] SH M J ρ
  | 0, _, _, _, h, _ => by simp [f_X9_greatestPart_L4] at h
  | n + 1, c2, c3, res, h, hk => by
    rw [f_X9_greatestPart_L4] at h
    refine q_iload_n (pc := 4) dX9_greatestPart_4 rfl ?_
    refine q_bipush (pc := 5) (v := nI 20) dX9_greatestPart_5 (by decide) ?_
    by_cases k1 : (nI 20) < c3
    · rw [if_pos k1] at h
      refine q_icmp_gt_t (pc := 7) (tgt := 35) dX9_greatestPart_7 (by decide) k1 ?_
      refine q_weak (ls' := [none, none, some (.int c2), none]) ⟨rfl, trivial⟩ ?_
      obtain rfl := Option.some.inj h
      exact hk (c2, c3) rfl
    · rw [if_neg k1] at h
      refine q_icmp_gt_f (pc := 7) (tgt := 35) dX9_greatestPart_7 (by decide) k1 ?_
      refine q_aload_n (pc := 10) dX9_greatestPart_10 rfl ?_
      refine q_iload_n (pc := 11) dX9_greatestPart_11 rfl ?_
      obtain ⟨b4, h3, h⟩ := Option.bind_eq_some_iff.mp h
      refine q_callv (pc := 12) (st := []) (a_X9_fits h3) okX9_fits rfl dX9_greatestPart_12 lk_X9_23 sh_20 cl_9 rfl (by decide) (by decide) (Nat.le_of_ble_eq_true rfl) ⟨Nat.le_of_ble_eq_true rfl, Nat.le_of_ble_eq_true rfl⟩ rfl ?_
      show QW G (qrm 3 0 0) YX9_greatestPart 0 0 15 [some (.ref 20), some (.int x1), some (.int c2), some (.int c3)] [.int (qb b4)] SH M J _
      by_cases k5 : b4 = true
      · rw [if_pos k5] at h
        refine q_if_eq_f (pc := 15) (tgt := 29) dX9_greatestPart_15 (by decide) (qb_t k5) ?_
        refine q_iload_n (pc := 18) dX9_greatestPart_18 rfl ?_
        refine q_aload_n (pc := 19) dX9_greatestPart_19 rfl ?_
        refine q_iload_n (pc := 20) dX9_greatestPart_20 rfl ?_
        refine q_iload_n (pc := 21) dX9_greatestPart_21 rfl ?_
        obtain ⟨r8, h7, h⟩ := Option.bind_eq_some_iff.mp h
        refine q_callv (pc := 22) (st := [.int c2]) (a_X9_partOf h7) okX9_partOf rfl dX9_greatestPart_22 lk_X9_35 sh_20 cl_9 rfl (by decide) (by decide) (Nat.le_of_ble_eq_true rfl) ⟨Nat.le_of_ble_eq_true rfl, Nat.le_of_ble_eq_true rfl⟩ rfl ?_
        show QW G (qrm 3 0 0) YX9_greatestPart 0 0 25 [some (.ref 20), some (.int x1), some (.int c2), some (.int c3)] [.int r8, .int c2] SH M J _
        refine q_max (pc := 25) dX9_greatestPart_25 lk_X9_39 (by decide) (Nat.le_of_ble_eq_true rfl) (Nat.le_of_ble_eq_true rfl) (Nat.le_of_ble_eq_true rfl) ?_
        refine q_istore_n (pc := 28) (ls' := [some (.ref 20), some (.int x1), some (.int (qmax c2 r8)), some (.int c3)]) dX9_greatestPart_28 (by decide) rfl rfl ?_
        refine q_iincW (pc := 29) (w := nI 1) (ls' := [some (.ref 20), some (.int x1), some (.int (qmax c2 r8)), some (.int (c3 + nI 1))]) dX9_greatestPart_29 rfl (by decide) (by decide) rfl rfl ?_
        refine q_goto (pc := 32) (tgt := 4) dX9_greatestPart_32 (by decide) ?_
        exact l_X9_greatestPart_L4 x1 M J n (qmax c2 r8) (c3 + nI 1) res h hk
      · rw [if_neg k5] at h
        refine q_if_eq_t (pc := 15) (tgt := 29) dX9_greatestPart_15 (by decide) (qb_f k5) ?_
        refine q_iincW (pc := 29) (w := nI 1) (ls' := [some (.ref 20), some (.int x1), some (.int c2), some (.int (c3 + nI 1))]) dX9_greatestPart_29 rfl (by decide) (by decide) rfl rfl ?_
        refine q_goto (pc := 32) (tgt := 4) dX9_greatestPart_32 (by decide) ?_
        exact l_X9_greatestPart_L4 x1 M J n c2 (c3 + nI 1) res h hk
def f_X9_greatestPart (a1 : Int32) (M : qM) : Option Int32 :=
  (f_X9_greatestPart_L4 a1 M qF (nI 0) (nI 0)).bind fun e9 => some (e9.1)
set_option maxRecDepth 20000 in
set_option maxHeartbeats 4000000 in
theorem a_X9_greatestPart {G : qG} {a1 : Int32} {M : qM} {J : qJ} {r : Int32} (h : f_X9_greatestPart a1 M = some (r)) : QM G 3 0 0 YX9_greatestPart [.ref 20, .int a1] SH M J (some (.int r), SH, M, J) := by
  refine ⟨Nat.le_of_ble_eq_true rfl, Or.inl rfl, ?_⟩
  show QW G (qrm 3 0 0) YX9_greatestPart 0 0 0 [some (.ref 20), some (.int a1), none, none] [] SH M J _
  unfold f_X9_greatestPart at h
  refine q_iconst (pc := 0) (v := nI 0) dX9_greatestPart_0 (by decide) ?_
  refine q_istore_n (pc := 1) (ls' := [some (.ref 20), some (.int a1), some (.int (nI 0)), none]) dX9_greatestPart_1 (by decide) rfl rfl ?_
  refine q_iconst (pc := 2) (v := nI 0) dX9_greatestPart_2 (by decide) ?_
  refine q_istore_n (pc := 3) (ls' := [some (.ref 20), some (.int a1), some (.int (nI 0)), some (.int (nI 0))]) dX9_greatestPart_3 (by decide) rfl rfl ?_
  obtain ⟨⟨e9_2, e9_3⟩, h10, h⟩ := Option.bind_eq_some_iff.mp h
  try dsimp only at h
  refine l_X9_greatestPart_L4 a1 M J qF (nI 0) (nI 0) _ h10 (fun x hx => ?_)
  subst hx
  show QW G (qrm 3 0 0) YX9_greatestPart 0 0 35 [none, none, some (.int e9_2), none] [] SH M J _
  refine q_iload_n (pc := 35) dX9_greatestPart_35 rfl ?_
  obtain rfl := Option.some.inj h
  exact q_iret (pc := 36) dX9_greatestPart_36 rfl rfl rfl
def f_X9_bestKind_L9  (M : qM) : Nat → Int32 → Int32 → Int32 → Option (Int32 × Int32 × Int32)
  | 0, _, _, _ => none
  | n + 1, c1, c2, c3 =>
  if (nI 2) < c3 then some (c1, c2, c3)
    else (f_X9_greatestPart c3 M).bind fun r7 => if c2 ≤ r7 then f_X9_bestKind_L9  M n c1 c2 (c3 + nI 1)
    else f_X9_bestKind_L9  M n c3 r7 (c3 + nI 1)
set_option maxRecDepth 20000 in
set_option maxHeartbeats 4000000 in
theorem l_X9_bestKind_L9 {G : qG} {ρ : qR}  (M : qM) (J : qJ) : ∀ (n : Nat) (c1 : Int32) (c2 : Int32) (c3 : Int32) (res : Int32 × Int32 × Int32), f_X9_bestKind_L9  M n c1 c2 c3 = some res → (∀ x : Int32 × Int32 × Int32, res = x → QW G (qrm 4 0 0) YX9_bestKind 0 0 38 [none, some (.int x.1), none, none, none] [] SH M J ρ) → QW G (qrm 4 0 0) YX9_bestKind 0 0 9 [some (.ref 20), some (.int c1), some (.int c2), some (.int c3), none] [] SH M J ρ
  | 0, _, _, _, _, h, _ => by simp [f_X9_bestKind_L9] at h
  | n + 1, c1, c2, c3, res, h, hk => by
    rw [f_X9_bestKind_L9] at h
    refine q_iload_n (pc := 9) dX9_bestKind_9 rfl ?_
    refine q_iconst (pc := 10) (v := nI 2) dX9_bestKind_10 (by decide) ?_
    by_cases k4 : (nI 2) < c3
    · rw [if_pos k4] at h
      refine q_icmp_gt_t (pc := 11) (tgt := 38) dX9_bestKind_11 (by decide) k4 ?_
      refine q_weak (ls' := [none, some (.int c1), none, none, none]) ⟨rfl, trivial⟩ ?_
      obtain rfl := Option.some.inj h
      exact hk (c1, c2, c3) rfl
    · rw [if_neg k4] at h
      refine q_icmp_gt_f (pc := 11) (tgt := 38) dX9_bestKind_11 (by decide) k4 ?_
      refine q_aload_n (pc := 14) dX9_bestKind_14 rfl ?_
      refine q_iload_n (pc := 15) dX9_bestKind_15 rfl ?_
      obtain ⟨r7, h6, h⟩ := Option.bind_eq_some_iff.mp h
      refine q_callv (pc := 16) (st := []) (a_X9_greatestPart h6) okX9_greatestPart rfl dX9_bestKind_16 lk_X9_31 sh_20 cl_9 rfl (by decide) (by decide) (Nat.le_of_ble_eq_true rfl) ⟨Nat.le_of_ble_eq_true rfl, Nat.le_of_ble_eq_true rfl⟩ rfl ?_
      show QW G (qrm 4 0 0) YX9_bestKind 0 0 19 [some (.ref 20), some (.int c1), some (.int c2), some (.int c3), none] [.int r7] SH M J _
      refine q_istore (pc := 19) (ls' := [some (.ref 20), some (.int c1), some (.int c2), some (.int c3), some (.int r7)]) dX9_bestKind_19 (by decide) rfl rfl ?_
      refine q_iload (pc := 21) dX9_bestKind_21 rfl ?_
      refine q_iload_n (pc := 23) dX9_bestKind_23 rfl ?_
      by_cases k8 : c2 ≤ r7
      · rw [if_pos k8] at h
        refine q_icmp_ge_t (pc := 24) (tgt := 32) dX9_bestKind_24 (by decide) k8 ?_
        refine q_iincW (pc := 32) (w := nI 1) (ls' := [some (.ref 20), some (.int c1), some (.int c2), some (.int (c3 + nI 1)), some (.int r7)]) dX9_bestKind_32 rfl (by decide) (by decide) rfl rfl ?_
        refine q_goto (pc := 35) (tgt := 9) dX9_bestKind_35 (by decide) ?_
        refine q_weak (ls' := [some (.ref 20), some (.int c1), some (.int c2), some (.int (c3 + nI 1)), none]) ⟨rfl, ⟨rfl, ⟨rfl, ⟨rfl, trivial⟩⟩⟩⟩ ?_
        exact l_X9_bestKind_L9  M J n c1 c2 (c3 + nI 1) res h hk
      · rw [if_neg k8] at h
        refine q_icmp_ge_f (pc := 24) (tgt := 32) dX9_bestKind_24 (by decide) k8 ?_
        refine q_iload (pc := 27) dX9_bestKind_27 rfl ?_
        refine q_istore_n (pc := 29) (ls' := [some (.ref 20), some (.int c1), some (.int r7), some (.int c3), some (.int r7)]) dX9_bestKind_29 (by decide) rfl rfl ?_
        refine q_iload_n (pc := 30) dX9_bestKind_30 rfl ?_
        refine q_istore_n (pc := 31) (ls' := [some (.ref 20), some (.int c3), some (.int r7), some (.int c3), some (.int r7)]) dX9_bestKind_31 (by decide) rfl rfl ?_
        refine q_iincW (pc := 32) (w := nI 1) (ls' := [some (.ref 20), some (.int c3), some (.int r7), some (.int (c3 + nI 1)), some (.int r7)]) dX9_bestKind_32 rfl (by decide) (by decide) rfl rfl ?_
        refine q_goto (pc := 35) (tgt := 9) dX9_bestKind_35 (by decide) ?_
        refine q_weak (ls' := [some (.ref 20), some (.int c3), some (.int r7), some (.int (c3 + nI 1)), none]) ⟨rfl, ⟨rfl, ⟨rfl, ⟨rfl, trivial⟩⟩⟩⟩ ?_
        exact l_X9_bestKind_L9  M J n c3 r7 (c3 + nI 1) res h hk
def f_X9_bestKind  (M : qM) : Option Int32 :=
  (f_X9_howManyFit M).bind fun r3 => (f_X9_bestKind_L9 M qF (-1 : Int32) r3 (nI 0)).bind fun e9 => some (e9.1)
set_option maxRecDepth 20000 in
set_option maxHeartbeats 4000000 in
theorem a_X9_bestKind {G : qG}  {M : qM} {J : qJ} {r : Int32} (h : f_X9_bestKind  M = some (r)) : QM G 4 0 0 YX9_bestKind [.ref 20] SH M J (some (.int r), SH, M, J) := by
  refine ⟨Nat.le_of_ble_eq_true rfl, Or.inl rfl, ?_⟩
  show QW G (qrm 4 0 0) YX9_bestKind 0 0 0 [some (.ref 20), none, none, none, none] [] SH M J _
  unfold f_X9_bestKind at h
  refine q_iconst (pc := 0) (v := (-1 : Int32)) dX9_bestKind_0 (by decide) ?_
  refine q_istore_n (pc := 1) (ls' := [some (.ref 20), some (.int (-1 : Int32)), none, none, none]) dX9_bestKind_1 (by decide) rfl rfl ?_
  refine q_aload_n (pc := 2) dX9_bestKind_2 rfl ?_
  obtain ⟨r3, h2, h⟩ := Option.bind_eq_some_iff.mp h
  refine q_callv (pc := 3) (st := []) (a_X9_howManyFit h2) okX9_howManyFit rfl dX9_bestKind_3 lk_X9_27 sh_20 cl_9 rfl (by decide) (by decide) (Nat.le_of_ble_eq_true rfl) ⟨Nat.le_of_ble_eq_true rfl, Nat.le_of_ble_eq_true rfl⟩ rfl ?_
  show QW G (qrm 4 0 0) YX9_bestKind 0 0 6 [some (.ref 20), some (.int (-1 : Int32)), none, none, none] [.int r3] SH M J _
  refine q_istore_n (pc := 6) (ls' := [some (.ref 20), some (.int (-1 : Int32)), some (.int r3), none, none]) dX9_bestKind_6 (by decide) rfl rfl ?_
  refine q_iconst (pc := 7) (v := nI 0) dX9_bestKind_7 (by decide) ?_
  refine q_istore_n (pc := 8) (ls' := [some (.ref 20), some (.int (-1 : Int32)), some (.int r3), some (.int (nI 0)), none]) dX9_bestKind_8 (by decide) rfl rfl ?_
  obtain ⟨⟨e9_1, e9_2, e9_3⟩, h10, h⟩ := Option.bind_eq_some_iff.mp h
  try dsimp only at h
  refine l_X9_bestKind_L9 M J qF (-1 : Int32) r3 (nI 0) _ h10 (fun x hx => ?_)
  subst hx
  show QW G (qrm 4 0 0) YX9_bestKind 0 0 38 [none, some (.int e9_1), none, none, none] [] SH M J _
  refine q_iload_n (pc := 38) dX9_bestKind_38 rfl ?_
  obtain rfl := Option.some.inj h
  exact q_iret (pc := 39) dX9_bestKind_39 rfl rfl rfl
def f_X11_ask  (M : qM) : Option Int32 :=
  (f_X9_bestKind M).bind fun r3 => some (r3)
set_option maxRecDepth 20000 in
set_option maxHeartbeats 4000000 in
theorem a_X11_ask {G : qG}  {M : qM} {J : qJ} {r : Int32} (h : f_X11_ask  M = some (r)) : QM G 5 0 0 YX11_ask [.ref 0] SH M J (some (.int r), SH, M, J) := by
  refine ⟨Nat.le_of_ble_eq_true rfl, Or.inl rfl, ?_⟩
  show QW G (qrm 5 0 0) YX11_ask 0 0 0 [some (.ref 0)] [] SH M J _
  unfold f_X11_ask at h
  refine q_aload_n (pc := 0) dX11_ask_0 rfl ?_
  refine q_getf (pc := 1) (f := 8) (v := .ref 20) dX11_ask_1 sh_0 cl_10 inX11 rfl (by decide) lk_X11_68 rfl ?_
  obtain ⟨r3, h2, h⟩ := Option.bind_eq_some_iff.mp h
  refine q_callv (pc := 4) (st := []) (a_X9_bestKind h2) okX9_bestKind rfl dX11_ask_4 lk_X11_303 sh_20 cl_9 rfl (by decide) (by decide) (Nat.le_of_ble_eq_true rfl) ⟨Nat.le_of_ble_eq_true rfl, Nat.le_of_ble_eq_true rfl⟩ rfl ?_
  show QW G (qrm 5 0 0) YX11_ask 0 0 7 [some (.ref 0)] [.int r3] SH M J _
  obtain rfl := Option.some.inj h
  exact q_iret (pc := 7) dX11_ask_7 rfl rfl rfl
def f_X0_isFull  (M : qM) : Option Bool :=
  if (M 22 0) < (nI 15) then some (false)
    else some (true)
set_option maxRecDepth 20000 in
set_option maxHeartbeats 4000000 in
theorem a_X0_isFull {G : qG}  {M : qM} {J : qJ} {r : Bool} (h : f_X0_isFull  M = some (r)) : QM G 0 0 0 YX0_isFull [.ref 22] SH M J (some (.int (qb r)), SH, M, J) := by
  refine ⟨Nat.le_of_ble_eq_true rfl, Or.inr ⟨rfl, _, rfl⟩, ?_⟩
  show QW G (qrm 0 0 0) YX0_isFull 0 0 0 [some (.ref 22)] [] SH M J _
  unfold f_X0_isFull at h
  refine q_aload_n (pc := 0) dX0_isFull_0 rfl ?_
  refine q_getf (pc := 1) (f := 0) (v := .int (M 22 0)) dX0_isFull_1 sh_22 cl_0 inX0 rfl (by decide) lk_X0_9 rfl ?_
  refine q_bipush (pc := 4) (v := nI 15) dX0_isFull_4 (by decide) ?_
  by_cases k1 : (M 22 0) < (nI 15)
  · rw [if_pos k1] at h
    refine q_icmp_lt_t (pc := 6) (tgt := 13) dX0_isFull_6 (by decide) k1 ?_
    refine q_iconst (pc := 13) (v := nI 0) dX0_isFull_13 (by decide) ?_
    obtain rfl := Option.some.inj h
    exact q_iret (pc := 14) dX0_isFull_14 rfl rfl rfl
  · rw [if_neg k1] at h
    refine q_icmp_lt_f (pc := 6) (tgt := 13) dX0_isFull_6 (by decide) k1 ?_
    refine q_iconst (pc := 9) (v := nI 1) dX0_isFull_9 (by decide) ?_
    refine q_goto (pc := 10) (tgt := 14) dX0_isFull_10 (by decide) ?_
    obtain rfl := Option.some.inj h
    exact q_iret (pc := 14) dX0_isFull_14 rfl rfl rfl
def f_X0_add (a1 : Int32) (a2 : Int32) (M : qM) : Option (Int32 × qM) :=
  (qwr M 23 15 (M 22 0) a1).bind fun M1 => (qwr M1 24 15 (M1 22 0) a2).bind fun M3 => (qpu M3 22 0 ((M3 22 0) + (nI 1))).bind fun M5 => some (M5 22 0, M5)
set_option maxRecDepth 20000 in
set_option maxHeartbeats 4000000 in
theorem a_X0_add {G : qG} {a1 : Int32} {a2 : Int32} {M : qM} {J : qJ} {r : Int32} {M' : qM} (h : f_X0_add a1 a2 M = some (r, M')) : QM G 0 0 0 YX0_add [.ref 22, .int a1, .int a2] SH M J (some (.int r), SH, M', J) := by
  refine ⟨Nat.le_of_ble_eq_true rfl, Or.inl rfl, ?_⟩
  show QW G (qrm 0 0 0) YX0_add 0 0 0 [some (.ref 22), some (.int a1), some (.int a2)] [] SH M J _
  unfold f_X0_add at h
  refine q_aload_n (pc := 0) dX0_add_0 rfl ?_
  refine q_getf (pc := 1) (f := 1) (v := .ref 23) dX0_add_1 sh_22 cl_0 inX0 rfl (by decide) lk_X0_15 rfl ?_
  refine q_aload_n (pc := 4) dX0_add_4 rfl ?_
  refine q_getf (pc := 5) (f := 0) (v := .int (M 22 0)) dX0_add_5 sh_22 cl_0 inX0 rfl (by decide) lk_X0_9 rfl ?_
  refine q_iload_n (pc := 8) dX0_add_8 rfl ?_
  obtain ⟨M1, h2, h⟩ := Option.bind_eq_some_iff.mp h
  refine q_iast (pc := 9) dX0_add_9 sh_23 h2 ?_
  refine q_aload_n (pc := 10) dX0_add_10 rfl ?_
  refine q_getf (pc := 11) (f := 2) (v := .ref 24) dX0_add_11 sh_22 cl_0 inX0 rfl (by decide) lk_X0_19 rfl ?_
  refine q_aload_n (pc := 14) dX0_add_14 rfl ?_
  refine q_getf (pc := 15) (f := 0) (v := .int (M1 22 0)) dX0_add_15 sh_22 cl_0 inX0 rfl (by decide) lk_X0_9 rfl ?_
  refine q_iload_n (pc := 18) dX0_add_18 rfl ?_
  obtain ⟨M3, h4, h⟩ := Option.bind_eq_some_iff.mp h
  refine q_iast (pc := 19) dX0_add_19 sh_24 h4 ?_
  refine q_aload_n (pc := 20) dX0_add_20 rfl ?_
  refine q_dup (pc := 21) dX0_add_21 rfl ?_
  refine q_getf (pc := 22) (f := 0) (v := .int (M3 22 0)) dX0_add_22 sh_22 cl_0 inX0 rfl (by decide) lk_X0_9 rfl ?_
  refine q_iconst (pc := 25) (v := nI 1) dX0_add_25 (by decide) ?_
  refine q_iadd (pc := 26) dX0_add_26 ?_
  obtain ⟨M5, h6, h⟩ := Option.bind_eq_some_iff.mp h
  refine q_putI (pc := 27) (f := 0) tyX0 dX0_add_27 sh_22 cl_0 inX0 tyX0_ok nmX0 rfl (by decide) lk_X0_9 rfl rfl rfl h6 ?_
  refine q_aload_n (pc := 30) dX0_add_30 rfl ?_
  refine q_getf (pc := 31) (f := 0) (v := .int (M5 22 0)) dX0_add_31 sh_22 cl_0 inX0 rfl (by decide) lk_X0_9 rfl ?_
  have h := Option.some.inj h
  obtain ⟨rfl, rfl⟩ := Prod.mk.inj h
  exact q_iret (pc := 34) dX0_add_34 rfl rfl rfl
def f_X11_write (a1 : Int32) (a2 : Int32) (M : qM) : Option (Int32 × qM) :=
  (f_X5_hasCouple a1 M).bind fun b3 => if b3 = true then (f_X11_isOutside a2 (nI 0) (nI 99) M).bind fun b7 => if b7 = true then some ((-1000000002 : Int32), M)
    else (f_X0_isFull M).bind fun b11 => if b11 = true then some ((-1000000004 : Int32), M)
    else (f_X0_add a1 a2 M).bind fun p13 => some (p13.1, p13.2)
    else some ((-1000000001 : Int32), M)
set_option maxRecDepth 20000 in
set_option maxHeartbeats 4000000 in
theorem a_X11_write {G : qG} {a1 : Int32} {a2 : Int32} {M : qM} {J : qJ} {r : Int32} {M' : qM} (h : f_X11_write a1 a2 M = some (r, M')) : QM G 1 0 0 YX11_write [.ref 0, .int a1, .int a2] SH M J (some (.int r), SH, M', J) := by
  refine ⟨Nat.le_of_ble_eq_true rfl, Or.inl rfl, ?_⟩
  show QW G (qrm 1 0 0) YX11_write 0 0 0 [some (.ref 0), some (.int a1), some (.int a2)] [] SH M J _
  unfold f_X11_write at h
  refine q_aload_n (pc := 0) dX11_write_0 rfl ?_
  refine q_getf (pc := 1) (f := 0) (v := .ref 1) dX11_write_1 sh_0 cl_10 inX11 rfl (by decide) lk_X11_10 rfl ?_
  refine q_iload_n (pc := 4) dX11_write_4 rfl ?_
  obtain ⟨b3, h2, h⟩ := Option.bind_eq_some_iff.mp h
  refine q_callv (pc := 5) (st := []) (a_X5_hasCouple h2) okX5_hasCouple rfl dX11_write_5 lk_X11_161 sh_1 cl_5 rfl (by decide) (by decide) (Nat.le_of_ble_eq_true rfl) ⟨Nat.le_of_ble_eq_true rfl, Nat.le_of_ble_eq_true rfl⟩ rfl ?_
  show QW G (qrm 1 0 0) YX11_write 0 0 8 [some (.ref 0), some (.int a1), some (.int a2)] [.int (qb b3)] SH M J _
  by_cases k4 : b3 = true
  · rw [if_pos k4] at h
    refine q_if_ne_t (pc := 8) (tgt := 14) dX11_write_8 (by decide) (qb_t k4) ?_
    refine q_iload_n (pc := 14) dX11_write_14 rfl ?_
    refine q_iconst (pc := 15) (v := nI 0) dX11_write_15 (by decide) ?_
    refine q_bipush (pc := 16) (v := nI 99) dX11_write_16 (by decide) ?_
    obtain ⟨b7, h6, h⟩ := Option.bind_eq_some_iff.mp h
    refine q_calls (pc := 18) (st := []) (a_X11_isOutside h6) okX11_isOutside rfl dX11_write_18 lk_X11_79 rfl (by decide) (by decide) (Nat.le_of_ble_eq_true rfl) ⟨Nat.le_of_ble_eq_true rfl, Nat.le_of_ble_eq_true rfl⟩ rfl ?_
    show QW G (qrm 1 0 0) YX11_write 0 0 21 [some (.ref 0), some (.int a1), some (.int a2)] [.int (qb b7)] SH M J _
    by_cases k8 : b7 = true
    · rw [if_pos k8] at h
      refine q_if_eq_f (pc := 21) (tgt := 27) dX11_write_21 (by decide) (qb_t k8) ?_
      refine q_ldc (pc := 24) (v := (-1000000002 : Int32)) dX11_write_24 lk_X11_83 ?_
      have h := Option.some.inj h
      obtain ⟨rfl, rfl⟩ := Prod.mk.inj h
      exact q_iret (pc := 26) dX11_write_26 rfl rfl rfl
    · rw [if_neg k8] at h
      refine q_if_eq_t (pc := 21) (tgt := 27) dX11_write_21 (by decide) (qb_f k8) ?_
      refine q_aload_n (pc := 27) dX11_write_27 rfl ?_
      refine q_getf (pc := 28) (f := 9) (v := .ref 22) dX11_write_28 sh_0 cl_10 inX11 rfl (by decide) lk_X11_75 rfl ?_
      obtain ⟨b11, h10, h⟩ := Option.bind_eq_some_iff.mp h
      refine q_callv (pc := 31) (st := []) (a_X0_isFull h10) okX0_isFull rfl dX11_write_31 lk_X11_306 sh_22 cl_0 rfl (by decide) (by decide) (Nat.le_of_ble_eq_true rfl) ⟨Nat.le_of_ble_eq_true rfl, Nat.le_of_ble_eq_true rfl⟩ rfl ?_
      show QW G (qrm 1 0 0) YX11_write 0 0 34 [some (.ref 0), some (.int a1), some (.int a2)] [.int (qb b11)] SH M J _
      by_cases k12 : b11 = true
      · rw [if_pos k12] at h
        refine q_if_eq_f (pc := 34) (tgt := 42) dX11_write_34 (by decide) (qb_t k12) ?_
        refine q_ldc (pc := 37) (v := (-1000000004 : Int32)) dX11_write_37 lk_X11_88 ?_
        refine q_goto (pc := 39) (tgt := 51) dX11_write_39 (by decide) ?_
        have h := Option.some.inj h
        obtain ⟨rfl, rfl⟩ := Prod.mk.inj h
        exact q_iret (pc := 51) dX11_write_51 rfl rfl rfl
      · rw [if_neg k12] at h
        refine q_if_eq_t (pc := 34) (tgt := 42) dX11_write_34 (by decide) (qb_f k12) ?_
        refine q_aload_n (pc := 42) dX11_write_42 rfl ?_
        refine q_getf (pc := 43) (f := 9) (v := .ref 22) dX11_write_43 sh_0 cl_10 inX11 rfl (by decide) lk_X11_75 rfl ?_
        refine q_iload_n (pc := 46) dX11_write_46 rfl ?_
        refine q_iload_n (pc := 47) dX11_write_47 rfl ?_
        obtain ⟨⟨r15, M16⟩, h14, h⟩ := Option.bind_eq_some_iff.mp h
        try dsimp only at h
        refine q_callv (pc := 48) (st := []) (a_X0_add h14) okX0_add rfl dX11_write_48 lk_X11_307 sh_22 cl_0 rfl (by decide) (by decide) (Nat.le_of_ble_eq_true rfl) ⟨Nat.le_of_ble_eq_true rfl, Nat.le_of_ble_eq_true rfl⟩ rfl ?_
        show QW G (qrm 1 0 0) YX11_write 0 0 51 [some (.ref 0), some (.int a1), some (.int a2)] [.int r15] SH M16 J _
        have h := Option.some.inj h
        obtain ⟨rfl, rfl⟩ := Prod.mk.inj h
        exact q_iret (pc := 51) dX11_write_51 rfl rfl rfl
  · rw [if_neg k4] at h
    refine q_if_ne_f (pc := 8) (tgt := 14) dX11_write_8 (by decide) (qb_f k4) ?_
    refine q_ldc (pc := 11) (v := (-1000000001 : Int32)) dX11_write_11 lk_X11_165 ?_
    have h := Option.some.inj h
    obtain ⟨rfl, rfl⟩ := Prod.mk.inj h
    exact q_iret (pc := 13) dX11_write_13 rfl rfl rfl
def f_X11_tear  (M : qM) : Option (Int32 × qM) :=
  (f_X9_clear M).bind fun M3 => (f_X0_clear M3).bind fun M6 => some ((M 20 0) + (M 22 0), M6)
set_option maxRecDepth 20000 in
set_option maxHeartbeats 4000000 in
theorem a_X11_tear {G : qG}  {M : qM} {J : qJ} {r : Int32} {M' : qM} (h : f_X11_tear  M = some (r, M')) : QM G 1 0 0 YX11_tear [.ref 0] SH M J (some (.int r), SH, M', J) := by
  refine ⟨Nat.le_of_ble_eq_true rfl, Or.inl rfl, ?_⟩
  show QW G (qrm 1 0 0) YX11_tear 0 0 0 [some (.ref 0), none] [] SH M J _
  unfold f_X11_tear at h
  refine q_aload_n (pc := 0) dX11_tear_0 rfl ?_
  refine q_getf (pc := 1) (f := 8) (v := .ref 20) dX11_tear_1 sh_0 cl_10 inX11 rfl (by decide) lk_X11_68 rfl ?_
  refine q_getf (pc := 4) (f := 0) (v := .int (M 20 0)) dX11_tear_4 sh_20 cl_9 inX9 rfl (by decide) lk_X11_156 rfl ?_
  refine q_aload_n (pc := 7) dX11_tear_7 rfl ?_
  refine q_getf (pc := 8) (f := 9) (v := .ref 22) dX11_tear_8 sh_0 cl_10 inX11 rfl (by decide) lk_X11_75 rfl ?_
  refine q_getf (pc := 11) (f := 0) (v := .int (M 22 0)) dX11_tear_11 sh_22 cl_0 inX0 rfl (by decide) lk_X11_159 rfl ?_
  refine q_iadd (pc := 14) dX11_tear_14 ?_
  refine q_istore_n (pc := 15) (ls' := [some (.ref 0), some (.int ((M 20 0) + (M 22 0)))]) dX11_tear_15 (by decide) rfl rfl ?_
  refine q_aload_n (pc := 16) dX11_tear_16 rfl ?_
  refine q_getf (pc := 17) (f := 8) (v := .ref 20) dX11_tear_17 sh_0 cl_10 inX11 rfl (by decide) lk_X11_68 rfl ?_
  obtain ⟨M3, h2, h⟩ := Option.bind_eq_some_iff.mp h
  refine q_callv (pc := 20) (st := []) (a_X9_clear h2) okX9_clear rfl dX11_tear_20 lk_X11_112 sh_20 cl_9 rfl (by decide) (by decide) (Nat.le_of_ble_eq_true rfl) ⟨Nat.le_of_ble_eq_true rfl, Nat.le_of_ble_eq_true rfl⟩ rfl ?_
  show QW G (qrm 1 0 0) YX11_tear 0 0 23 [some (.ref 0), some (.int ((M 20 0) + (M 22 0)))] [] SH M3 J _
  refine q_aload_n (pc := 23) dX11_tear_23 rfl ?_
  refine q_getf (pc := 24) (f := 9) (v := .ref 22) dX11_tear_24 sh_0 cl_10 inX11 rfl (by decide) lk_X11_75 rfl ?_
  obtain ⟨M6, h5, h⟩ := Option.bind_eq_some_iff.mp h
  refine q_callv (pc := 27) (st := []) (a_X0_clear h5) okX0_clear rfl dX11_tear_27 lk_X11_115 sh_22 cl_0 rfl (by decide) (by decide) (Nat.le_of_ble_eq_true rfl) ⟨Nat.le_of_ble_eq_true rfl, Nat.le_of_ble_eq_true rfl⟩ rfl ?_
  show QW G (qrm 1 0 0) YX11_tear 0 0 30 [some (.ref 0), some (.int ((M 20 0) + (M 22 0)))] [] SH M6 J _
  refine q_iload_n (pc := 30) dX11_tear_30 rfl ?_
  have h := Option.some.inj h
  obtain ⟨rfl, rfl⟩ := Prod.mk.inj h
  exact q_iret (pc := 31) dX11_tear_31 rfl rfl rfl
def f_X0_firstWrong_L2  (M : qM) : Nat → Int32 → Option ((Int32) ⊕ (Int32))
  | 0, _ => none
  | n + 1, c2 =>
  if (M 22 0) ≤ c2 then some (.inr (c2))
    else (qrd M 23 15 c2).bind fun v2 => (f_X5_answer v2 M).bind fun r6 => (qrd M 24 15 c2).bind fun v7 => if r6 = v7 then f_X0_firstWrong_L2  M n (c2 + nI 1)
    else some (.inl (c2))
set_option maxRecDepth 20000 in
set_option maxHeartbeats 4000000 in
theorem l_X0_firstWrong_L2 {G : qG} {ρ : qR}  (M : qM) (J : qJ) : ∀ (n : Nat) (c2 : Int32) (res : (Int32) ⊕ (Int32)), f_X0_firstWrong_L2  M n c2 = some res → (∀ x : Int32, res = .inr x → QW G (qrm 1 0 0) YX0_firstWrong 0 0 37 [none, none, none] [] SH M J ρ) → (∀ r : Int32, res = .inl r → (some (.int r), SH, M, J) = ρ) → QW G (qrm 1 0 0) YX0_firstWrong 0 0 2 [some (.ref 22), some (.ref 1), some (.int c2)] [] SH M J ρ
  | 0, _, _, h, _, _ => by simp [f_X0_firstWrong_L2] at h
  | n + 1, c2, res, h, hk, hr => by
    rw [f_X0_firstWrong_L2] at h
    refine q_iload_n (pc := 2) dX0_firstWrong_2 rfl ?_
    refine q_aload_n (pc := 3) dX0_firstWrong_3 rfl ?_
    refine q_getf (pc := 4) (f := 0) (v := .int (M 22 0)) dX0_firstWrong_4 sh_22 cl_0 inX0 rfl (by decide) lk_X0_9 rfl ?_
    by_cases k1 : (M 22 0) ≤ c2
    · rw [if_pos k1] at h
      refine q_icmp_ge_t (pc := 7) (tgt := 37) dX0_firstWrong_7 (by decide) k1 ?_
      refine q_weak (ls' := [none, none, none]) trivial ?_
      obtain rfl := Option.some.inj h
      exact hk (c2) rfl
    · rw [if_neg k1] at h
      refine q_icmp_ge_f (pc := 7) (tgt := 37) dX0_firstWrong_7 (by decide) k1 ?_
      refine q_aload_n (pc := 10) dX0_firstWrong_10 rfl ?_
      refine q_aload_n (pc := 11) dX0_firstWrong_11 rfl ?_
      refine q_getf (pc := 12) (f := 1) (v := .ref 23) dX0_firstWrong_12 sh_22 cl_0 inX0 rfl (by decide) lk_X0_15 rfl ?_
      refine q_iload_n (pc := 15) dX0_firstWrong_15 rfl ?_
      obtain ⟨v2, h3, h⟩ := Option.bind_eq_some_iff.mp h
      refine q_iald (pc := 16) dX0_firstWrong_16 sh_23 h3 ?_
      obtain ⟨r6, h5, h⟩ := Option.bind_eq_some_iff.mp h
      refine q_callv (pc := 17) (st := []) (a_X5_answer h5) okX5_answer rfl dX0_firstWrong_17 lk_X0_22 sh_1 cl_5 rfl (by decide) (by decide) (Nat.le_of_ble_eq_true rfl) ⟨Nat.le_of_ble_eq_true rfl, Nat.le_of_ble_eq_true rfl⟩ rfl ?_
      show QW G (qrm 1 0 0) YX0_firstWrong 0 0 20 [some (.ref 22), some (.ref 1), some (.int c2)] [.int r6] SH M J _
      refine q_aload_n (pc := 20) dX0_firstWrong_20 rfl ?_
      refine q_getf (pc := 21) (f := 2) (v := .ref 24) dX0_firstWrong_21 sh_22 cl_0 inX0 rfl (by decide) lk_X0_19 rfl ?_
      refine q_iload_n (pc := 24) dX0_firstWrong_24 rfl ?_
      obtain ⟨v7, h8, h⟩ := Option.bind_eq_some_iff.mp h
      refine q_iald (pc := 25) dX0_firstWrong_25 sh_24 h8 ?_
      by_cases k9 : r6 = v7
      · rw [if_pos k9] at h
        refine q_icmp_eq_t (pc := 26) (tgt := 31) dX0_firstWrong_26 (by decide) k9 ?_
        refine q_iincW (pc := 31) (w := nI 1) (ls' := [some (.ref 22), some (.ref 1), some (.int (c2 + nI 1))]) dX0_firstWrong_31 rfl (by decide) (by decide) rfl rfl ?_
        refine q_goto (pc := 34) (tgt := 2) dX0_firstWrong_34 (by decide) ?_
        exact l_X0_firstWrong_L2  M J n (c2 + nI 1) res h hk hr
      · rw [if_neg k9] at h
        refine q_icmp_eq_f (pc := 26) (tgt := 31) dX0_firstWrong_26 (by decide) k9 ?_
        refine q_iload_n (pc := 29) dX0_firstWrong_29 rfl ?_
        obtain rfl := Option.some.inj h
        exact q_iret (pc := 30) dX0_firstWrong_30 rfl rfl (hr (c2) rfl)
def f_X0_firstWrong  (M : qM) : Option Int32 :=
  (f_X0_firstWrong_L2 M qF (nI 0)).bind fun e10 => Sum.elim some (fun e10 => some ((-1 : Int32))) e10
set_option maxRecDepth 20000 in
set_option maxHeartbeats 4000000 in
theorem a_X0_firstWrong {G : qG}  {M : qM} {J : qJ} {r : Int32} (h : f_X0_firstWrong  M = some (r)) : QM G 1 0 0 YX0_firstWrong [.ref 22, .ref 1] SH M J (some (.int r), SH, M, J) := by
  refine ⟨Nat.le_of_ble_eq_true rfl, Or.inl rfl, ?_⟩
  show QW G (qrm 1 0 0) YX0_firstWrong 0 0 0 [some (.ref 22), some (.ref 1), none] [] SH M J _
  unfold f_X0_firstWrong at h
  refine q_iconst (pc := 0) (v := nI 0) dX0_firstWrong_0 (by decide) ?_
  refine q_istore_n (pc := 1) (ls' := [some (.ref 22), some (.ref 1), some (.int (nI 0))]) dX0_firstWrong_1 (by decide) rfl rfl ?_
  obtain ⟨e10, h11, h⟩ := Option.bind_eq_some_iff.mp h
  rcases e10 with r | e10_2
  · simp only [Sum.elim_inl] at h
    obtain rfl := Option.some.inj h
    exact l_X0_firstWrong_L2 M J qF (nI 0) _ h11 (fun x hx => by cases hx) (fun r2 hx => by have hx := Sum.inl.inj hx; subst hx; rfl)
  · simp only [Sum.elim_inr] at h
    refine l_X0_firstWrong_L2 M J qF (nI 0) _ h11 (fun x hx => ?_) (fun r hx => by cases hx)
    have hx := Sum.inr.inj hx
    subst hx
    show QW G (qrm 1 0 0) YX0_firstWrong 0 0 37 [none, none, none] [] SH M J _
    refine q_iconst (pc := 37) (v := (-1 : Int32)) dX0_firstWrong_37 (by decide) ?_
    obtain rfl := Option.some.inj h
    exact q_iret (pc := 38) dX0_firstWrong_38 rfl rfl rfl
def f_X11_judge  (M : qM) : Option Int32 :=
  (f_X0_firstWrong M).bind fun r3 => some (r3)
set_option maxRecDepth 20000 in
set_option maxHeartbeats 4000000 in
theorem a_X11_judge {G : qG}  {M : qM} {J : qJ} {r : Int32} (h : f_X11_judge  M = some (r)) : QM G 2 0 0 YX11_judge [.ref 0] SH M J (some (.int r), SH, M, J) := by
  refine ⟨Nat.le_of_ble_eq_true rfl, Or.inl rfl, ?_⟩
  show QW G (qrm 2 0 0) YX11_judge 0 0 0 [some (.ref 0)] [] SH M J _
  unfold f_X11_judge at h
  refine q_aload_n (pc := 0) dX11_judge_0 rfl ?_
  refine q_getf (pc := 1) (f := 9) (v := .ref 22) dX11_judge_1 sh_0 cl_10 inX11 rfl (by decide) lk_X11_75 rfl ?_
  refine q_aload_n (pc := 4) dX11_judge_4 rfl ?_
  refine q_getf (pc := 5) (f := 0) (v := .ref 1) dX11_judge_5 sh_0 cl_10 inX11 rfl (by decide) lk_X11_10 rfl ?_
  obtain ⟨r3, h2, h⟩ := Option.bind_eq_some_iff.mp h
  refine q_callv (pc := 8) (st := []) (a_X0_firstWrong h2) okX0_firstWrong rfl dX11_judge_8 lk_X11_309 sh_22 cl_0 rfl (by decide) (by decide) (Nat.le_of_ble_eq_true rfl) ⟨Nat.le_of_ble_eq_true rfl, Nat.le_of_ble_eq_true rfl⟩ rfl ?_
  show QW G (qrm 2 0 0) YX11_judge 0 0 11 [some (.ref 0)] [.int r3] SH M J _
  obtain rfl := Option.some.inj h
  exact q_iret (pc := 11) dX11_judge_11 rfl rfl rfl
def f_X11_seed (a1 : Int32) (M : qM) : Option (Int32 × qM) :=
  if 0 ≤ a1 then (qpu M 12 0 a1).bind fun M2 => some (M 12 0, M2)
    else some ((-1000000002 : Int32), M)
set_option maxRecDepth 20000 in
set_option maxHeartbeats 4000000 in
theorem a_X11_seed {G : qG} {a1 : Int32} {M : qM} {J : qJ} {r : Int32} {M' : qM} (h : f_X11_seed a1 M = some (r, M')) : QM G 0 0 0 YX11_seed [.ref 0, .int a1] SH M J (some (.int r), SH, M', J) := by
  refine ⟨Nat.le_of_ble_eq_true rfl, Or.inl rfl, ?_⟩
  show QW G (qrm 0 0 0) YX11_seed 0 0 0 [some (.ref 0), some (.int a1), none] [] SH M J _
  unfold f_X11_seed at h
  refine q_iload_n (pc := 0) dX11_seed_0 rfl ?_
  by_cases k1 : 0 ≤ a1
  · rw [if_pos k1] at h
    refine q_if_ge_t (pc := 1) (tgt := 7) dX11_seed_1 (by decide) k1 ?_
    refine q_aload_n (pc := 7) dX11_seed_7 rfl ?_
    refine q_getf (pc := 8) (f := 4) (v := .ref 12) dX11_seed_8 sh_0 cl_10 inX11 rfl (by decide) lk_X11_40 rfl ?_
    refine q_getf (pc := 11) (f := 0) (v := .int (M 12 0)) dX11_seed_11 sh_12 cl_2 inX2 rfl (by decide) lk_X11_312 rfl ?_
    refine q_istore_n (pc := 14) (ls' := [some (.ref 0), some (.int a1), some (.int (M 12 0))]) dX11_seed_14 (by decide) rfl rfl ?_
    refine q_aload_n (pc := 15) dX11_seed_15 rfl ?_
    refine q_getf (pc := 16) (f := 4) (v := .ref 12) dX11_seed_16 sh_0 cl_10 inX11 rfl (by decide) lk_X11_40 rfl ?_
    refine q_iload_n (pc := 19) dX11_seed_19 rfl ?_
    obtain ⟨M2, h3, h⟩ := Option.bind_eq_some_iff.mp h
    refine q_putI (pc := 20) (f := 0) tyX2 dX11_seed_20 sh_12 cl_2 inX2 tyX2_ok nmX2 rfl (by decide) lk_X11_312 rfl rfl rfl h3 ?_
    refine q_iload_n (pc := 23) dX11_seed_23 rfl ?_
    have h := Option.some.inj h
    obtain ⟨rfl, rfl⟩ := Prod.mk.inj h
    exact q_iret (pc := 24) dX11_seed_24 rfl rfl rfl
  · rw [if_neg k1] at h
    refine q_if_ge_f (pc := 1) (tgt := 7) dX11_seed_1 (by decide) k1 ?_
    refine q_ldc (pc := 4) (v := (-1000000002 : Int32)) dX11_seed_4 lk_X11_83 ?_
    have h := Option.some.inj h
    obtain ⟨rfl, rfl⟩ := Prod.mk.inj h
    exact q_iret (pc := 6) dX11_seed_6 rfl rfl rfl
def f_X5_copyTo_at1_10 (a2 : Int32) (M : qM) : Option qM :=
  (qco M 2 10 172 344 (nI 0) a2 (nI 172)).bind fun M1 => some (M1)
set_option maxRecDepth 20000 in
set_option maxHeartbeats 4000000 in
theorem a_X5_copyTo_at1_10 {G : qG} {a2 : Int32} {M : qM} {J : qJ} {M' : qM} (h : f_X5_copyTo_at1_10 a2 M = some (M')) : QM G 1 0 0 YX5_copyTo [.ref 1, .ref 10, .int a2] SH M J (none, SH, M', J) := by
  refine ⟨Nat.le_of_ble_eq_true rfl, rfl, ?_⟩
  show QW G (qrm 1 0 0) YX5_copyTo 0 0 0 [some (.ref 1), some (.ref 10), some (.int a2)] [] SH M J _
  unfold f_X5_copyTo_at1_10 at h
  refine q_aload_n (pc := 0) dX5_copyTo_0 rfl ?_
  refine q_getf (pc := 1) (f := 0) (v := .ref 2) dX5_copyTo_1 sh_1 cl_5 inX5 rfl (by decide) lk_X5_11 rfl ?_
  refine q_iconst (pc := 4) (v := nI 0) dX5_copyTo_4 (by decide) ?_
  refine q_aload_n (pc := 5) dX5_copyTo_5 rfl ?_
  refine q_iload_n (pc := 6) dX5_copyTo_6 rfl ?_
  refine q_sipush (pc := 7) (v := nI 172) dX5_copyTo_7 (by decide) ?_
  obtain ⟨M1, h2, h⟩ := Option.bind_eq_some_iff.mp h
  refine q_copy (pc := 10) dX5_copyTo_10 lk_X5_21 sh_2 sh_10 h2 (by decide) (Nat.le_of_ble_eq_true rfl) ?_
  obtain rfl := Option.some.inj h
  exact q_vret (pc := 13) dX5_copyTo_13 rfl rfl rfl
def f_X3_store (a1 : Int32) (a3 : Int32) (M : qM) : Option qM :=
  (f_X5_copyTo_at1_10 (a1 * (nI 172)) M).bind fun M3 => (qwr M3 11 2 a1 a3).bind fun M4 => (qpu M4 9 2 ((M4 9 2) ||| ((nI 1) <<< (a1 &&& 31)))).bind fun M6 => some (M6)
set_option maxRecDepth 20000 in
set_option maxHeartbeats 4000000 in
theorem a_X3_store {G : qG} {a1 : Int32} {a3 : Int32} {M : qM} {J : qJ} {M' : qM} (h : f_X3_store a1 a3 M = some (M')) : QM G 2 0 0 YX3_store [.ref 9, .int a1, .ref 1, .int a3] SH M J (none, SH, M', J) := by
  refine ⟨Nat.le_of_ble_eq_true rfl, rfl, ?_⟩
  show QW G (qrm 2 0 0) YX3_store 0 0 0 [some (.ref 9), some (.int a1), some (.ref 1), some (.int a3)] [] SH M J _
  unfold f_X3_store at h
  refine q_aload_n (pc := 0) dX3_store_0 rfl ?_
  refine q_aload_n (pc := 1) dX3_store_1 rfl ?_
  refine q_getf (pc := 2) (f := 0) (v := .ref 10) dX3_store_2 sh_9 cl_3 inX3 rfl (by decide) lk_X3_11 rfl ?_
  refine q_iload_n (pc := 5) dX3_store_5 rfl ?_
  refine q_sipush (pc := 6) (v := nI 172) dX3_store_6 (by decide) ?_
  refine q_imul (pc := 9) dX3_store_9 ?_
  obtain ⟨M3, h2, h⟩ := Option.bind_eq_some_iff.mp h
  refine q_callv (pc := 10) (st := []) (a_X5_copyTo_at1_10 h2) okX5_copyTo rfl dX3_store_10 lk_X3_22 sh_1 cl_5 rfl (by decide) (by decide) (Nat.le_of_ble_eq_true rfl) ⟨Nat.le_of_ble_eq_true rfl, Nat.le_of_ble_eq_true rfl⟩ rfl ?_
  show QW G (qrm 2 0 0) YX3_store 0 0 13 [some (.ref 9), some (.int a1), some (.ref 1), some (.int a3)] [] SH M3 J _
  refine q_aload_n (pc := 13) dX3_store_13 rfl ?_
  refine q_getf (pc := 14) (f := 1) (v := .ref 11) dX3_store_14 sh_9 cl_3 inX3 rfl (by decide) lk_X3_15 rfl ?_
  refine q_iload_n (pc := 17) dX3_store_17 rfl ?_
  refine q_iload_n (pc := 18) dX3_store_18 rfl ?_
  obtain ⟨M4, h5, h⟩ := Option.bind_eq_some_iff.mp h
  refine q_iast (pc := 19) dX3_store_19 sh_11 h5 ?_
  refine q_aload_n (pc := 20) dX3_store_20 rfl ?_
  refine q_dup (pc := 21) dX3_store_21 rfl ?_
  refine q_getf (pc := 22) (f := 2) (v := .int (M4 9 2)) dX3_store_22 sh_9 cl_3 inX3 rfl (by decide) lk_X3_18 rfl ?_
  refine q_iconst (pc := 25) (v := nI 1) dX3_store_25 (by decide) ?_
  refine q_iload_n (pc := 26) dX3_store_26 rfl ?_
  refine q_ishl (pc := 27) dX3_store_27 ?_
  refine q_ior (pc := 28) dX3_store_28 ?_
  obtain ⟨M6, h7, h⟩ := Option.bind_eq_some_iff.mp h
  refine q_putI (pc := 29) (f := 2) tyX3 dX3_store_29 sh_9 cl_3 inX3 tyX3_ok nmX3 rfl (by decide) lk_X3_18 rfl rfl rfl h7 ?_
  obtain rfl := Option.some.inj h
  exact q_vret (pc := 32) dX3_store_32 rfl rfl rfl
def f_X11_keep (a1 : Int32) (M : qM) : Option (Int32 × qM) :=
  (f_X11_isOutside a1 (nI 0) (nI 1) M).bind fun b3 => if b3 = true then some ((-1000000001 : Int32), M)
    else (f_X3_store a1 (M 12 0) M).bind fun M7 => (f_X6_forget M7).bind fun M10 => some (nI 1, M10)
set_option maxRecDepth 20000 in
set_option maxHeartbeats 4000000 in
theorem a_X11_keep {G : qG} {a1 : Int32} {M : qM} {J : qJ} {r : Int32} {M' : qM} (h : f_X11_keep a1 M = some (r, M')) : QM G 3 0 0 YX11_keep [.ref 0, .int a1] SH M J (some (.int r), SH, M', J) := by
  refine ⟨Nat.le_of_ble_eq_true rfl, Or.inl rfl, ?_⟩
  show QW G (qrm 3 0 0) YX11_keep 0 0 0 [some (.ref 0), some (.int a1)] [] SH M J _
  unfold f_X11_keep at h
  refine q_iload_n (pc := 0) dX11_keep_0 rfl ?_
  refine q_iconst (pc := 1) (v := nI 0) dX11_keep_1 (by decide) ?_
  refine q_iconst (pc := 2) (v := nI 1) dX11_keep_2 (by decide) ?_
  obtain ⟨b3, h2, h⟩ := Option.bind_eq_some_iff.mp h
  refine q_calls (pc := 3) (st := []) (a_X11_isOutside h2) okX11_isOutside rfl dX11_keep_3 lk_X11_79 rfl (by decide) (by decide) (Nat.le_of_ble_eq_true rfl) ⟨Nat.le_of_ble_eq_true rfl, Nat.le_of_ble_eq_true rfl⟩ rfl ?_
  show QW G (qrm 3 0 0) YX11_keep 0 0 6 [some (.ref 0), some (.int a1)] [.int (qb b3)] SH M J _
  by_cases k4 : b3 = true
  · rw [if_pos k4] at h
    refine q_if_eq_f (pc := 6) (tgt := 12) dX11_keep_6 (by decide) (qb_t k4) ?_
    refine q_ldc (pc := 9) (v := (-1000000001 : Int32)) dX11_keep_9 lk_X11_165 ?_
    have h := Option.some.inj h
    obtain ⟨rfl, rfl⟩ := Prod.mk.inj h
    exact q_iret (pc := 11) dX11_keep_11 rfl rfl rfl
  · rw [if_neg k4] at h
    refine q_if_eq_t (pc := 6) (tgt := 12) dX11_keep_6 (by decide) (qb_f k4) ?_
    refine q_aload_n (pc := 12) dX11_keep_12 rfl ?_
    refine q_getf (pc := 13) (f := 3) (v := .ref 9) dX11_keep_13 sh_0 cl_10 inX11 rfl (by decide) lk_X11_33 rfl ?_
    refine q_iload_n (pc := 16) dX11_keep_16 rfl ?_
    refine q_aload_n (pc := 17) dX11_keep_17 rfl ?_
    refine q_getf (pc := 18) (f := 0) (v := .ref 1) dX11_keep_18 sh_0 cl_10 inX11 rfl (by decide) lk_X11_10 rfl ?_
    refine q_aload_n (pc := 21) dX11_keep_21 rfl ?_
    refine q_getf (pc := 22) (f := 4) (v := .ref 12) dX11_keep_22 sh_0 cl_10 inX11 rfl (by decide) lk_X11_40 rfl ?_
    refine q_getf (pc := 25) (f := 0) (v := .int (M 12 0)) dX11_keep_25 sh_12 cl_2 inX2 rfl (by decide) lk_X11_312 rfl ?_
    obtain ⟨M7, h6, h⟩ := Option.bind_eq_some_iff.mp h
    refine q_callv (pc := 28) (st := []) (a_X3_store h6) okX3_store rfl dX11_keep_28 lk_X11_315 sh_9 cl_3 rfl (by decide) (by decide) (Nat.le_of_ble_eq_true rfl) ⟨Nat.le_of_ble_eq_true rfl, Nat.le_of_ble_eq_true rfl⟩ rfl ?_
    show QW G (qrm 3 0 0) YX11_keep 0 0 31 [some (.ref 0), some (.int a1)] [] SH M7 J _
    refine q_aload_n (pc := 31) dX11_keep_31 rfl ?_
    refine q_getf (pc := 32) (f := 2) (v := .ref 7) dX11_keep_32 sh_0 cl_10 inX11 rfl (by decide) lk_X11_26 rfl ?_
    obtain ⟨M10, h9, h⟩ := Option.bind_eq_some_iff.mp h
    refine q_callv (pc := 35) (st := []) (a_X6_forget h9) okX6_forget rfl dX11_keep_35 lk_X11_108 sh_7 cl_6 rfl (by decide) (by decide) (Nat.le_of_ble_eq_true rfl) ⟨Nat.le_of_ble_eq_true rfl, Nat.le_of_ble_eq_true rfl⟩ rfl ?_
    show QW G (qrm 3 0 0) YX11_keep 0 0 38 [some (.ref 0), some (.int a1)] [] SH M10 J _
    refine q_iconst (pc := 38) (v := nI 1) dX11_keep_38 (by decide) ?_
    have h := Option.some.inj h
    obtain ⟨rfl, rfl⟩ := Prod.mk.inj h
    exact q_iret (pc := 39) dX11_keep_39 rfl rfl rfl
def f_X3_isKept (a1 : Int32) (M : qM) : Option Bool :=
  if (((M 9 2) >>> (a1 &&& 31)) &&& (nI 1)) = (nI 1) then some (true)
    else some (false)
set_option maxRecDepth 20000 in
set_option maxHeartbeats 4000000 in
theorem a_X3_isKept {G : qG} {a1 : Int32} {M : qM} {J : qJ} {r : Bool} (h : f_X3_isKept a1 M = some (r)) : QM G 0 0 0 YX3_isKept [.ref 9, .int a1] SH M J (some (.int (qb r)), SH, M, J) := by
  refine ⟨Nat.le_of_ble_eq_true rfl, Or.inr ⟨rfl, _, rfl⟩, ?_⟩
  show QW G (qrm 0 0 0) YX3_isKept 0 0 0 [some (.ref 9), some (.int a1)] [] SH M J _
  unfold f_X3_isKept at h
  refine q_aload_n (pc := 0) dX3_isKept_0 rfl ?_
  refine q_getf (pc := 1) (f := 2) (v := .int (M 9 2)) dX3_isKept_1 sh_9 cl_3 inX3 rfl (by decide) lk_X3_18 rfl ?_
  refine q_iload_n (pc := 4) dX3_isKept_4 rfl ?_
  refine q_ishr (pc := 5) dX3_isKept_5 ?_
  refine q_iconst (pc := 6) (v := nI 1) dX3_isKept_6 (by decide) ?_
  refine q_iand (pc := 7) dX3_isKept_7 ?_
  refine q_iconst (pc := 8) (v := nI 1) dX3_isKept_8 (by decide) ?_
  by_cases k1 : (((M 9 2) >>> (a1 &&& 31)) &&& (nI 1)) = (nI 1)
  · rw [if_pos k1] at h
    refine q_icmp_ne_f (pc := 9) (tgt := 16) dX3_isKept_9 (by decide) k1 ?_
    refine q_iconst (pc := 12) (v := nI 1) dX3_isKept_12 (by decide) ?_
    refine q_goto (pc := 13) (tgt := 17) dX3_isKept_13 (by decide) ?_
    obtain rfl := Option.some.inj h
    exact q_iret (pc := 17) dX3_isKept_17 rfl rfl rfl
  · rw [if_neg k1] at h
    refine q_icmp_ne_t (pc := 9) (tgt := 16) dX3_isKept_9 (by decide) k1 ?_
    refine q_iconst (pc := 16) (v := nI 0) dX3_isKept_16 (by decide) ?_
    obtain rfl := Option.some.inj h
    exact q_iret (pc := 17) dX3_isKept_17 rfl rfl rfl
def f_X5_copyFrom_at1_10 (a2 : Int32) (M : qM) : Option qM :=
  (qco M 10 2 344 172 a2 (nI 0) (nI 172)).bind fun M1 => some (M1)
set_option maxRecDepth 20000 in
set_option maxHeartbeats 4000000 in
theorem a_X5_copyFrom_at1_10 {G : qG} {a2 : Int32} {M : qM} {J : qJ} {M' : qM} (h : f_X5_copyFrom_at1_10 a2 M = some (M')) : QM G 1 0 0 YX5_copyFrom [.ref 1, .ref 10, .int a2] SH M J (none, SH, M', J) := by
  refine ⟨Nat.le_of_ble_eq_true rfl, rfl, ?_⟩
  show QW G (qrm 1 0 0) YX5_copyFrom 0 0 0 [some (.ref 1), some (.ref 10), some (.int a2)] [] SH M J _
  unfold f_X5_copyFrom_at1_10 at h
  refine q_aload_n (pc := 0) dX5_copyFrom_0 rfl ?_
  refine q_iload_n (pc := 1) dX5_copyFrom_1 rfl ?_
  refine q_aload_n (pc := 2) dX5_copyFrom_2 rfl ?_
  refine q_getf (pc := 3) (f := 0) (v := .ref 2) dX5_copyFrom_3 sh_1 cl_5 inX5 rfl (by decide) lk_X5_11 rfl ?_
  refine q_iconst (pc := 6) (v := nI 0) dX5_copyFrom_6 (by decide) ?_
  refine q_sipush (pc := 7) (v := nI 172) dX5_copyFrom_7 (by decide) ?_
  obtain ⟨M1, h2, h⟩ := Option.bind_eq_some_iff.mp h
  refine q_copy (pc := 10) dX5_copyFrom_10 lk_X5_21 sh_10 sh_2 h2 (by decide) (Nat.le_of_ble_eq_true rfl) ?_
  obtain rfl := Option.some.inj h
  exact q_vret (pc := 13) dX5_copyFrom_13 rfl rfl rfl
def f_X3_fetch (a1 : Int32) (M : qM) : Option (Int32 × qM) :=
  (f_X5_copyFrom_at1_10 (a1 * (nI 172)) M).bind fun M3 => (qrd M3 11 2 a1).bind fun v4 => some (v4, M3)
set_option maxRecDepth 20000 in
set_option maxHeartbeats 4000000 in
theorem a_X3_fetch {G : qG} {a1 : Int32} {M : qM} {J : qJ} {r : Int32} {M' : qM} (h : f_X3_fetch a1 M = some (r, M')) : QM G 2 0 0 YX3_fetch [.ref 9, .int a1, .ref 1] SH M J (some (.int r), SH, M', J) := by
  refine ⟨Nat.le_of_ble_eq_true rfl, Or.inl rfl, ?_⟩
  show QW G (qrm 2 0 0) YX3_fetch 0 0 0 [some (.ref 9), some (.int a1), some (.ref 1)] [] SH M J _
  unfold f_X3_fetch at h
  refine q_aload_n (pc := 0) dX3_fetch_0 rfl ?_
  refine q_aload_n (pc := 1) dX3_fetch_1 rfl ?_
  refine q_getf (pc := 2) (f := 0) (v := .ref 10) dX3_fetch_2 sh_9 cl_3 inX3 rfl (by decide) lk_X3_11 rfl ?_
  refine q_iload_n (pc := 5) dX3_fetch_5 rfl ?_
  refine q_sipush (pc := 6) (v := nI 172) dX3_fetch_6 (by decide) ?_
  refine q_imul (pc := 9) dX3_fetch_9 ?_
  obtain ⟨M3, h2, h⟩ := Option.bind_eq_some_iff.mp h
  refine q_callv (pc := 10) (st := []) (a_X5_copyFrom_at1_10 h2) okX5_copyFrom rfl dX3_fetch_10 lk_X3_26 sh_1 cl_5 rfl (by decide) (by decide) (Nat.le_of_ble_eq_true rfl) ⟨Nat.le_of_ble_eq_true rfl, Nat.le_of_ble_eq_true rfl⟩ rfl ?_
  show QW G (qrm 2 0 0) YX3_fetch 0 0 13 [some (.ref 9), some (.int a1), some (.ref 1)] [] SH M3 J _
  refine q_aload_n (pc := 13) dX3_fetch_13 rfl ?_
  refine q_getf (pc := 14) (f := 1) (v := .ref 11) dX3_fetch_14 sh_9 cl_3 inX3 rfl (by decide) lk_X3_15 rfl ?_
  refine q_iload_n (pc := 17) dX3_fetch_17 rfl ?_
  obtain ⟨v4, h5, h⟩ := Option.bind_eq_some_iff.mp h
  refine q_iald (pc := 18) dX3_fetch_18 sh_11 h5 ?_
  have h := Option.some.inj h
  obtain ⟨rfl, rfl⟩ := Prod.mk.inj h
  exact q_iret (pc := 19) dX3_fetch_19 rfl rfl rfl
def f_X11_goBack (a1 : Int32) (M : qM) : Option (Int32 × qM) :=
  (f_X11_isOutside a1 (nI 0) (nI 1) M).bind fun b3 => if b3 = true then some ((-1000000001 : Int32), M)
    else (f_X3_isKept a1 M).bind fun b7 => if b7 = true then (f_X3_fetch a1 M).bind fun p9 => (qpu p9.2 12 0 p9.1).bind fun M13 => (f_X6_forget M13).bind fun M17 => some (nI 1, M17)
    else some ((-1000000003 : Int32), M)
set_option maxRecDepth 20000 in
set_option maxHeartbeats 4000000 in
theorem a_X11_goBack {G : qG} {a1 : Int32} {M : qM} {J : qJ} {r : Int32} {M' : qM} (h : f_X11_goBack a1 M = some (r, M')) : QM G 3 0 0 YX11_goBack [.ref 0, .int a1] SH M J (some (.int r), SH, M', J) := by
  refine ⟨Nat.le_of_ble_eq_true rfl, Or.inl rfl, ?_⟩
  show QW G (qrm 3 0 0) YX11_goBack 0 0 0 [some (.ref 0), some (.int a1)] [] SH M J _
  unfold f_X11_goBack at h
  refine q_iload_n (pc := 0) dX11_goBack_0 rfl ?_
  refine q_iconst (pc := 1) (v := nI 0) dX11_goBack_1 (by decide) ?_
  refine q_iconst (pc := 2) (v := nI 1) dX11_goBack_2 (by decide) ?_
  obtain ⟨b3, h2, h⟩ := Option.bind_eq_some_iff.mp h
  refine q_calls (pc := 3) (st := []) (a_X11_isOutside h2) okX11_isOutside rfl dX11_goBack_3 lk_X11_79 rfl (by decide) (by decide) (Nat.le_of_ble_eq_true rfl) ⟨Nat.le_of_ble_eq_true rfl, Nat.le_of_ble_eq_true rfl⟩ rfl ?_
  show QW G (qrm 3 0 0) YX11_goBack 0 0 6 [some (.ref 0), some (.int a1)] [.int (qb b3)] SH M J _
  by_cases k4 : b3 = true
  · rw [if_pos k4] at h
    refine q_if_eq_f (pc := 6) (tgt := 12) dX11_goBack_6 (by decide) (qb_t k4) ?_
    refine q_ldc (pc := 9) (v := (-1000000001 : Int32)) dX11_goBack_9 lk_X11_165 ?_
    have h := Option.some.inj h
    obtain ⟨rfl, rfl⟩ := Prod.mk.inj h
    exact q_iret (pc := 11) dX11_goBack_11 rfl rfl rfl
  · rw [if_neg k4] at h
    refine q_if_eq_t (pc := 6) (tgt := 12) dX11_goBack_6 (by decide) (qb_f k4) ?_
    refine q_aload_n (pc := 12) dX11_goBack_12 rfl ?_
    refine q_getf (pc := 13) (f := 3) (v := .ref 9) dX11_goBack_13 sh_0 cl_10 inX11 rfl (by decide) lk_X11_33 rfl ?_
    refine q_iload_n (pc := 16) dX11_goBack_16 rfl ?_
    obtain ⟨b7, h6, h⟩ := Option.bind_eq_some_iff.mp h
    refine q_callv (pc := 17) (st := []) (a_X3_isKept h6) okX3_isKept rfl dX11_goBack_17 lk_X11_319 sh_9 cl_3 rfl (by decide) (by decide) (Nat.le_of_ble_eq_true rfl) ⟨Nat.le_of_ble_eq_true rfl, Nat.le_of_ble_eq_true rfl⟩ rfl ?_
    show QW G (qrm 3 0 0) YX11_goBack 0 0 20 [some (.ref 0), some (.int a1)] [.int (qb b7)] SH M J _
    by_cases k8 : b7 = true
    · rw [if_pos k8] at h
      refine q_if_ne_t (pc := 20) (tgt := 26) dX11_goBack_20 (by decide) (qb_t k8) ?_
      refine q_aload_n (pc := 26) dX11_goBack_26 rfl ?_
      refine q_getf (pc := 27) (f := 4) (v := .ref 12) dX11_goBack_27 sh_0 cl_10 inX11 rfl (by decide) lk_X11_40 rfl ?_
      refine q_aload_n (pc := 30) dX11_goBack_30 rfl ?_
      refine q_getf (pc := 31) (f := 3) (v := .ref 9) dX11_goBack_31 sh_0 cl_10 inX11 rfl (by decide) lk_X11_33 rfl ?_
      refine q_iload_n (pc := 34) dX11_goBack_34 rfl ?_
      refine q_aload_n (pc := 35) dX11_goBack_35 rfl ?_
      refine q_getf (pc := 36) (f := 0) (v := .ref 1) dX11_goBack_36 sh_0 cl_10 inX11 rfl (by decide) lk_X11_10 rfl ?_
      obtain ⟨⟨r11, M12⟩, h10, h⟩ := Option.bind_eq_some_iff.mp h
      try dsimp only at h
      refine q_callv (pc := 39) (st := [.ref 12]) (a_X3_fetch h10) okX3_fetch rfl dX11_goBack_39 lk_X11_322 sh_9 cl_3 rfl (by decide) (by decide) (Nat.le_of_ble_eq_true rfl) ⟨Nat.le_of_ble_eq_true rfl, Nat.le_of_ble_eq_true rfl⟩ rfl ?_
      show QW G (qrm 3 0 0) YX11_goBack 0 0 42 [some (.ref 0), some (.int a1)] [.int r11, .ref 12] SH M12 J _
      obtain ⟨M13, h14, h⟩ := Option.bind_eq_some_iff.mp h
      refine q_putI (pc := 42) (f := 0) tyX2 dX11_goBack_42 sh_12 cl_2 inX2 tyX2_ok nmX2 rfl (by decide) lk_X11_312 rfl rfl rfl h14 ?_
      refine q_aload_n (pc := 45) dX11_goBack_45 rfl ?_
      refine q_getf (pc := 46) (f := 2) (v := .ref 7) dX11_goBack_46 sh_0 cl_10 inX11 rfl (by decide) lk_X11_26 rfl ?_
      obtain ⟨M17, h16, h⟩ := Option.bind_eq_some_iff.mp h
      refine q_callv (pc := 49) (st := []) (a_X6_forget h16) okX6_forget rfl dX11_goBack_49 lk_X11_108 sh_7 cl_6 rfl (by decide) (by decide) (Nat.le_of_ble_eq_true rfl) ⟨Nat.le_of_ble_eq_true rfl, Nat.le_of_ble_eq_true rfl⟩ rfl ?_
      show QW G (qrm 3 0 0) YX11_goBack 0 0 52 [some (.ref 0), some (.int a1)] [] SH M17 J _
      refine q_iconst (pc := 52) (v := nI 1) dX11_goBack_52 (by decide) ?_
      have h := Option.some.inj h
      obtain ⟨rfl, rfl⟩ := Prod.mk.inj h
      exact q_iret (pc := 53) dX11_goBack_53 rfl rfl rfl
    · rw [if_neg k8] at h
      refine q_if_ne_f (pc := 20) (tgt := 26) dX11_goBack_20 (by decide) (qb_f k8) ?_
      refine q_ldc (pc := 23) (v := (-1000000003 : Int32)) dX11_goBack_23 lk_X11_215 ?_
      have h := Option.some.inj h
      obtain ⟨rfl, rfl⟩ := Prod.mk.inj h
      exact q_iret (pc := 25) dX11_goBack_25 rfl rfl rfl
