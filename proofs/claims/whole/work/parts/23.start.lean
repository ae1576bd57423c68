def qM0 : qM := fun _ _ => 0
def qJ0 : qJ := fun _ _ => 0
/-- the law, as a pure function of the script -/
def f_law (xs : Nat → Int32) (xl : Nat) : Option (Bool × qM × qJ) :=
  (f_X11_init_c0 qM0).bind fun M1 => (f_X12_init_c25 M1).bind fun M2 => (f_L_law_L18 xs xl qF (nI 0) M2 qJ0).bind fun e => Sum.elim some (fun e => some (true, e.2.1, e.2.2)) e
set_option maxRecDepth 20000 in
set_option maxHeartbeats 4000000 in
theorem a_law {G : qG} {xs : Nat → Int32} {xl : Nat} (hxs : gx G = xs) (hxl : gL G = xl) {M' : qM} {J' : qJ} (h : f_law xs xl = some (true, M', J')) : QW G room_1 YL_law 0 0 0 [some (.ref 4096), none, none, none] [] [] qM0 qJ0 (some (.int (qb true)), SH, M', J') := by
  unfold f_law at h
  have hz0 : qz 0 qM0 := fun _ _ _ => rfl
  have hj : ∀ q k, qJ0 q k = 0 := fun _ _ => rfl
  refine q_new (pc := 0) (ci := 10) (sh' := [.inr (10, [none, none, none, none, none, none, none, none, none, none])]) tyX11 dL_law_0 cl_10 inX11 tyX11_ok rfl (fun k hk => ⟨rfl, qdef k (by omega) 10 (by decide) hk⟩) lk_L_7 ins_X11 ini_X11 (fun k => hz0 0 (by decide) k) (fun k => hj 0 k) (by decide) (Nat.le_of_ble_eq_true rfl) (Nat.le_of_ble_eq_true rfl) (q := 0) rfl rfl ?_
  show QW G room_1 YL_law 1 10 3 [some (.ref 4096), none, none, none] [.ref 0] [.inr (10, [none, none, none, none, none, none, none, none, none, none])] qM0 qJ0 _
  refine q_dup (pc := 3) dL_law_3 rfl ?_
  obtain ⟨M1, h1, h⟩ := Option.bind_eq_some_iff.mp h
  refine q_calli (pc := 4) (as := []) (st := [.ref 0]) (k_X11_init_c0 (qz_mono (n' := 1) hz0 (by decide)) hj h1) okX11_init rfl dL_law_4 lk_L_9 (by decide) rfl (by decide) (by decide) (Nat.le_of_ble_eq_true rfl) ⟨Nat.le_of_ble_eq_true rfl, Nat.le_of_ble_eq_true rfl⟩ rfl ?_
  have hz1 := z_X11_init_c0 h1 (qz_mono (n' := 1) hz0 (by decide))
  show QW G room_1 YL_law 25 4318 7 [some (.ref 4096), none, none, none] [.ref 0] [.inr (10, [some 1, some 3, some 7, some 9, some 12, some 13, some 16, some 18, some 20, some 22]), .inr (5, [some 2]), .inl (false, 172), .inr (7, [some 4, none, none, some 6, none, none]), .inr (5, [some 5]), .inl (false, 172), .inl (false, 240), .inr (6, [none, none, some 8]), .inl (false, 2752), .inr (3, [some 10, some 11, none]), .inl (false, 344), .inl (false, 2), .inr (2, [none]), .inr (4, [some 14, some 15]), .inl (false, 448), .inl (false, 36), .inr (8, [some 17]), .inl (false, 64), .inr (1, [some 19]), .inl (false, 6), .inr (9, [none, some 21]), .inl (false, 18), .inr (0, [none, some 23, some 24]), .inl (false, 15), .inl (false, 15)] M1 qJ0 _
  refine q_astore_n (pc := 7) (ls' := [some (.ref 4096), some (.ref 0), none, none]) dL_law_7 (by decide) rfl rfl ?_
  refine q_new (pc := 8) (ci := 11) (sh' := [.inr (10, [some 1, some 3, some 7, some 9, some 12, some 13, some 16, some 18, some 20, some 22]), .inr (5, [some 2]), .inl (false, 172), .inr (7, [some 4, none, none, some 6, none, none]), .inr (5, [some 5]), .inl (false, 172), .inl (false, 240), .inr (6, [none, none, some 8]), .inl (false, 2752), .inr (3, [some 10, some 11, none]), .inl (false, 344), .inl (false, 2), .inr (2, [none]), .inr (4, [some 14, some 15]), .inl (false, 448), .inl (false, 36), .inr (8, [some 17]), .inl (false, 64), .inr (1, [some 19]), .inl (false, 6), .inr (9, [none, some 21]), .inl (false, 18), .inr (0, [none, some 23, some 24]), .inl (false, 15), .inl (false, 15), .inr (11, [none, none, none, none, none, none, none, none, none, none, none, none, none, none, none, none, none, none, none, none, none, none, none, none])]) tyX12 dL_law_8 cl_11 inX12 tyX12_ok rfl (fun k hk => ⟨rfl, qdef k (by omega) 11 (by decide) hk⟩) lk_L_10 ins_X12 ini_X12 (fun k => hz1 25 (by decide) k) (fun k => hj 25 k) (by decide) (Nat.le_of_ble_eq_true rfl) (Nat.le_of_ble_eq_true rfl) (q := 25) rfl rfl ?_
  show QW G room_1 YL_law 26 4342 11 [some (.ref 4096), some (.ref 0), none, none] [.ref 25] [.inr (10, [some 1, some 3, some 7, some 9, some 12, some 13, some 16, some 18, some 20, some 22]), .inr (5, [some 2]), .inl (false, 172), .inr (7, [some 4, none, none, some 6, none, none]), .inr (5, [some 5]), .inl (false, 172), .inl (false, 240), .inr (6, [none, none, some 8]), .inl (false, 2752), .inr (3, [some 10, some 11, none]), .inl (false, 344), .inl (false, 2), .inr (2, [none]), .inr (4, [some 14, some 15]), .inl (false, 448), .inl (false, 36), .inr (8, [some 17]), .inl (false, 64), .inr (1, [some 19]), .inl (false, 6), .inr (9, [none, some 21]), .inl (false, 18), .inr (0, [none, some 23, some 24]), .inl (false, 15), .inl (false, 15), .inr (11, [none, none, none, none, none, none, none, none, none, none, none, none, none, none, none, none, none, none, none, none, none, none, none, none])] M1 qJ0 _
  refine q_dup (pc := 11) dL_law_11 rfl ?_
  obtain ⟨M2, h2, h⟩ := Option.bind_eq_some_iff.mp h
  refine q_calli (pc := 12) (as := []) (st := [.ref 25]) (k_X12_init_c25 (qz_mono (n' := 26) hz1 (by decide)) hj h2) okX12_init rfl dL_law_12 lk_L_12 (by decide) rfl (by decide) (by decide) (Nat.le_of_ble_eq_true rfl) ⟨Nat.le_of_ble_eq_true rfl, Nat.le_of_ble_eq_true rfl⟩ rfl ?_
  show QW G room_1 YL_law 38 8462 15 [some (.ref 4096), some (.ref 0), none, none] [.ref 25] SH M2 qJ0 _
  refine q_astore_n (pc := 15) (ls' := [some (.ref 4096), some (.ref 0), some (.ref 25), none]) dL_law_15 (by decide) rfl rfl ?_
  refine q_iconst (pc := 16) (v := nI 0) dL_law_16 (by decide) ?_
  refine q_istore_n (pc := 17) (ls' := [some (.ref 4096), some (.ref 0), some (.ref 25), some (.int (nI 0))]) dL_law_17 (by decide) rfl rfl ?_
  obtain ⟨e, h3, h⟩ := Option.bind_eq_some_iff.mp h
  rcases e with r | ⟨c, M3, J3⟩
  · simp only [Sum.elim_inl] at h
    obtain rfl := Option.some.inj h
    exact l_L_law_L18 hxs hxl qF (nI 0) M2 qJ0 _ h3 (fun x hx => by cases hx) (fun r2 hx => by have hx := Sum.inl.inj hx; subst hx; rfl)
  · simp only [Sum.elim_inr] at h
    refine l_L_law_L18 hxs hxl qF (nI 0) M2 qJ0 _ h3 (fun x hx => ?_) (fun r hx => by cases hx)
    have hx := Sum.inr.inj hx
    subst hx
    show QW G room_1 YL_law 38 8462 1020 [none, none, none, none] [] SH M3 J3 _
    refine q_iconst (pc := 1020) (v := nI 1) dL_law_1020 (by decide) ?_
    have h := Option.some.inj h
    obtain ⟨-, h9⟩ := Prod.mk.inj h
    obtain ⟨rfl, rfl⟩ := Prod.mk.inj h9
    exact q_iret (pc := 1021) dL_law_1021 rfl rfl rfl
/-! THE CLAIM OUT OF ONE WALK OF THE LAW'S BODY. Your part is whole_start (and what it stands on); all else here is the same for every law, but numbers. -/
def R_law : String := "WeddingReasonsLaw"
def lw_P (b : Addr) (xs : List Int32) (args : Array Value) (s : State) : Prop := args = #[.ref b] ∧ s.IntsAt b xs ∧ xs.length ≤ 2048 ∧ (Jvm.Cond.and given_1 narrow_1).before args s = true
def lw_Q (_ : Array Value) (s : State) (o : Outcome) (t : State) : Prop := o = .returned (some (.int 1)) ∧ Framed s o t [] 38 8462
def lw_Z (below : List Frame) (a : Array Value) (s : State) : State → Prop := fun t => ∃ o, t.status = .running ∧ Ended t below o ∧ lw_Q a s o t
/-- the law's own end, with 1 on the stack, nothing written that was there before, its room as the claim has it -/
theorem lw_ret {p : Program} {l : Launch} {e : Env} {s : State} {m : MethodId} {below : List Frame} {meth : Method} {c : Code} {b : Nat} (hx : p.tables.exec = Jvm.exec) (hb : c.code = code) (hr : meth.sig.returnType = ret) (hlocks : meth.locks = false) {pc : Nat} {H : Heap} {ls : Array Slot} (hdg : decode code pc = .ok (.ireturn, 1)) : W p l e room_1 s m #[Value.ref b] below meth c H [] 38 8462 (lw_Z below #[Value.ref b] s) (F0 m pc ls [.int 1]) := by
  intro T hT X
  obtain ⟨fs, hret, hrun, hended, hW, hframe⟩ := X.leave (v := some (.int 1)) (hlocks := hlocks) (fun h => by rw [hr] at h; cases h)
  have hmeth' : T.vm.method? m = some meth := X.method'
  refine ⟨T.setFrames fs, ?_, .returned (some (.int 1)), hrun, hended, rfl, ⟨_, rfl⟩, hW, hframe⟩
  jvm_step X.here [X.here.top, hx, hb, hdg, hmeth', hr, ret, narrow_b1]
  (try refine ⟨rfl, ?_⟩); (try refine ⟨rfl, ?_⟩)
  first | (intro acts; rw [hret _ acts rfl rfl rfl]) | rw [hret _ _ rfl rfl rfl]
  exact Steps.refl _
/-- what holds at the law's entry: the machine, the code, the tables' words (any of lw_tbl by 'hts w (by decide +kernel)'), the script of L ints xs at the cell b, what the Statement gives of the start (any of its parts by flat_of_before) -/
def lw_At (p : Program) (s : State) (m : MethodId) (meth : Method) (c : Code) (b L : Nat) (xs : Nat → Int32) : Prop :=
  p.tables.exec = Jvm.exec ∧ c.code = code ∧ meth.sig.returnType = ret ∧ c.maxLocals = 4 ∧ s.vm.findClass R_law = some m.cls ∧ (∀ w ∈ lw_tbl, w.before #[Value.ref b] s = true) ∧ va_X b L xs s s.heap ∧ b < s.heap.size ∧ meth.locks = false ∧ (Jvm.Cond.and given_1 narrow_1).before #[Value.ref b] s = true
theorem start_of {p : Program} {e : Env} {s : State} {m : MethodId} {below : List Frame} {meth : Method} {c : Code} (l : Launch) {b L : Nat} {xs : Nat → Int32} (C0 : lw_At p s m meth c b L xs) {M' : qM} {J' : qJ} (hf : f_law xs L = some (true, M', J')) : W p l e room_1 s m #[Value.ref b] below meth c s.heap [] 0 0 (lw_Z below #[Value.ref b] s) (entryFrame m ([Value.ref b] : List Value).toArray 4) := by
  obtain ⟨hx, hb, hr, hml, hown, hts, hX, hbl, hlocks, hgv⟩ := id C0
  obtain ⟨c0, i0, hKn0⟩ := u_known (C := RX0) (T := TX0) (N := 3) (n := 3) hts (fun w h => (List.mem_filter.mp (inX0 w h)).1) (hts _ (List.mem_filter.mp ins_X0).1)
  obtain ⟨c1, i1, hKn1⟩ := u_known (C := RX1) (T := TX1) (N := 1) (n := 1) hts (fun w h => (List.mem_filter.mp (inX1 w h)).1) (hts _ (List.mem_filter.mp ins_X1).1)
  obtain ⟨c2, i2, hKn2⟩ := u_known (C := RX2) (T := TX2) (N := 1) (n := 1) hts (fun w h => (List.mem_filter.mp (inX2 w h)).1) (hts _ (List.mem_filter.mp ins_X2).1)
  obtain ⟨c3, i3, hKn3⟩ := u_known (C := RX3) (T := TX3) (N := 3) (n := 3) hts (fun w h => (List.mem_filter.mp (inX3 w h)).1) (hts _ (List.mem_filter.mp ins_X3).1)
  obtain ⟨c4, i4, hKn4⟩ := u_known (C := RX4) (T := TX4) (N := 2) (n := 2) hts (fun w h => (List.mem_filter.mp (inX4 w h)).1) (hts _ (List.mem_filter.mp ins_X4).1)
  obtain ⟨c5, i5, hKn5⟩ := u_known (C := RX5) (T := TX5) (N := 1) (n := 1) hts (fun w h => (List.mem_filter.mp (inX5 w h)).1) (hts _ (List.mem_filter.mp ins_X5).1)
  obtain ⟨c6, i6, hKn6⟩ := u_known (C := RX6) (T := TX6) (N := 3) (n := 3) hts (fun w h => (List.mem_filter.mp (inX6 w h)).1) (hts _ (List.mem_filter.mp ins_X6).1)
  obtain ⟨c7, i7, hKn7⟩ := u_known (C := RX7) (T := TX7) (N := 6) (n := 6) hts (fun w h => (List.mem_filter.mp (inX7 w h)).1) (hts _ (List.mem_filter.mp ins_X7).1)
  obtain ⟨c8, i8, hKn8⟩ := u_known (C := RX8) (T := TX8) (N := 1) (n := 1) hts (fun w h => (List.mem_filter.mp (inX8 w h)).1) (hts _ (List.mem_filter.mp ins_X8).1)
  obtain ⟨c9, i9, hKn9⟩ := u_known (C := RX9) (T := TX9) (N := 2) (n := 2) hts (fun w h => (List.mem_filter.mp (inX9 w h)).1) (hts _ (List.mem_filter.mp ins_X9).1)
  obtain ⟨c10, i10, hKn10⟩ := u_known (C := RX11) (T := TX11) (N := 10) (n := 10) hts (fun w h => (List.mem_filter.mp (inX11 w h)).1) (hts _ (List.mem_filter.mp ins_X11).1)
  obtain ⟨c11, i11, hKn11⟩ := u_known (C := RX12) (T := TX12) (N := 24) (n := 24) hts (fun w h => (List.mem_filter.mp (inX12 w h)).1) (hts _ (List.mem_filter.mp ins_X12).1)
  obtain ⟨dC, dI, hKc⟩ : ∃ (dC : Nat → ClassId) (dI : Nat → Nat → Nat), ∀ (k : Nat) (q : vw_C), vwCl[k]? = some q → u_Kn s q.1 q.2.1 q.2.2 (dC k) (dI k) := by
    refine ⟨fun k => match k with | 0 => c0 | 1 => c1 | 2 => c2 | 3 => c3 | 4 => c4 | 5 => c5 | 6 => c6 | 7 => c7 | 8 => c8 | 9 => c9 | 10 => c10 | _ => c11, fun k => match k with | 0 => i0 | 1 => i1 | 2 => i2 | 3 => i3 | 4 => i4 | 5 => i5 | 6 => i6 | 7 => i7 | 8 => i8 | 9 => i9 | 10 => i10 | _ => i11, ?_⟩
    intro k q hq
    match k, hq with
    | 0, hq => cases hq; exact hKn0
    | 1, hq => cases hq; exact hKn1
    | 2, hq => cases hq; exact hKn2
    | 3, hq => cases hq; exact hKn3
    | 4, hq => cases hq; exact hKn4
    | 5, hq => cases hq; exact hKn5
    | 6, hq => cases hq; exact hKn6
    | 7, hq => cases hq; exact hKn7
    | 8, hq => cases hq; exact hKn8
    | 9, hq => cases hq; exact hKn9
    | 10, hq => cases hq; exact hKn10
    | 11, hq => cases hq; exact hKn11
    | k + 12, hq => simp [vwCl] at hq
  obtain ⟨cI, kI, pI, hI1, hI2, hI3⟩ := Cond.arrayClass_spec (hts _ (List.mem_filter.mp acl_int).1)
  obtain ⟨cZ, kZ, pZ, hZ1, hZ2, hZ3⟩ := Cond.arrayClass_spec (hts _ (List.mem_filter.mp acl_boolean).1)
  have hK : va_K (dC, dI) vwCl [(cI, .int), (cZ, .boolean)] s := by
    refine ⟨hKc, fun k q hq => ?_⟩
    match k, hq with
    | 0, hq => cases hq; exact ⟨fun n z => ⟨fun k h => (by cases h), kI, hI2, pI, hI3⟩, hI1⟩
    | 1, hq => cases hq; exact ⟨fun n z => ⟨fun k h => (by cases h), kZ, hZ2, pZ, hZ3⟩, hZ1⟩
    | k + 2, hq => simp at hq
  rw [lg_entry_eq]
  have hl := lv_entry ([.ref b]) (n := 4) (Nat.le_of_ble_eq_true rfl)
  generalize (lg_sl ([.ref b]) ++ List.replicate (4 - (lg_sl ([.ref b])).length) Slot.unset).toArray = arr at hl ⊢
  have hl : lv_has arr 4 [(0, .ref b)] := hl
  have hA := a_law (G := (l, (dC, dI), (s.heap.size, b, L), xs, (cI, cZ))) rfl rfl hf
  refine hA p e s m _ below meth c s.heap [] arr _ ⟨hx, hb, hml, hr, hlocks, hown, fun w hw => hts w (List.mem_filter.mp hw).1, fun h => absurd h (by decide)⟩ ⟨rfl, Nat.le_refl _⟩ ⟨⟨by decide, hbl⟩, fun k q h => by simp [qw] at h, hK, fun w hw => va_Nw.of rfl (hts _ (qnest_tbl w hw)), hX⟩ va_S.rf ⟨hl.1, hl.2.1, fun i v h => ?_⟩ ?_
  · match i, h with
    | 0, h => simp at h; subst h; exact hl.2.2 _ List.mem_cons_self
    | 1, h => simp at h
    | 2, h => simp at h
    | 3, h => simp at h
    | i + 4, h => simp at h
  · intro H1 locs1 pc1 arr1 hz1 hR1 hS1 hd1
    exact va_forget (fun q hq => hS1.2.2 q hq) (lw_ret hx hb hr hlocks hd1)
