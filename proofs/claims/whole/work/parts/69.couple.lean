theorem setW_eq {M : qM} {w h : Nat → Int32} {c r : Nat} {v : Int32} (hc : c < 6) (hr : r < 5) : f_X5_setWeight_at4 (nI c) (nI r) v (CM M w h) = some (CM M (upd w (24 + c * 5 + r) v) h) := by
  unfold f_X5_setWeight_at4
  rw [pk_mul, nI_add, nI_add, qwr_nI (by omega) (by decide), Option.bind_some, CM_u5]
theorem addC_eq {M : qM} {w h : Nat → Int32} {c : Nat} (h1 : w 1 = nI c) : f_X5_addCouple_at4 (CM M w h) = some (CM M (upd w 1 (nI (c + 1))) h) := by
  unfold f_X5_addCouple_at4
  rw [qrd_nI (by omega) (by decide), CM_5, h1, Option.bind_some, nI_add, qwr_nI (by omega) (by decide), Option.bind_some, CM_u5]
theorem cplC {M : qM} {c r f : Nat} (hr : r < 5) : f_X7_readCouple_L25 (nI c) (f + 1) (nI r) M = if r = 0 then ((f_X7_number (nI 0) (nI 20) M).bind fun p13 => (f_X5_setWeight_at4 (nI c) (nI r) p13.1 p13.2).bind fun M19 => f_X7_readCouple_L25 (nI c) f (nI (r + 1)) M19) else (f_X7_expect (nI 44) M).bind fun M22 => (f_X7_number (nI 0) (nI 20) M22).bind fun p13 => (f_X5_setWeight_at4 (nI c) (nI r) p13.1 p13.2).bind fun M19 => f_X7_readCouple_L25 (nI c) f (nI (r + 1)) M19 := by
  rw [f_X7_readCouple_L25, if_neg (nI_ge hr (by omega)), nI_add]
  by_cases h0 : r = 0
  · subst h0; rw [if_pos (show nI 0 ≤ 0 by decide), if_pos rfl]
  · rw [if_neg (nI_nle (by omega) (by omega)), if_neg h0]
theorem cplM {M : qM} {c r f : Nat} (hr : r < 5) : f_X12_readsCouple_L46 (nI c) (f + 1) (nI r) M = if r = 0 then ((f_X12_number (nI (9 + 5 * c + r)) (nI 0) (nI 20) M).bind fun p19 => if p19.1 = true then f_X12_readsCouple_L46 (nI c) f (nI (r + 1)) p19.2 else some (.inl (false, p19.2))) else (f_X12_step M).bind fun M26 => if (M26 25 18) = (nI 44) then ((f_X12_number (nI (9 + 5 * c + r)) (nI 0) (nI 20) M26).bind fun p19 => if p19.1 = true then f_X12_readsCouple_L46 (nI c) f (nI (r + 1)) p19.2 else some (.inl (false, p19.2))) else (f_X12_fails (nI 1) M26).bind fun p33 => some (.inl (p33.1, p33.2)) := by
  rw [f_X12_readsCouple_L46, if_neg (nI_ge hr (by omega)), nI_add, pk_mul, nI_add, nI_add]
  by_cases h0 : r = 0
  · subst h0; rw [if_pos (show nI 0 ≤ 0 by decide), if_pos rfl]
  · rw [if_neg (nI_nle (by omega) (by omega)), if_neg h0]
theorem cpl_t {T : Nat → Int32} {tx : Nat → Nat} {n fn c : Nat} {fa : Int32} (hT : TXT T tx n) (h0 : 0 < fn) (hfn : fn < 10) (hc : c < 6) : ∀ (m r f p : Nat) (h w : Nat → Int32), r + m = 5 → m < f → p ≤ n → St h n p fn fa → ∃ p' h' w', p' ≤ n ∧ St h' n p' fn fa ∧ w' 1 = w 1 ∧ ∀ M : qM, M 6 = T → f_X7_readCouple_L25 (nI c) f (nI r) (CM M w h) = some (nI 5, CM M w' h')
  | m, r, 0, p, h, w, hr, hf, hp, hs => by omega
  | 0, r, f + 1, p, h, w, hr, hf, hp, hs => by
    have e : r = 5 := by omega
    subst e
    refine ⟨p, h, w, hp, hs, rfl, fun M hM => ?_⟩
    rw [f_X7_readCouple_L25, if_pos (nI_le (Nat.le_refl _) (by omega))]
  | m + 1, r, f + 1, p, h, w, hr, hf, hp, hs => by
    by_cases hr0 : r = 0
    · obtain ⟨v, p1, h1, a1, a2, a3⟩ := num_t (lo := 0) (hi := 20) hT hs hp h0 hfn (by omega) (by omega)
      obtain ⟨p', h', w', b1, b2, b3, b4⟩ := cpl_t hT h0 hfn hc m (r + 1) f p1 h1 (upd w (24 + c * 5 + r) v) (by omega) (by omega) a1 a2
      refine ⟨p', h', w', b1, b2, b3.trans (pk_un (by omega)), fun M hM => ?_⟩
      rw [cplC (by omega), if_pos hr0, a3 M w hM, Option.bind_some, setW_eq hc (by omega), Option.bind_some]
      exact b4 M hM
    · obtain ⟨p0, h2, c1, c2, c3⟩ := exp_t (ch := 44) hT hs hp h0 hfn (by omega)
      obtain ⟨v, p1, h1, a1, a2, a3⟩ := num_t (lo := 0) (hi := 20) hT c2 c1 h0 hfn (by omega) (by omega)
      obtain ⟨p', h', w', b1, b2, b3, b4⟩ := cpl_t hT h0 hfn hc m (r + 1) f p1 h1 (upd w (24 + c * 5 + r) v) (by omega) (by omega) a1 a2
      refine ⟨p', h', w', b1, b2, b3.trans (pk_un (by omega)), fun M hM => ?_⟩
      rw [cplC (by omega), if_neg hr0, c3 M w hM, Option.bind_some, a3 M w hM, Option.bind_some, setW_eq hc (by omega), Option.bind_some]
      exact b4 M hM
def BothL (T U : Nat → Int32) (n p : Nat) (fa : Int32) (w rd g : Nat → Int32) (fc : qM → Option (Int32 × qM)) (fm : qM → Option ((Bool × qM) ⊕ (Int32 × qM))) : Prop :=
  (∃ p' h' g' w' rd', p ≤ p' ∧ p' ≤ n ∧ St h' n p' 0 fa ∧ MS g' g p' ∧ WX w' rd' ∧ (w' 0 = w 0 ∧ w' 1 = w 1 ∧ w' 2 = w 2 ∧ rd' 1 = rd 1 ∧ rd' 2 = rd 2) ∧ (∀ M : qM, M 6 = T → fc M = some (nI 5, CM M w' h')) ∧ ∀ M : qM, M 33 = U → fm M = some (.inr (nI 5, NM M rd' g'))) ∨
  (∃ p' k q h' g' w' rd', 0 < k ∧ k < 10 ∧ p' ≤ n ∧ St h' n p' k (nI q) ∧ MF g' g k q ∧ w' 1 = w 1 ∧ (∀ M : qM, M 6 = T → fc M = some (nI 5, CM M w' h')) ∧ ∀ M : qM, M 33 = U → fm M = some (.inl (false, NM M rd' g')))
theorem BothL_mv {T U : Nat → Int32} {n p p0 : Nat} {fa : Int32} {w rd g g0 : Nat → Int32} {fc : qM → Option (Int32 × qM)} {fm : qM → Option ((Bool × qM) ⊕ (Int32 × qM))} {fc' : qM → Option (Int32 × qM)} {fm' : qM → Option ((Bool × qM) ⊕ (Int32 × qM))} (hp : p0 ≤ p) (hg : ∀ j, j < 16 → g j = g0 j) (h1 : ∀ M : qM, M 6 = T → fc' M = fc M) (h2 : ∀ M : qM, M 33 = U → fm' M = fm M) (h : BothL T U n p fa w rd g fc fm) : BothL T U n p0 fa w rd g0 fc' fm' := by
  rcases h with ⟨p', h', g', w', rd', a1, a2, a3, a4, a5, a6, a7, a8⟩ | ⟨p', k, q, h', g', w', rd', a1, a2, a3, a4, a5, a6, a7, a8⟩
  · exact Or.inl ⟨p', h', g', w', rd', by omega, a2, a3, ⟨a4.1, fun j hj => (a4.2 j hj).trans (hg j hj)⟩, a5, a6, fun M hM => (h1 M hM).trans (a7 M hM), fun M hM => (h2 M hM).trans (a8 M hM)⟩
  · exact Or.inr ⟨p', k, q, h', g', w', rd', a1, a2, a3, a4, ⟨a5.1, a5.2.1, fun j hj => (a5.2.2 j hj).trans (hg j hj)⟩, a6, fun M hM => (h1 M hM).trans (a7 M hM), fun M hM => (h2 M hM).trans (a8 M hM)⟩
theorem cpl_b {T U : Nat → Int32} {tx : Nat → Nat} {n c : Nat} {fa : Int32} (hT : TXT T tx n) (hU : TXT U tx n) (hc : c < 6) : ∀ (m r f f' p : Nat) (h g w rd : Nat → Int32), r + m = 5 → m < f → m < f' → p ≤ n → St h n p 0 fa → g 10 = nI n → g 16 = nI p → WX w rd → BothL T U n p fa w rd g (fun M => f_X7_readCouple_L25 (nI c) f (nI r) (CM M w h)) (fun M => f_X12_readsCouple_L46 (nI c) f' (nI r) (NM M rd g))
  | m, r, 0, f', p, h, g, w, rd, hr, hf, hf', hp, hs, h10, h16, hw => by omega
  | m, r, f, 0, p, h, g, w, rd, hr, hf, hf', hp, hs, h10, h16, hw => by omega
  | 0, r, f + 1, f' + 1, p, h, g, w, rd, hr, hf, hf', hp, hs, h10, h16, hw => by
    have e : r = 5 := by omega
    subst e
    refine Or.inl ⟨p, h, g, w, rd, Nat.le_refl _, hp, hs, ⟨h16, fun _ _ => rfl⟩, hw, ⟨rfl, rfl, rfl, rfl, rfl⟩, fun M hM => ?_, fun M hM => ?_⟩
    · show f_X7_readCouple_L25 _ _ _ _ = _
      rw [f_X7_readCouple_L25, if_pos (nI_le (Nat.le_refl _) (by omega))]
    · show f_X12_readsCouple_L46 _ _ _ _ = _
      rw [f_X12_readsCouple_L46, if_pos (nI_le (Nat.le_refl _) (by omega))]
  | m + 1, r, f + 1, f' + 1, p, h, g, w, rd, hr, hf, hf', hp, hs, h10, h16, hw => by
    have AB : ∀ (p : Nat) (h g : Nat → Int32), p ≤ n → St h n p 0 fa → g 10 = nI n → g 16 = nI p → BothL T U n p fa w rd g (fun M => (f_X7_number (nI 0) (nI 20) (CM M w h)).bind fun p13 => (f_X5_setWeight_at4 (nI c) (nI r) p13.1 p13.2).bind fun M19 => f_X7_readCouple_L25 (nI c) f (nI (r + 1)) M19) (fun M => (f_X12_number (nI (9 + 5 * c + r)) (nI 0) (nI 20) (NM M rd g)).bind fun p19 => if p19.1 = true then f_X12_readsCouple_L46 (nI c) f' (nI (r + 1)) p19.2 else some (.inl (false, p19.2))) := by
      intro p h g hp hs h10 h16
      rcases num_b (lo := 0) (hi := 20) hT hU hs h10 h16 hp (by omega) (by omega) with ⟨v, p1, h1, g1, a1, a2, a3, a4, a5, a6, a7, a8⟩ | ⟨v, p1, k, q, h1, g1, a1, a2, a3, a4, a5, a6, a7⟩
      · have ih := cpl_b hT hU hc m (r + 1) f f' p1 h1 g1 (upd w (24 + c * 5 + r) (nI v)) (upd rd (9 + 5 * c + r) (nI v)) (by omega) (by omega) (by omega) a4 a5 ((a6.2 10 (by omega)).trans h10) a6.1 (WX_u (i0 := 24 + c * 5 + r) (j0 := 9 + 5 * c + r) (B0 := 20) (by unfold PR; omega) a2 hw)
        have q1 : ∀ M : qM, M 6 = T → ((f_X7_number (nI 0) (nI 20) (CM M w h)).bind fun p13 => (f_X5_setWeight_at4 (nI c) (nI r) p13.1 p13.2).bind fun M19 => f_X7_readCouple_L25 (nI c) f (nI (r + 1)) M19) = f_X7_readCouple_L25 (nI c) f (nI (r + 1)) (CM M (upd w (24 + c * 5 + r) (nI v)) h1) := fun M hM => by
          rw [a7 M w hM, Option.bind_some, setW_eq hc (by omega), Option.bind_some]
        have q2 : ∀ M : qM, M 33 = U → ((f_X12_number (nI (9 + 5 * c + r)) (nI 0) (nI 20) (NM M rd g)).bind fun p19 => if p19.1 = true then f_X12_readsCouple_L46 (nI c) f' (nI (r + 1)) p19.2 else some (.inl (false, p19.2))) = f_X12_readsCouple_L46 (nI c) f' (nI (r + 1)) (NM M (upd rd (9 + 5 * c + r) (nI v)) g1) := fun M hM => by
          rw [a8 M rd _ hM (by omega), Option.bind_some, if_pos rfl]
        rcases ih with ⟨p', h', g', w', rd', b1, b2, b3, b4, b5, b6, b7, b8⟩ | ⟨p', k, q, h', g', w', rd', b1, b2, b3, b4, b5, b6, b7, b8⟩
        · refine Or.inl ⟨p', h', g', w', rd', by omega, b2, b3, MS_t a6 b4, b5, ⟨?_, ?_, ?_, ?_, ?_⟩, fun M hM => (q1 M hM).trans (b7 M hM), fun M hM => (q2 M hM).trans (b8 M hM)⟩
          · exact b6.1.trans (pk_un (by omega))
          · exact b6.2.1.trans (pk_un (by omega))
          · exact b6.2.2.1.trans (pk_un (by omega))
          · exact b6.2.2.2.1.trans (pk_un (by omega))
          · exact b6.2.2.2.2.trans (pk_un (by omega))
        · exact Or.inr ⟨p', k, q, h', g', w', rd', b1, b2, b3, b4, MF_t a6 b5, b6.trans (pk_un (by omega)), fun M hM => (q1 M hM).trans (b7 M hM), fun M hM => (q2 M hM).trans (b8 M hM)⟩
      · obtain ⟨p', h', w', b1, b2, b3, b4⟩ := cpl_t hT a1 a2 hc m (r + 1) f p1 h1 (upd w (24 + c * 5 + r) v) (by omega) (by omega) a3 a4
        refine Or.inr ⟨p', k, q, h', g1, w', rd, a1, a2, b1, b2, a5, b3.trans (pk_un (by omega)), fun M hM => ?_, fun M hM => ?_⟩
        · show Option.bind _ _ = _
          rw [a6 M w hM, Option.bind_some, setW_eq hc (by omega), Option.bind_some]
          exact b4 M hM
        · show Option.bind _ _ = _
          rw [a7 M rd _ hM, Option.bind_some, if_neg (show ¬ ((false, _) : Bool × qM).1 = true from Bool.false_ne_true)]
    by_cases hr0 : r = 0
    · refine BothL_mv (Nat.le_refl _) (fun _ _ => rfl) (fun M hM => ?_) (fun M hM => ?_) (AB p h g hp hs h10 h16)
      · show f_X7_readCouple_L25 _ _ _ _ = _
        rw [cplC (by omega), if_pos hr0]
      · show f_X12_readsCouple_L46 _ _ _ _ = _
        rw [cplM (by omega), if_pos hr0]
    · rcases exp_b (ch := 44) hT hU hs h10 h16 hp (by omega) (by omega) with ⟨p1, h1, g1, a1, a2, a3, a4, a5, a6, a7⟩ | ⟨p1, q, h1, g1, a1, a2, a3, a4, a5, a6, a7⟩
      · refine BothL_mv a1 a4.2 (fun M hM => ?_) (fun M hM => ?_) (AB p1 h1 g1 a2 a3 ((a4.2 10 (by omega)).trans h10) a4.1)
        · show f_X7_readCouple_L25 _ _ _ _ = _
          rw [cplC (by omega), if_neg hr0, a6 M w hM, Option.bind_some]
        · show f_X12_readsCouple_L46 _ _ _ _ = _
          rw [cplM (by omega), if_neg hr0, a7 M rd hM, Option.bind_some, NM_25, if_pos a5]
      · obtain ⟨v, p2, h2, c1, c2, c3⟩ := num_t (lo := 0) (hi := 20) hT a2 a1 (by omega) (by omega) (by omega) (by omega)
        obtain ⟨p', h', w', b1, b2, b3, b4⟩ := cpl_t hT (by omega) (by omega) hc m (r + 1) f p2 h2 (upd w (24 + c * 5 + r) v) (by omega) (by omega) c1 c2
        refine Or.inr ⟨p', 1, q, h', upd g1 21 (nI 1), w', rd, by omega, by omega, b1, b2, ⟨(pk_un (by decide)).trans a3, pk_us, fun j hj => (pk_un (by omega)).trans (a4 j hj)⟩, b3.trans (pk_un (by omega)), fun M hM => ?_, fun M hM => ?_⟩
        · show f_X7_readCouple_L25 _ _ _ _ = _
          rw [cplC (by omega), if_neg hr0, a6 M w hM, Option.bind_some, c3 M w hM, Option.bind_some, setW_eq hc (by omega), Option.bind_some]
          exact b4 M hM
        · show f_X12_readsCouple_L46 _ _ _ _ = _
          rw [cplM (by omega), if_neg hr0, a7 M rd hM, Option.bind_some, NM_25, if_neg a5, fails_eq, Option.bind_some]
theorem setA_eq {M : qM} {w h : Nat → Int32} {c : Nat} {v : Int32} (hc : c < 6) : f_X5_setAnswer_at4 (nI c) v (CM M w h) = some (CM M (upd w (6 + c) v) h) := by
  unfold f_X5_setAnswer_at4
  rw [nI_add, qwr_nI (by omega) (by decide), Option.bind_some, CM_u5]
theorem couple_b {T U : Nat → Int32} {tx : Nat → Nat} {n p c : Nat} {fa : Int32} {w rd h g : Nat → Int32} (hT : TXT T tx n) (hU : TXT U tx n) (hs : St h n p 0 fa) (h10 : g 10 = nI n) (h16 : g 16 = nI p) (hp : p ≤ n) (hw : WX w rd) (hw1 : w 1 = nI c) (hr1 : rd 1 = nI c) (hc : c < 6) :
    Both T U n p fa w rd g (fun M => f_X7_readCouple (CM M w h)) (fun M => f_X12_readsCouple (NM M rd g)) (fun w' rd' => w' 0 = w 0 ∧ w' 2 = w 2 ∧ rd' 2 = rd 2 ∧ w' 1 = nI (c + 1) ∧ rd' 1 = nI (c + 1)) := by
  have e : ∀ M : qM, f_X12_readsCouple (NM M rd g) = ((f_X12_number (nI (3 + c)) (nI 0) (nI 60) (NM M (upd rd 1 (nI (c + 1))) g)).bind fun p12 => if p12.1 = true then (f_X12_readsCouple_L46 (nI c) qF (nI 0) p12.2).bind fun e37 => Sum.elim some (fun e37 => (f_X12_ends e37.2).bind fun p39 => some (p39.1, p39.2)) e37
    else some (false, p12.2)) := by
    intro M
    unfold f_X12_readsCouple
    rw [qrd_nI (by omega) (by decide), NM_27, hr1, Option.bind_some, if_neg (fun q => by have := (nI_eq (by omega) (by omega)).mp q; omega), Option.bind_some, nI_add, qwr_nI (by omega) (by decide), Option.bind_some, NM_u27, nI_add]
  have ec : ∀ M : qM, f_X7_readCouple (CM M w h) = ((f_X7_number (nI 0) (nI 60) (CM M w h)).bind fun p4 => (f_X5_setAnswer_at4 (nI c) p4.1 p4.2).bind fun M10 => (f_X7_readCouple_L25 (nI c) qF (nI 0) M10).bind fun e30 => (f_X7_expect (nI 59) e30.2).bind fun M34 => (f_X5_addCouple_at4 M34).bind fun M37 => some (M37)) := by
    intro M
    unfold f_X7_readCouple f_X5_couples_at4
    rw [qrd_nI (by omega) (by decide), CM_5, hw1, Option.bind_some, Option.bind_some]
  rcases num_b (lo := 0) (hi := 60) hT hU hs h10 h16 hp (by omega) (by omega) with ⟨v, p1, h1, g1, a1, a2, a3, a4, a5, a6, a7, a8⟩ | ⟨v, p1, k, q, h1, g1, a1, a2, a3, a4, a5, a6, a7⟩
  · have hb := cpl_b hT hU hc 5 0 qF qF p1 h1 g1 (upd w (6 + c) (nI v)) (upd (upd rd 1 (nI (c + 1))) (3 + c) (nI v)) (by omega) (by rw [qF_val]; omega) (by rw [qF_val]; omega) a4 a5 ((a6.2 10 (by omega)).trans h10) a6.1 (WX_u (i0 := 6 + c) (j0 := 3 + c) (B0 := 60) (by unfold PR; omega) a2 (WX_r (Or.inl rfl) hw))
    rcases hb with ⟨p2, h2, g2, w2, rd2, b1, b2, b3, b4, b5, b6, b7, b8⟩ | ⟨p2, k, q, h2, g2, w2, rd2, b1, b2, b3, b4, b5, b6, b7, b8⟩
    · have t2 := MS_t a6 b4
      have hw21 : w2 1 = nI c := (b6.2.1.trans (pk_un (by omega))).trans hw1
      rcases end_b hT hU b3 ((t2.2 10 (by omega)).trans h10) b4.1 b2 with ⟨p4, h4, g4, d1, d2, d3, d4, d5, d6⟩ | ⟨p4, k, q, h4, g4, d0, d1, d2, d3, d4, d5, d6⟩
      · refine Or.inl ⟨p4, h4, g4, upd w2 1 (nI (c + 1)), rd2, by omega, d2, d3, MS_t t2 d4, WX_w (Or.inl rfl) b5, ⟨?_, ?_, ?_, pk_us, ?_⟩, fun M hM => ?_, fun M hM => ?_⟩
        · exact (pk_un (by omega)).trans (b6.1.trans (pk_un (by omega)))
        · exact (pk_un (by omega)).trans (b6.2.2.1.trans (pk_un (by omega)))
        · exact b6.2.2.2.2.trans ((pk_un (by omega)).trans (pk_un (by omega)))
        · exact b6.2.2.2.1.trans ((pk_un (by omega)).trans pk_us)
        · show f_X7_readCouple _ = _
          rw [ec M, a7 M w hM, Option.bind_some, setA_eq hc, Option.bind_some, show f_X7_readCouple_L25 (nI c) qF (nI 0) (CM M (upd w (6 + c) ((nI v, CM M w h1) : Int32 × qM).1) h1) = some (nI 5, CM M w2 h2) from b7 M hM, Option.bind_some, d5 M w2 hM, Option.bind_some, addC_eq hw21, Option.bind_some]
        · show f_X12_readsCouple _ = _
          rw [e M, a8 M _ _ hM (by omega), Option.bind_some, if_pos rfl, show f_X12_readsCouple_L46 (nI c) qF (nI 0) ((true, NM M (upd (upd rd 1 (nI (c + 1))) (3 + c) (nI v)) g1) : Bool × qM).2 = _ from b8 M hM, Option.bind_some]
          show ((f_X12_ends (NM M rd2 g2)).bind fun p39 => some (p39.1, p39.2)) = _
          rw [d6 M rd2 hM, Option.bind_some]
      · refine Or.inr ⟨p4, k, q, h4, g4, upd w2 1 (nI (c + 1)), rd2, d0, d1, d2, d3, MF_t t2 d4, fun M hM => ?_, fun M hM => ?_⟩
        · show f_X7_readCouple _ = _
          rw [ec M, a7 M w hM, Option.bind_some, setA_eq hc, Option.bind_some, show f_X7_readCouple_L25 (nI c) qF (nI 0) (CM M (upd w (6 + c) ((nI v, CM M w h1) : Int32 × qM).1) h1) = some (nI 5, CM M w2 h2) from b7 M hM, Option.bind_some, d5 M w2 hM, Option.bind_some, addC_eq hw21, Option.bind_some]
        · show f_X12_readsCouple _ = _
          rw [e M, a8 M _ _ hM (by omega), Option.bind_some, if_pos rfl, show f_X12_readsCouple_L46 (nI c) qF (nI 0) ((true, NM M (upd (upd rd 1 (nI (c + 1))) (3 + c) (nI v)) g1) : Bool × qM).2 = _ from b8 M hM, Option.bind_some]
          show ((f_X12_ends (NM M rd2 g2)).bind fun p39 => some (p39.1, p39.2)) = _
          rw [d6 M rd2 hM, Option.bind_some]
    · have hw21 : w2 1 = nI c := (b6.trans (pk_un (by omega))).trans hw1
      obtain ⟨p4, h4, d1, d2, d3⟩ := exp_t (ch := 59) hT b4 b3 b1 b2 (by omega)
      refine Or.inr ⟨p4, k, q, h4, g2, upd w2 1 (nI (c + 1)), rd2, b1, b2, d1, d2, MF_t a6 b5, fun M hM => ?_, fun M hM => ?_⟩
      · show f_X7_readCouple _ = _
        rw [ec M, a7 M w hM, Option.bind_some, setA_eq hc, Option.bind_some, show f_X7_readCouple_L25 (nI c) qF (nI 0) (CM M (upd w (6 + c) ((nI v, CM M w h1) : Int32 × qM).1) h1) = some (nI 5, CM M w2 h2) from b7 M hM, Option.bind_some, d3 M w2 hM, Option.bind_some, addC_eq hw21, Option.bind_some]
      · show f_X12_readsCouple _ = _
        rw [e M, a8 M _ _ hM (by omega), Option.bind_some, if_pos rfl, show f_X12_readsCouple_L46 (nI c) qF (nI 0) ((true, NM M (upd (upd rd 1 (nI (c + 1))) (3 + c) (nI v)) g1) : Bool × qM).2 = _ from b8 M hM, Option.bind_some]
        rfl
  · obtain ⟨p2, h2, w2, b1, b2, b3, b4⟩ := cpl_t hT a1 a2 hc 5 0 qF p1 h1 (upd w (6 + c) v) (by omega) (by rw [qF_val]; omega) a3 a4
    have hw21 : w2 1 = nI c := (b3.trans (pk_un (by omega))).trans hw1
    obtain ⟨p4, h4, d1, d2, d3⟩ := exp_t (ch := 59) hT b2 b1 a1 a2 (by omega)
    refine Or.inr ⟨p4, k, q, h4, g1, upd w2 1 (nI (c + 1)), upd rd 1 (nI (c + 1)), a1, a2, d1, d2, a5, fun M hM => ?_, fun M hM => ?_⟩
    · show f_X7_readCouple _ = _
      rw [ec M, a6 M w hM, Option.bind_some, setA_eq hc, Option.bind_some, b4 M hM, Option.bind_some, d3 M w2 hM, Option.bind_some, addC_eq hw21, Option.bind_some]
    · show f_X12_readsCouple _ = _
      rw [e M, a7 M _ _ hM, Option.bind_some, if_neg (show ¬ ((false, _) : Bool × qM).1 = true from Bool.false_ne_true)]
