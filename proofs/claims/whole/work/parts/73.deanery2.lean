theorem TX_txt {len size : Int32} {t u : Nat → Int32} (h : TX len size t u) : ∃ n tx, len = nI n ∧ size = nI n ∧ TXT t tx n ∧ TXT u tx n := by
  obtain ⟨n, hn, e1, e2, ht⟩ := h
  refine ⟨n, fun i => (t i).toNatClampNeg, e1, e2, ⟨hn, fun i hi => ?_⟩, hn, fun i hi => ?_⟩
  · obtain ⟨-, x, hx, e⟩ := ht i hi
    show t i = nI (t i).toNatClampNeg ∧ (t i).toNatClampNeg < 256
    rw [e, nI_clamp (by omega)]
    exact ⟨rfl, hx⟩
  · obtain ⟨e0, x, hx, e⟩ := ht i hi
    show u i = nI (t i).toNatClampNeg ∧ (t i).toNatClampNeg < 256
    rw [← e0, e, nI_clamp (by omega)]
    exact ⟨rfl, hx⟩
def dh0 (M : qM) : Nat → Int32 := upd (upd (upd (M 3) 4 (nI 0)) 5 (nI 0)) 2 (-1)
def dg0 (M : qM) : Nat → Int32 := upd (upd (M 25) 16 (nI 0)) 11 (-1)
def dr0 (M : qM) : Nat → Int32 := fun k => if 0 ≤ k ∧ k < 57 then nI 0 else M 27 k
theorem dc_eq (M : qM) : ∃ w0, (∀ k, k < 172 → w0 k = nI 0) ∧ f_X7_readText M = ((f_X7_skipBlanks (CM M w0 (dh0 M))).bind fun M => f_X7_readText_L28 qF (nI 0) M).bind fun e22 => (qpu e22.2 3 1 (nI 0)).bind fun M24 => some (M24 3 5, M24) := by
  obtain ⟨w0, f1, f2⟩ := fill5_eq (ms M 3 (dh0 M))
  refine ⟨w0, f2, ?_⟩
  have e1 : ∀ N : qM, f_X5_clear_at4 N = f_J7_fill_at5 (nI 0) N := fun N => by unfold f_X5_clear_at4; exact ob_id _
  have e2 : qu (qu (qu M 3 4 (nI 0)) 3 5 (nI 0)) 3 2 (-1 : Int32) = ms M 3 (dh0 M) := by
    rw [quM M 3 4, ms_qu, ms_qu]; rfl
  have e3 : ms (ms M 3 (dh0 M)) 5 w0 = CM M w0 (dh0 M) := ms_comm _ (by decide) _ _
  rw [Option.bind_assoc]
  unfold f_X7_readText
  rw [show qpu M 3 4 (nI 0) = some (qu M 3 4 (nI 0)) from rfl, Option.bind_some, show qpu (qu M 3 4 (nI 0)) 3 5 (nI 0) = some (qu (qu M 3 4 (nI 0)) 3 5 (nI 0)) from rfl, Option.bind_some, show qpu (qu (qu M 3 4 (nI 0)) 3 5 (nI 0)) 3 2 (-1 : Int32) = some (qu (qu (qu M 3 4 (nI 0)) 3 5 (nI 0)) 3 2 (-1 : Int32)) from rfl, Option.bind_some, e2, e1, f1, Option.bind_some, e3]
theorem dc_of {M : qM} {w0 w' h' : Nat → Int32} {c' : Int32} (h1 : f_X7_readText M = ((f_X7_skipBlanks (CM M w0 (dh0 M))).bind fun M => f_X7_readText_L28 qF (nI 0) M).bind fun e22 => (qpu e22.2 3 1 (nI 0)).bind fun M24 => some (M24 3 5, M24)) (h2 : ((f_X7_skipBlanks (CM M w0 (dh0 M))).bind fun M => f_X7_readText_L28 qF (nI 0) M) = some (c', CM M w' h')) : f_X7_readText M = some (h' 5, CM M w' (upd h' 1 (nI 0))) := by
  rw [h1, h2, Option.bind_some, show qpu ((c', CM M w' h') : Int32 × qM).2 3 1 (nI 0) = some (qu (CM M w' h') 3 1 (nI 0)) from rfl, Option.bind_some, CM_u3, CM_3, pk_un (by decide)]
theorem dm_of {N : qM} {rd' g' : Nat → Int32} {b : Bool} (h : ((f_X12_step (NM N (dr0 N) (dg0 N))).bind fun M => f_X12_deanery_L37 qF true M) = some (b, NM N rd' g')) : f_X12_deanery N = if b = true then (f_X12_copies_at27_26 (nI 0) (nI 0) (nI 57) (NM N rd' (upd g' 10 (nI 0)))).bind fun M30 => (f_X12_begins M30).bind fun M33 => (qrd M33 26 57 (nI 1)).bind fun v34 => some (v34, M33)
    else some ((-10 : Int32) - g' 21, NM N rd' (upd (upd g' 10 (nI 0)) 11 (g' 17))) := by
  have e0 : f_X12_deanery_L2 qF (nI 0) N = some (nI 57, ms N 27 (dr0 N)) := fill27 57 0 qF N (by omega) (by rw [qF_val]; omega)
  have e1 : qu (qu (ms N 27 (dr0 N)) 25 16 (nI 0)) 25 11 (-1 : Int32) = NM N (dr0 N) (dg0 N) := by
    rw [quM (ms N 27 (dr0 N)) 25 16, ms_qu]; rfl
  unfold f_X12_deanery
  rw [e0, Option.bind_some, show qpu ((nI 57, ms N 27 (dr0 N)) : Int32 × qM).2 25 16 (nI 0) = some (qu (ms N 27 (dr0 N)) 25 16 (nI 0)) from rfl, Option.bind_some, show qpu (qu (ms N 27 (dr0 N)) 25 16 (nI 0)) 25 11 (-1 : Int32) = some (qu (qu (ms N 27 (dr0 N)) 25 16 (nI 0)) 25 11 (-1 : Int32)) from rfl, Option.bind_some, e1, ← Option.bind_assoc, h, Option.bind_some]
  show ((qpu (NM N rd' g') 25 10 (nI 0)).bind fun M25 => if b = true then _ else _) = _
  rw [show qpu (NM N rd' g') 25 10 (nI 0) = some (qu (NM N rd' g') 25 10 (nI 0)) from rfl, Option.bind_some, NM_u25, NM_25, show qpu (NM N rd' (upd g' 10 (nI 0))) 25 11 (upd g' 10 (nI 0) 17) = some (qu (NM N rd' (upd g' 10 (nI 0))) 25 11 (upd g' 10 (nI 0) 17)) from rfl, Option.bind_some, NM_u25, NM_25, pk_un (show 17 ≠ 10 by decide), pk_un (show 21 ≠ 11 by decide), pk_un (show 21 ≠ 10 by decide)]
theorem op_deanery {M : qM} {J : qJ} (hI : Inv M J)  : ∃ r M1 M2, f_X11_deanery  M = some (r, M1) ∧ f_X12_deanery  M1 = some (r, M2) ∧ Inv M2 J := by
  obtain ⟨l, C, O, hP, hB, hX, hF, hS, hY, hK, hU, hM, hR⟩ := hI
  obtain ⟨n, tx, e1, e2, hT, hT2⟩ := TX_txt hX
  have hn := hT.1
  obtain ⟨w0, k1, k2⟩ := dc_eq M
  have s0 : St (dh0 M) n 0 0 (-1) := by
    unfold dh0
    refine ⟨?_, ?_, ?_, pk_us⟩
    · rw [pk_un (by decide), pk_un (by decide), pk_un (by decide)]; exact e1
    · rw [pk_un (by decide), pk_un (by decide), pk_us]
    · rw [pk_un (by decide), pk_us]
  have g10 : dg0 M 10 = nI n := by unfold dg0; rw [pk_un (by decide), pk_un (by decide)]; exact e2
  have g16 : dg0 M 16 = nI 0 := by unfold dg0; rw [pk_un (by decide), pk_us]
  have r0 : ∀ k, k < 57 → dr0 M k = nI 0 := fun k hk => if_pos (by omega)
  have hb := text_b hT hT2 (n + 1) 0 0 qF qF 0 0 0 (dh0 M) (dg0 M) w0 (dr0 M) (by omega) (by omega) (by omega) (by rw [qF_val]; omega) (by rw [qF_val]; omega) s0 g10 g16 (WX_0 (fun i hi => k1 i (by omega)) r0) ⟨⟨k1 0 (by omega), by omega⟩, ⟨k1 1 (by omega), r0 1 (by omega), by omega⟩, ⟨k1 2 (by omega), r0 2 (by omega), by omega⟩, fun _ => ⟨rfl, rfl⟩⟩
  rcases hb with ⟨p', c', h', g', w', rd', l', C', O', b1, b2, b3, b4, b5, b6⟩ | ⟨p', c', k, z, h', g', w', rd', b1, b2, b3, b4, b5, b6⟩
  · have hc := dc_of k2 (b5 M rfl)
    obtain ⟨b40, ⟨b41, b41', b4C⟩, ⟨b42, b42', b4O⟩, b43⟩ := id b4
    have h5 : h' 5 = 0 := b1.2.2.1
    have e3 : f_X11_deanery M = some (nI C', qu (qu (qu (qu (qcp (CM M w' (upd h' 1 (nI 0))) 5 2 0 0 172) 7 0 (nI 0)) 9 2 (nI 0)) 20 0 (nI 0)) 22 0 (nI 0)) := by
      unfold f_X11_deanery
      rw [hc, Option.bind_some, h5]
      show (if (0 : Int32) = 0 then _ else _) = _
      rw [if_pos rfl]
      unfold f_X5_copyFrom_at1_5
      rw [qco_nI (by omega) (by omega) (by decide) (by decide), Option.bind_some, Option.bind_some]
      unfold f_X6_forget f_X3_forget f_X9_clear f_X0_clear f_X5_couples qpu
      simp only [Option.bind_some]
      rw [qrd_nI (by omega) (by decide), Option.bind_some, Option.bind_some, show (qu (qu (qu (qu (qcp (CM M w' (upd h' 1 (nI 0))) 5 2 0 0 172) 7 0 (nI 0)) 9 2 (nI 0)) 20 0 (nI 0)) 22 0 (nI 0)) 2 1 = va_cpy w' (M 2) 0 0 172 1 from rfl, vc_in 1 rfl (by omega)]
      show some (w' (0 + 1), _) = _
      rw [show w' (0 + 1) = nI C' from b41]
    have hw : WX (va_cpy w' (M 2) 0 0 172) (va_cpy rd' (M 26) 0 0 57) := WX_cong (fun i hi => by rw [vc_in i (Nat.zero_add i).symm (by omega), Nat.zero_add]) (fun i hi => by rw [vc_in i (Nat.zero_add i).symm (by omega), Nat.zero_add]) b3
    have hcn : CN (va_cpy w' (M 2) 0 0 172) (va_cpy rd' (M 26) 0 0 57) l' C' O' := by
      refine ⟨⟨?_, b40.2⟩, ⟨?_, ?_, b4C⟩, ⟨?_, ?_, b4O⟩, b43⟩
      · rw [vc_in 0 rfl (by omega)]; exact b40.1
      · rw [vc_in 1 rfl (by omega)]; exact b41
      · rw [vc_in 1 rfl (by omega)]; exact b41'
      · rw [vc_in 2 rfl (by omega)]; exact b42
      · rw [vc_in 2 rfl (by omega)]; exact b42'
    have hm := dm_of (N := qu (qu (qu (qu (qcp (CM M w' (upd h' 1 (nI 0))) 5 2 0 0 172) 7 0 (nI 0)) 9 2 (nI 0)) 20 0 (nI 0)) 22 0 (nI 0)) (b6 _ rfl)
    obtain ⟨nw, n1, n2⟩ := begins_ok (qcp (NM (qu (qu (qu (qu (qcp (CM M w' (upd h' 1 (nI 0))) 5 2 0 0 172) 7 0 (nI 0)) 9 2 (nI 0)) 20 0 (nI 0)) 22 0 (nI 0)) rd' (upd g' 10 (nI 0))) 27 26 0 0 57)
    rw [if_pos rfl, cp_27_26 (by omega) (by omega), Option.bind_some, n1, Option.bind_some, qrd_nI (by omega) (by decide), Option.bind_some] at hm
    obtain ⟨_, x, -, hx, -, hx2, -⟩ := hU
    refine ⟨nI C', qu (qu (qu (qu (qcp (CM M w' (upd h' 1 (nI 0))) 5 2 0 0 172) 7 0 (nI 0)) 9 2 (nI 0)) 20 0 (nI 0)) 22 0 (nI 0), BG (qcp (NM (qu (qu (qu (qu (qcp (CM M w' (upd h' 1 (nI 0))) 5 2 0 0 172) 7 0 (nI 0)) 9 2 (nI 0)) 20 0 (nI 0)) 22 0 (nI 0)) rd' (upd g' 10 (nI 0))) 27 26 0 0 57) nw, e3, hm.trans ?_, l', C', O', RP_new hw hcn n2, BD_new hw hcn, ⟨0, by omega, ?_, ?_, fun i hi => by omega⟩, ?_, hS, ⟨0, by omega, rfl, rfl, fun i hi => by omega⟩, ⟨0, by omega, rfl, rfl, fun i hi => by omega⟩, ⟨0, x, by omega, hx, rfl, hx2, rfl, fun i hi => by omega⟩, ⟨0, by omega, rfl, fun i hi => ⟨?_, fun q => ?_⟩⟩, hR⟩
    · rw [show BG (qcp (NM (qu (qu (qu (qu (qcp (CM M w' (upd h' 1 (nI 0))) 5 2 0 0 172) 7 0 (nI 0)) 9 2 (nI 0)) 20 0 (nI 0)) 22 0 (nI 0)) rd' (upd g' 10 (nI 0))) 27 26 0 0 57) nw 26 1 = nI C' from hcn.2.1.2.1]
    · show upd h' 1 (nI 0) 1 = nI 0
      exact pk_us
    · show upd (upd (upd (upd g' 10 (nI 0)) 5 (nI 0)) 13 (nI 0)) 15 (nI 0) 10 = nI 0
      rw [pk_un (by decide), pk_un (by decide), pk_un (by decide), pk_us]
    · show upd h' 1 (nI 0) 2 = upd (upd (upd (upd g' 10 (nI 0)) 5 (nI 0)) 13 (nI 0)) 15 (nI 0) 11
      rw [pk_un (by decide), pk_un (by decide), pk_un (by decide), pk_un (by decide), pk_un (by decide), b1.2.2.2, b2 11 (by omega)]
      exact pk_us.symm
    · rw [Nat.zero_div, Nat.zero_mod]
      show upd (upd (M 32) 0 (nI 0)) 1 (nI 0) i = nI 0
      by_cases hi1 : i = 1
      · subst hi1; exact pk_us
      · have hi0 : i = 0 := by omega
        subst hi0
        rw [pk_un (by decide), pk_us]
    · rw [Nat.zero_div, Nat.zero_mod] at q
      omega
  · have hc := dc_of k2 (b5 M rfl)
    have h5 : h' 5 = nI k := b3.2.2.1
    have e3 : f_X11_deanery M = some ((-10 : Int32) - nI k, CM M w' (upd h' 1 (nI 0))) := by
      unfold f_X11_deanery
      rw [hc, Option.bind_some, h5]
      show (if nI k = 0 then _ else _) = _
      rw [if_neg (nI_ne0 b1 (by omega))]
    have hm := dm_of (N := CM M w' (upd h' 1 (nI 0))) (b6 _ rfl)
    rw [if_neg Bool.false_ne_true, b4.2.1, b4.1] at hm
    have hj : ∀ j, j < 16 → j ≠ 11 → g' j = M 25 j := fun j hj h11 => by
      rw [b4.2.2 j hj]; unfold dg0; rw [pk_un h11, pk_un (by omega)]
    have hq : ∀ j, j < 16 → j ≠ 11 → j ≠ 10 → (NM (CM M w' (upd h' 1 (nI 0))) rd' (upd (upd g' 10 (nI 0)) 11 (nI z))) 25 j = M 25 j := fun j h1 h2 h3 => by
      rw [NM_25, pk_un h2, pk_un h3]; exact hj j h1 h2
    refine ⟨_, _, _, e3, hm, l, C, O, hP, hB, ⟨0, by omega, ?_, ?_, fun i hi => by omega⟩, ?_, hS, ?_, ?_, ?_, hM, hR⟩
    · show upd h' 1 (nI 0) 1 = nI 0
      exact pk_us
    · rw [NM_25, pk_un (by decide), pk_us]
    · rw [NM_25, pk_us]
      show upd h' 1 (nI 0) 2 = nI z
      rw [pk_un (by decide)]
      exact b3.2.2.2
    · rw [hq 13 (by omega) (by omega) (by omega)]; exact hY
    · rw [hq 15 (by omega) (by omega) (by omega)]; exact hK
    · rw [hq 5 (by omega) (by omega) (by omega)]; exact hU
def MI : qM := qu (qu (qu (qu (qu (qu (qu (qu (qu (qu qM0 3 1 (nI 0)) 3 2 (-1 : Int32)) 3 4 (nI 0)) 3 5 (nI 0)) 7 0 (nI 0)) 7 1 (nI 0)) 9 2 (nI 0)) 12 0 (nI 0)) 20 0 (nI 0)) 22 0 (nI 0)
theorem init_ok : ∃ M2, (∃ M1, f_X11_init_c0 qM0 = some M1 ∧ f_X12_init_c25 M1 = some M2) ∧ Inv M2 qJ0 := by
  obtain ⟨nw, n1, n2⟩ := begins_ok (qu MI 25 11 (-1 : Int32))
  have hw : WX (MI 2) (MI 26) := WX_0 (fun i _ => rfl) (fun j _ => rfl)
  have hcn : CN (MI 2) (MI 26) 0 0 0 := ⟨⟨rfl, by omega⟩, ⟨rfl, rfl, by omega⟩, ⟨rfl, rfl, by omega⟩, fun _ => ⟨rfl, rfl⟩⟩
  refine ⟨BG (qu MI 25 11 (-1 : Int32)) nw, ⟨MI, rfl, ?_⟩, 0, 0, 0, RP_new hw hcn n2, BD_new hw hcn, ⟨0, by omega, rfl, rfl, fun i hi => by omega⟩, rfl, ⟨0, by omega, rfl, rfl⟩, ⟨0, by omega, rfl, rfl, fun i hi => by omega⟩, ⟨0, by omega, rfl, rfl, fun i hi => by omega⟩, ⟨0, 0, by omega, by omega, rfl, rfl, rfl, fun i hi => by omega⟩, ⟨0, by omega, rfl, fun i hi => ⟨?_, fun q => ?_⟩⟩, rfl⟩
  · unfold f_X12_init_c25
    rw [show qpu MI 25 11 (-1 : Int32) = some (qu MI 25 11 (-1 : Int32)) from rfl, Option.bind_some, n1, Option.bind_some]
  · rw [Nat.zero_div, Nat.zero_mod]
    show upd (upd (MI 32) 0 (nI 0)) 1 (nI 0) i = nI 0
    by_cases hi1 : i = 1
    · subst hi1; exact pk_us
    · have hi0 : i = 0 := by omega
      subst hi0
      rw [pk_un (by decide), pk_us]
  · rw [Nat.zero_div, Nat.zero_mod] at q
    omega
