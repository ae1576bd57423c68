theorem fb_andL (a b : Nat) : lN a &&& lN b = lN (a &&& b) := by
  apply Int64.toBitVec_inj.1
  show BitVec.ofNat 64 a &&& BitVec.ofNat 64 b = BitVec.ofNat 64 (a &&& b)
  apply BitVec.eq_of_getLsbD_eq
  intro i hi
  simp [hi]
theorem my_maskL (n : Nat) : lN n &&& lN 2147483647 = lN (n % 2147483648) := by
  rw [fb_andL, show (2147483647 : Nat) = 2 ^ 31 - 1 by decide, Nat.and_two_pow_sub_one_eq_mod]
def nx (z : Nat) : Nat := (z * 1103515245 + 12345) % 2147483648
theorem nx_lt (z : Nat) : nx z < 2 ^ 31 := by unfold nx; omega
def MC (M : qM) (f : Nat → Int32) (z : Nat) : qM := ms (ms M 12 (upd (M 12) 0 (nI z))) 2 f
theorem MC_def (M : qM) (f : Nat → Int32) (z : Nat) : MC M f z = ms (ms M 12 (upd (M 12) 0 (nI z))) 2 f := rfl
theorem MC_2 (M : qM) (f : Nat → Int32) (z : Nat) : MC M f z 2 = f := ms_q _ _ _
theorem MC_12r (M : qM) (f : Nat → Int32) (z : Nat) : MC M f z 12 = upd (M 12) 0 (nI z) := rfl
theorem MC_12 (M : qM) (f : Nat → Int32) (z : Nat) : MC M f z 12 0 = nI z := rfl
theorem MC_ne (M : qM) (f : Nat → Int32) (z : Nat) {a : Nat} (h : a ≠ 2) (h2 : a ≠ 12) : MC M f z a = M a := by
  unfold MC
  rw [ms_ne _ _ h, ms_ne _ _ h2]
theorem MC_draw (M : qM) (f : Nat → Int32) (z y : Nat) : qu (MC M f z) 12 0 (nI y) = MC M f y := by
  funext a
  by_cases h : a = 12
  · subst h
    rw [qu_row, MC_12r, MC_12r, fa_upd_twice]
  · rw [qu_ne _ _ _ _ h]
    by_cases h2 : a = 2
    · subst h2; rw [MC_2, MC_2]
    · rw [MC_ne _ _ _ h2 h, MC_ne _ _ _ h2 h]
theorem MC_ms (M : qM) (f h : Nat → Int32) (z : Nat) : ms (MC M f z) 2 h = MC M h z := by
  unfold MC; rw [ms_ms]
theorem drC {M : qM} {f : Nat → Int32} {z n : Nat} (hz : z < 2 ^ 31) (h0 : 0 < n) (hn : n < 2 ^ 31) : f_X2_draw (nI n) (MC M f z) = some (nI (nx z / 65536 % n), MC M f (nx z)) := by
  have hx := nx_lt z
  unfold f_X2_draw
  rw [MC_12, nI_l hz, lN_mul, lN_add, my_maskL, lN_i]
  unfold qpu
  rw [Option.bind_some, show (z * 1103515245 + 12345) % 2147483648 = nx z from rfl, MC_draw, if_neg (show ¬ nI n ≤ 0 from nI_nle h0 hn), MC_12, qdiv_nI hx (by omega) (by omega), Option.bind_some, qrem_nI (by omega) h0 hn, Option.bind_some]
theorem qv_J (J : qJ) (a b : Int64) : qv (qv J 25 8 a) 25 8 b = qv J 25 8 b := by
  funext p q
  unfold qv
  by_cases h : p = 25
  · rw [if_pos h, if_pos h]
    by_cases h2 : q = 8
    · rw [if_pos h2, if_pos h2]; rw [if_pos h]
    · rw [if_neg h2, if_neg h2, if_pos h, if_neg h2]
  · rw [if_neg h, if_neg h, if_neg h]
theorem drM {M : qM} {J : qJ} {z n : Nat} (hz : z < 2 ^ 31) (h0 : 0 < n) (hn : n < 2 ^ 31) : f_X12_draw (nI n) M (qv J 25 8 (lN z)) = some (nI (nx z / 65536 % n), qv J 25 8 (lN (nx z))) := by
  have hx := nx_lt z
  have e : ∀ (K : qJ) (x : Int64), qv K 25 8 x 25 8 = x := fun K x => rfl
  unfold f_X12_draw
  rw [e, lN_mul, lN_add]
  unfold qlrem qldiv qpl
  rw [if_neg (show ¬ lN 2147483648 = 0 by decide), Option.bind_some, pk_lRem (by omega) (by omega) (by omega), Option.bind_some, show (z * 1103515245 + 12345) % 2147483648 = nx z from rfl, e, if_neg (show ¬ lN 65536 = 0 by decide), Option.bind_some, pk_lDiv (by omega) (by omega) (by omega), nI_l hn, if_neg (show ¬ lN n = 0 from fun q => by have := (pk_lEQ (show n < 2 ^ 63 by omega) (show 0 < 2 ^ 63 by omega)).mp q; omega), pk_lRem (by omega) h0 (by omega), Option.bind_some, lN_i, qv_J]
theorem rd2 {M : qM} {f : Nat → Int32} {z k : Nat} (h : k < 172) : qrd (MC M f z) 2 172 (nI k) = some (f k) := by rw [qrd_nI h (by decide), MC_2]
theorem wr2 {M : qM} {f : Nat → Int32} {z k : Nat} {v : Int32} (h : k < 172) : qwr (MC M f z) 2 172 (nI k) v = some (MC M (upd f k v) z) := by rw [qwr_nI h (by decide)]; unfold MC; rw [ms_qu]
theorem rd28 {M : qM} {g : Nat → Int32} {k : Nat} (h : k < 163) : qrd (ms M 28 g) 28 163 (nI k) = some (g k) := by rw [qrd_nI h (by decide), ms_q]
theorem wr28 {M : qM} {g : Nat → Int32} {k : Nat} {v : Int32} (h : k < 163) : qwr (ms M 28 g) 28 163 (nI k) v = some (ms M 28 (upd g k v)) := by rw [qwr_nI h (by decide), ms_qu]
theorem nI_4 {a : Nat} (h : a < 4) : a = 0 ∨ a = 1 ∨ a = 2 ∨ a = 3 := by omega
theorem stir_ok {f dn g : Nat → Int32} {l C O z : Nat} (hP : RP f dn g) (hB : BD f l C O) (hz : z < 2 ^ 31) (hC : 0 < C) (hO : 0 < O) : ∃ f' g' z', (∀ M, f_X2_stir (MC M f z) = some (MC M f' z')) ∧ (∀ M J, M 26 = dn → f_X12_draws (ms M 28 g) (qv J 25 8 (lN z)) = some (ms M 28 g', qv J 25 8 (lN z'))) ∧ RP f' dn g' ∧ BD f' l C O ∧ z' < 2 ^ 31 := by
  obtain ⟨eC, hC6⟩ := hB.2.1
  obtain ⟨eO, hO6⟩ := hB.2.2.1
  obtain ⟨b, hb, e5⟩ := hB.2.2.2.2.1
  obtain ⟨t, ht, e4⟩ := hB.2.2.2.2.2.1
  have e62 : g 62 = nI b := hP.1.2.2.2.2.2.symm.trans e5
  have e61 : g 61 = nI t := hP.1.2.2.2.2.1.symm.trans e4
  have dC : dn 1 = nI C := hP.1.2.1.symm.trans eC
  have dO : dn 2 = nI O := hP.1.2.2.1.symm.trans eO
  have z1 := nx_lt z
  have z2 := nx_lt (nx z)
  have z3 := nx_lt (nx (nx z))
  have z4 := nx_lt (nx (nx (nx z)))
  have z5 := nx_lt (nx (nx (nx (nx z))))
  have hd : nx z / 65536 % 4 < 4 := Nat.mod_lt _ (by omega)
  have hc : nx (nx z) / 65536 % C < C := Nat.mod_lt _ hC
  have ho : nx (nx (nx z)) / 65536 % O < O := Nat.mod_lt _ hO
  -- the beginning, both sides
  have nC : ¬ nI C = 0 := nI_ne0 hC (by omega)
  have nO : ¬ nI O = 0 := nI_ne0 hO (by omega)
  generalize hde : nx z / 65536 % 4 = d at hd
  generalize hce : nx (nx z) / 65536 % C = c at hc
  generalize hoe : nx (nx (nx z)) / 65536 % O = o at ho
  have hc6 : c < 6 := by omega
  have ho6 : o < 6 := by omega
  have cb : ∀ M, f_X2_stir (MC M f z) = (if nI d = 0 then (f_X5_mayStand (nI o) (nI c) (MC M f (nx (nx (nx z))))).bind fun b30 => if b30 = true then (f_X5_standUp (nI o) (nI c) (MC M f (nx (nx (nx z))))).bind fun M34 => some (M34)
    else if nI d = (nI 1) then (f_X2_draw (nI 5) (MC M f (nx (nx (nx z))))).bind fun p36 => (f_X2_draw (nI 21) p36.2).bind fun p40 => (f_X5_setWeight (nI c) p36.1 p40.1 p40.2).bind fun M46 => some (M46)
    else if nI d = (nI 2) then (f_X5_known (nI o) (MC M f (nx (nx (nx z))))).bind fun r50 => (f_X2_draw (nI 5) (MC M f (nx (nx (nx z))))).bind fun p51 => (f_X5_setKnown (nI o) (r50 ||| ((nI 1) <<< (p51.1 &&& 31))) p51.2).bind fun M57 => some (M57)
    else some (MC M f (nx (nx (nx z))))
    else if nI d = (nI 1) then (f_X2_draw (nI 5) (MC M f (nx (nx (nx z))))).bind fun p59 => (f_X2_draw (nI 21) p59.2).bind fun p63 => (f_X5_setWeight (nI c) p59.1 p63.1 p63.2).bind fun M69 => some (M69)
    else if nI d = (nI 2) then (f_X5_known (nI o) (MC M f (nx (nx (nx z))))).bind fun r73 => (f_X2_draw (nI 5) (MC M f (nx (nx (nx z))))).bind fun p74 => (f_X5_setKnown (nI o) (r73 ||| ((nI 1) <<< (p74.1 &&& 31))) p74.2).bind fun M80 => some (M80)
    else some (MC M f (nx (nx (nx z))))) := by
    intro M
    unfold f_X2_stir
    have fc : ∀ z, f_X5_couples (MC M f z) = some (nI C) := fun z => by unfold f_X5_couples; rw [rd2 (by omega), eC]; rfl
    have fo : ∀ z, f_X5_objectors (MC M f z) = some (nI O) := fun z => by unfold f_X5_objectors; rw [rd2 (by omega), eO]; rfl
    rw [fc, Option.bind_some, if_neg nC, fo, Option.bind_some, if_neg nO, drC hz (by omega) (by omega), Option.bind_some, fc, Option.bind_some, drC z1 hC (by omega), Option.bind_some, fo, Option.bind_some, drC z2 hO (by omega), Option.bind_some, hde, hce, hoe]
  have mb : ∀ M J, M 26 = dn → f_X12_draws (ms M 28 g) (qv J 25 8 (lN z)) = (if nI d = 0 then (f_X12_mayStand (nI o) (nI c) (ms M 28 g)).bind fun b20 => if b20 = true then (f_X12_stands_at25_28 (nI o) (nI c) (ms M 28 g)).bind fun p22 => some (p22.2, qv J 25 8 (lN (nx (nx (nx z)))))
    else if nI d = (nI 1) then (f_X12_draw (nI 5) (ms M 28 g) (qv J 25 8 (lN (nx (nx (nx z)))))).bind fun p27 => (f_X12_draw (nI 21) (ms M 28 g) p27.2).bind fun p31 => (qwr (ms M 28 g) 28 163 (((nI 19) + ((nI 5) * (nI c))) + p27.1) p31.1).bind fun M35 => some (M35, p31.2)
    else if nI d = (nI 2) then (qrd (ms M 28 g) 28 163 ((nI 55) + (nI o))).bind fun v38 => (f_X12_draw (nI 5) (ms M 28 g) (qv J 25 8 (lN (nx (nx (nx z)))))).bind fun p40 => (qwr (ms M 28 g) 28 163 ((nI 55) + (nI o)) (v38 ||| ((nI 1) <<< (p40.1 &&& 31)))).bind fun M44 => some (M44, p40.2)
    else some (ms M 28 g, qv J 25 8 (lN (nx (nx (nx z)))))
    else if nI d = (nI 1) then (f_X12_draw (nI 5) (ms M 28 g) (qv J 25 8 (lN (nx (nx (nx z)))))).bind fun p47 => (f_X12_draw (nI 21) (ms M 28 g) p47.2).bind fun p51 => (qwr (ms M 28 g) 28 163 (((nI 19) + ((nI 5) * (nI c))) + p47.1) p51.1).bind fun M55 => some (M55, p51.2)
    else if nI d = (nI 2) then (qrd (ms M 28 g) 28 163 ((nI 55) + (nI o))).bind fun v58 => (f_X12_draw (nI 5) (ms M 28 g) (qv J 25 8 (lN (nx (nx (nx z)))))).bind fun p60 => (qwr (ms M 28 g) 28 163 ((nI 55) + (nI o)) (v58 ||| ((nI 1) <<< (p60.1 &&& 31)))).bind fun M64 => some (M64, p60.2)
    else some (ms M 28 g, qv J 25 8 (lN (nx (nx (nx z)))))) := by
    intro M J hM
    unfold f_X12_draws
    have q1 : qrd (ms M 28 g) 26 57 (nI 1) = some (nI C) := by rw [qrd_nI (by omega) (by decide), ms_ne (q := 28) (a := 26) _ _ (by decide), hM, dC]
    have q2 : qrd (ms M 28 g) 26 57 (nI 2) = some (nI O) := by rw [qrd_nI (by omega) (by decide), ms_ne (q := 28) (a := 26) _ _ (by decide), hM, dO]
    rw [drM hz (by omega) (by omega), Option.bind_some, q1, Option.bind_some, drM z1 hC (by omega), Option.bind_some, q2, Option.bind_some, drM z2 hO (by omega), Option.bind_some, hde, hce, hoe]
  have n10 : ¬ nI 1 = 0 := by decide
  have n20 : ¬ nI 2 = 0 := by decide
  have n21 : ¬ nI 2 = nI 1 := by decide
  have n30 : ¬ nI 3 = 0 := by decide
  have n31 : ¬ nI 3 = nI 1 := by decide
  have n32 : ¬ nI 3 = nI 2 := by decide
  have n01 : ¬ nI 0 = nI 1 := by decide
  have n02 : ¬ nI 0 = nI 2 := by decide
  rcases nI_4 hd with rfl | rfl | rfl | rfl
  · cases hm : mayS f o c with
    | true =>
      have hW := mayS_w hB ho6 hc6 hm
      have hst := stand_RP hP hB ho6 hc6 hb e5 ht (Wds f o c)
      refine ⟨_, _, _, fun M => ?_, fun M J hM => ?_, hst.1, hst.2, z3⟩
      · rw [cb M, if_pos (show nI 0 = 0 from rfl), mayC (M := MC M f _) (by rw [MC_2]; exact hB) ho6 hc6, MC_2, hm, Option.bind_some, if_pos rfl, MC_def, standUp_eq hB ho6 hc6 hb e5 ht e4, Option.bind_some, hW, ← MC_def]
      · rw [mb M J hM, if_pos (show nI 0 = 0 from rfl), mayM (M := ms M 28 g) (r := f) (by rw [ms_q, ms_ne (q := 28) (a := 26) _ _ (by decide), hM]; exact hP) ho6 hc6, hm, Option.bind_some, if_pos rfl, standsM (r := f) (by rw [hM]; exact hP) ho6 hc6 hb e62 ht e61, Option.bind_some]
    | false =>
      refine ⟨f, g, _, fun M => ?_, fun M J hM => ?_, hP, hB, z3⟩
      · rw [cb M, if_pos (show nI 0 = 0 from rfl), mayC (M := MC M f _) (by rw [MC_2]; exact hB) ho6 hc6, MC_2, hm, Option.bind_some, if_neg (by decide), if_neg n01, if_neg n02]
      · rw [mb M J hM, if_pos (show nI 0 = 0 from rfl), mayM (M := ms M 28 g) (r := f) (by rw [ms_q, ms_ne (q := 28) (a := 26) _ _ (by decide), hM]; exact hP) ho6 hc6, hm, Option.bind_some, if_neg (by decide), if_neg n01, if_neg n02]
  · have h5 : nx (nx (nx (nx z))) / 65536 % 5 < 5 := Nat.mod_lt _ (by omega)
    have h21 : nx (nx (nx (nx (nx z)))) / 65536 % 21 < 21 := Nat.mod_lt _ (by omega)
    generalize hye : nx (nx (nx (nx z))) / 65536 % 5 = y at h5
    generalize hwe : nx (nx (nx (nx (nx z)))) / 65536 % 21 = w at h21
    refine ⟨upd f (24 + (c * 5 + y)) (nI w), upd g (19 + (c * 5 + y)) (nI w), nx (nx (nx (nx (nx z)))), fun M => ?_, fun M J hM => ?_, RP_w (by omega) hP, BD_w (by omega) (by omega) hB, z5⟩
    · rw [cb M, if_neg n10, if_pos rfl, drC z3 (by omega) (by omega), Option.bind_some, drC z4 (by omega) (by omega), Option.bind_some, hye, hwe]
      unfold f_X5_setWeight
      rw [pk_mul, nI_add, nI_add, wr2 (by omega), Option.bind_some, Option.bind_some, show 24 + c * 5 + y = 24 + (c * 5 + y) by omega]
    · rw [mb M J hM, if_neg n10, if_pos rfl, drM z3 (by omega) (by omega), Option.bind_some, drM z4 (by omega) (by omega), Option.bind_some, hye, hwe, pk_mul, nI_add, nI_add, wr28 (by omega), Option.bind_some, show 19 + 5 * c + y = 19 + (c * 5 + y) by omega]
  · have h5 : nx (nx (nx (nx z))) / 65536 % 5 < 5 := Nat.mod_lt _ (by omega)
    generalize hye : nx (nx (nx (nx z))) / 65536 % 5 = y at h5
    obtain ⟨-, -, kn, hkn, ek⟩ := hB.2.2.2.2.2.2.2.2 o ho6
    have ek2 : g (55 + o) = nI kn := (hP.2.2.2.1 o ho6).2.2.symm.trans ek
    obtain ⟨k1, k2⟩ := kn_or kn hkn y h5
    refine ⟨upd f (66 + o) (nI (kn ||| 2 ^ y)), upd g (55 + o) (nI (kn ||| 2 ^ y)), nx (nx (nx (nx z))), fun M => ?_, fun M J hM => ?_, RP_k ho6 hP, BD_k ho6 k2 hB, z4⟩
    · rw [cb M, if_neg n20, if_neg n21, if_pos rfl]
      unfold f_X5_known f_X5_setKnown
      rw [nI_add, rd2 (by omega), Option.bind_some, Option.bind_some, drC z3 (by omega) (by omega), Option.bind_some, hye, ek, k1, wr2 (by omega), Option.bind_some, Option.bind_some]
    · rw [mb M J hM, if_neg n20, if_neg n21, if_pos rfl, nI_add, rd28 (by omega), Option.bind_some, drM z3 (by omega) (by omega), Option.bind_some, hye, ek2, k1, wr28 (by omega), Option.bind_some]
  · refine ⟨f, g, _, fun M => ?_, fun M J hM => ?_, hP, hB, z3⟩
    · rw [cb M, if_neg n30, if_neg n31, if_neg n32]
    · rw [mb M J hM, if_neg n30, if_neg n31, if_neg n32]

theorem drift_ok {dn : Nat → Int32} {l C O y : Nat} (hy : y ≤ 60) : ∀ (k i n m z : Nat) (f g : Nat → Int32), i + k = y → k < n → k < m → RP f dn g → BD f l C O → z < 2 ^ 31 → ∃ f' g' z', (∀ M, f_X11_drift_L25 (nI y) n (nI i) (MC M f z) = some (nI y, MC M f' z')) ∧ (∀ M J, M 26 = dn → f_X12_drift_L18 (nI y) m (nI i) (ms M 28 g) (qv J 25 8 (lN z)) = some (nI y, ms M 28 g', qv J 25 8 (lN z'))) ∧ RP f' dn g' ∧ BD f' l C O ∧ z' < 2 ^ 31
  | _, i, 0, m, z, f, g, hi, hn, hm, hP, hB, hz => by omega
  | _, i, _, 0, z, f, g, hi, hn, hm, hP, hB, hz => by omega
  | 0, i, n + 1, m + 1, z, f, g, hi, hn, hm, hP, hB, hz => by
    have e : i = y := by omega
    subst e
    refine ⟨f, g, z, fun M => ?_, fun M J hM => ?_, hP, hB, hz⟩
    · rw [f_X11_drift_L25, if_pos (nI_le (Nat.le_refl _) (by omega))]
    · rw [f_X12_drift_L18, if_pos (nI_le (Nat.le_refl _) (by omega))]
  | k + 1, i, n + 1, m + 1, z, f, g, hi, hn, hm, hP, hB, hz => by
    have eC := hB.2.1.1
    have eO := hB.2.2.1.1
    have hC6 := hB.2.1.2
    have hO6 := hB.2.2.1.2
    have dC : dn 1 = nI C := hP.1.2.1.symm.trans eC
    have dO : dn 2 = nI O := hP.1.2.2.1.symm.trans eO
    -- a year's stir, both sides
    have hst : ∃ f1 g1 z1, (∀ M, f_X2_stir (MC M f z) = some (MC M f1 z1)) ∧ (∀ M J, M 26 = dn → f_X12_drift_L18 (nI y) (m + 1) (nI i) (ms M 28 g) (qv J 25 8 (lN z)) = f_X12_drift_L18 (nI y) m (nI (i + 1)) (ms M 28 (YM C O dn g1)) (qv J 25 8 (lN z1))) ∧ RP f1 dn g1 ∧ BD f1 l C O ∧ z1 < 2 ^ 31 := by
      have q1 : ∀ M : qM, M 26 = dn → qrd (ms M 28 g) 26 57 (nI 1) = some (nI C) := fun M hM => by rw [qrd_nI (by omega) (by decide), ms_ne (q := 28) (a := 26) _ _ (by decide), hM, dC]
      have q2 : ∀ M : qM, M 26 = dn → qrd (ms M 28 g) 26 57 (nI 2) = some (nI O) := fun M hM => by rw [qrd_nI (by omega) (by decide), ms_ne (q := 28) (a := 26) _ _ (by decide), hM, dO]
      have yg : ∀ (M : qM) (g1 : Nat → Int32), M 26 = dn → f_X12_yearGoes_at25_28 (ms M 28 g1) = some (ms M 28 (YM C O dn g1)) := fun M g1 hM => by
        have e26 : ms M 28 g1 26 = dn := (ms_ne (q := 28) (a := 26) _ _ (by decide)).trans hM
        rw [yearGoes28_eq (C := C) (O := O) (by rw [e26]; exact dC) (by rw [e26]; exact dO) hC6 hO6, ms_ms, ms_q, e26]
      have fc : ∀ M, f_X5_couples (MC M f z) = some (nI C) := fun M => by unfold f_X5_couples; rw [rd2 (by omega), eC]; rfl
      have fo : ∀ M, f_X5_objectors (MC M f z) = some (nI O) := fun M => by unfold f_X5_objectors; rw [rd2 (by omega), eO]; rfl
      by_cases hC : C = 0
      · refine ⟨f, g, z, fun M => ?_, fun M J hM => ?_, hP, hB, hz⟩
        · unfold f_X2_stir
          rw [fc, Option.bind_some, if_pos (by rw [hC]; rfl)]
        · rw [f_X12_drift_L18, if_neg (nI_ge (by omega) (by omega)), q1 M hM, Option.bind_some, if_pos (by rw [hC]; decide), yg M g hM, Option.bind_some, nI_add]
      · have nC : ¬ nI C ≤ 0 := nI_nle (by omega) (by omega)
        by_cases hO : O = 0
        · refine ⟨f, g, z, fun M => ?_, fun M J hM => ?_, hP, hB, hz⟩
          · unfold f_X2_stir
            rw [fc, Option.bind_some, if_neg (nI_ne0 (by omega) (by omega)), fo, Option.bind_some, if_pos (by rw [hO]; rfl)]
          · rw [f_X12_drift_L18, if_neg (nI_ge (by omega) (by omega)), q1 M hM, Option.bind_some, if_neg nC, q2 M hM, Option.bind_some, if_pos (by rw [hO]; decide), yg M g hM, Option.bind_some, nI_add]
        · have nO : ¬ nI O ≤ 0 := nI_nle (by omega) (by omega)
          obtain ⟨f1, g1, z1, h1, h2, h3, h4, h5⟩ := stir_ok hP hB hz (by omega) (by omega)
          refine ⟨f1, g1, z1, h1, fun M J hM => ?_, h3, h4, h5⟩
          rw [f_X12_drift_L18, if_neg (nI_ge (by omega) (by omega)), q1 M hM, Option.bind_some, if_neg nC, q2 M hM, Option.bind_some, if_neg nO, h2 M J hM, Option.bind_some, yg M g1 hM, Option.bind_some, nI_add]
    obtain ⟨f1, g1, z1, h1, h2, h3, h4, h5⟩ := hst
    obtain ⟨y1, y2⟩ := year_RP h3 h4
    obtain ⟨f', g', z', r1, r2, r3⟩ := drift_ok hy k (i + 1) n m z1 (YC C O f1) (YM C O dn g1) (by omega) (by omega) (by omega) y1 y2 h5
    refine ⟨f', g', z', fun M => ?_, fun M J hM => ?_, r3⟩
    · have hpy := passYear_eq (M := MC M f1 z1) (l := l) (C := C) (O := O) (by rw [MC_2]; exact h4)
      rw [f_X11_drift_L25, if_neg (nI_ge (by omega) (by omega)), h1 M, Option.bind_some, hpy, Option.bind_some, MC_ms, MC_2, nI_add]
      exact r1 M
    · rw [h2 M J hM]
      exact r2 M J hM
theorem MC_self (M : qM) {z : Nat} (h : M 12 0 = nI z) : MC M (M 2) z = M := by
  funext a
  by_cases h1 : a = 2
  · subst h1; exact MC_2 _ _ _
  · by_cases h2 : a = 12
    · subst h2
      rw [MC_12r]
      funext b
      by_cases hb : b = 0
      · subst hb; rw [pk_us, h]
      · rw [pk_un hb]
    · exact MC_ne _ _ _ h1 h2
theorem qv_self (J : qJ) {z : Nat} (h : J 25 8 = lN z) : qv J 25 8 (lN z) = J := by
  funext p q
  unfold qv
  by_cases h1 : p = 25
  · rw [if_pos h1]
    by_cases h2 : q = 8
    · rw [if_pos h2, h1, h2, h]
    · rw [if_neg h2]
  · rw [if_neg h1]
theorem op_drift {M : qM} {J : qJ} (hI : Inv M J) (a1 : Int32) : ∃ r M1 M2 J2, f_X11_drift a1 M = some (r, M1) ∧ f_X12_drift a1 M1 J = some (r, M2, J2) ∧ Inv M2 J2 := by
  obtain ⟨l, C, O, hP, hB, hT, hF, ⟨z, hz, s1, s2⟩, hY, hK, hU, hM, hR⟩ := id hI
  obtain ⟨v, e1, e2⟩ := refusal_eq hP a1
  unfold f_X11_drift f_X12_drift
  rw [e1, Option.bind_some]
  by_cases hv : v = 0
  · obtain ⟨y, -, hy, rfl⟩ := inb_nI ((e2 M rfl rfl).2 hv) (by decide) (by decide)
    obtain ⟨n, x, g1, g2, hrem⟩ := rem_ok hP hB hU
    obtain ⟨f', g', z', r1, r2, r3, r4, r5⟩ := drift_ok (dn := M 26) hy y 0 qF qF z (M 2) (M 28) (by omega) (by rw [qF_val]; omega) (by rw [qF_val]; omega) hP hB hz
    obtain ⟨p', e3, hPS⟩ := hrem (MC (Mrem M n x) f' z') rfl rfl rfl
    refine ⟨f' 3, MC (Mrem M n x) f' z', ms (Frem (MC (Mrem M n x) f' z') n p') 28 g', qv J 25 8 (lN z'), ?_, ?_, l, C, O, r3, r4, hT, hF, ⟨z', r5, rfl, rfl⟩, hY, hK, hPS, hM, hR⟩
    · rw [if_pos hv, g1, Option.bind_some]
      have := r1 (Mrem M n x)
      rw [show MC (Mrem M n x) (M 2) z = Mrem M n x from MC_self (Mrem M n x) s1] at this
      rw [show qu (qu (qcp M 2 8 0 (x * 172) 172) 7 1 (nI ((x + 1) % 16))) 7 0 (nI (min 16 (n + 1))) = Mrem M n x from rfl, this, Option.bind_some]
      unfold f_X5_years
      rw [rd2 (by omega)]
      rfl
    · rw [(e2 (MC (Mrem M n x) f' z') rfl rfl).1, Option.bind_some, if_pos hv, e3, Option.bind_some]
      have := r2 (Frem (MC (Mrem M n x) f' z') n p') J rfl
      rw [show ms (Frem (MC (Mrem M n x) f' z') n p') 28 (M 28) = Frem (MC (Mrem M n x) f' z') n p' from ms_self (Frem (MC (Mrem M n x) f' z') n p') 28, qv_self J s2] at this
      rw [show (fun a => if a = 25 then upd (MC (Mrem M n x) f' z' 25) 5 (nI (min 16 (n + 1))) else if a = 30 then p' else MC (Mrem M n x) f' z' a) = Frem (MC (Mrem M n x) f' z') n p' from rfl, this, Option.bind_some, rd28 (by omega), Option.bind_some, ← r3.1.2.2.2.1]
  · rw [if_neg hv]
    refine ⟨v, M, M, J, rfl, ?_, hI⟩
    rw [(e2 M rfl rfl).1, Option.bind_some, if_neg hv]
