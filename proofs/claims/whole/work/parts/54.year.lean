theorem RP_yr {r dn nw : Nat → Int32} {v : Int32} (h : RP r dn nw) : RP (upd r 3 v) dn (upd nw 0 v) := by
  obtain ⟨⟨a0, a1, a2, a3, a4, a5⟩, b, c, d, e⟩ := h
  have R : ∀ j, j ≠ 3 → upd r 3 v j = r j := fun j hj => pk_un hj
  have N : ∀ j, j ≠ 0 → upd nw 0 v j = nw j := fun j hj => pk_un hj
  refine ⟨⟨?_, ?_, ?_, ?_, ?_, ?_⟩, fun i hi => ?_, fun i hi => ?_, fun i hi => ?_, fun m hm hb i hi j hj => ?_⟩
  · rw [R 0 (by omega)]; exact a0
  · rw [R 1 (by omega)]; exact a1
  · rw [R 2 (by omega)]; exact a2
  · rw [pk_us, pk_us]
  · rw [R 4 (by omega), N 61 (by omega)]; exact a4
  · rw [R 5 (by omega), N 62 (by omega)]; exact a5
  · rw [R (6 + i) (by omega), R (12 + i) (by omega), R (18 + i) (by omega), N (1 + i) (by omega), N (7 + i) (by omega), N (13 + i) (by omega)]; exact b i hi
  · rw [R (24 + i) (by omega), N (19 + i) (by omega)]; exact c i hi
  · rw [R (54 + i) (by omega), R (60 + i) (by omega), R (66 + i) (by omega), N (49 + i) (by omega), N (55 + i) (by omega)]; exact d i hi
  · rw [R 5 (by omega)] at hb
    rw [R (72 + i * 5 + j) (by omega), N (63 + 5 * (m - 1 - i) + j) (by omega)]
    exact e m hm hb i hi j hj
theorem RP_st {r dn nw : Nat → Int32} {v : Int32} (h : RP r dn nw) : RP (upd r 4 v) dn (upd nw 61 v) := by
  obtain ⟨⟨a0, a1, a2, a3, a4, a5⟩, b, c, d, e⟩ := h
  have R : ∀ j, j ≠ 4 → upd r 4 v j = r j := fun j hj => pk_un hj
  have N : ∀ j, j ≠ 61 → upd nw 61 v j = nw j := fun j hj => pk_un hj
  refine ⟨⟨?_, ?_, ?_, ?_, ?_, ?_⟩, fun i hi => ?_, fun i hi => ?_, fun i hi => ?_, fun m hm hb i hi j hj => ?_⟩
  · rw [R 0 (by omega)]; exact a0
  · rw [R 1 (by omega)]; exact a1
  · rw [R 2 (by omega)]; exact a2
  · rw [R 3 (by omega), N 0 (by omega)]; exact a3
  · rw [pk_us, pk_us]
  · rw [R 5 (by omega), N 62 (by omega)]; exact a5
  · rw [R (6 + i) (by omega), R (12 + i) (by omega), R (18 + i) (by omega), N (1 + i) (by omega), N (7 + i) (by omega), N (13 + i) (by omega)]; exact b i hi
  · rw [R (24 + i) (by omega), N (19 + i) (by omega)]; exact c i hi
  · rw [R (54 + i) (by omega), R (60 + i) (by omega), R (66 + i) (by omega), N (49 + i) (by omega), N (55 + i) (by omega)]; exact d i hi
  · rw [R 5 (by omega)] at hb
    rw [R (72 + i * 5 + j) (by omega), N (63 + 5 * (m - 1 - i) + j) (by omega)]
    exact e m hm hb i hi j hj
theorem BD_yr {r : Nat → Int32} {l C O : Nat} {v : Int32} (h : BD r l C O) : BD (upd r 3 v) l C O := by
  obtain ⟨a, b, c, d, e, f, g, i, j⟩ := h
  have R : ∀ j, j ≠ 3 → upd r 3 v j = r j := fun j hj => pk_un hj
  refine ⟨?_, ?_, ?_, d, ?_, ?_, fun q hq => ?_, fun q hq => ?_, fun q hq => ?_⟩
  · rw [R 0 (by omega)]; exact a
  · rw [R 1 (by omega)]; exact b
  · rw [R 2 (by omega)]; exact c
  · rw [R 5 (by omega)]; exact e
  · rw [R 4 (by omega)]; exact f
  · rw [R (6 + q) (by omega), R (12 + q) (by omega)]; exact g q hq
  · rw [R (24 + q) (by omega)]; exact i q hq
  · rw [R (54 + q) (by omega), R (60 + q) (by omega), R (66 + q) (by omega)]; exact j q hq
theorem BD_st {r : Nat → Int32} {l C O : Nat} {v : Int32} (hv : ∃ t, t < 64 ∧ v = nI t) (h : BD r l C O) : BD (upd r 4 v) l C O := by
  obtain ⟨a, b, c, d, e, f, g, i, j⟩ := h
  have R : ∀ j, j ≠ 4 → upd r 4 v j = r j := fun j hj => pk_un hj
  refine ⟨?_, ?_, ?_, d, ?_, ?_, fun q hq => ?_, fun q hq => ?_, fun q hq => ?_⟩
  · rw [R 0 (by omega)]; exact a
  · rw [R 1 (by omega)]; exact b
  · rw [R 2 (by omega)]; exact c
  · rw [R 5 (by omega)]; exact e
  · rw [pk_us]; exact hv
  · rw [R (6 + q) (by omega), R (12 + q) (by omega)]; exact g q hq
  · rw [R (24 + q) (by omega)]; exact i q hq
  · rw [R (54 + q) (by omega), R (60 + q) (by omega), R (66 + q) (by omega)]; exact j q hq
/-- a memory with one cell another -/
def ms (M : qM) (q : Nat) (f : Nat → Int32) : qM := fun a => if a = q then f else M a
theorem ms_q (M : qM) (q : Nat) (f : Nat → Int32) : ms M q f q = f := if_pos rfl
theorem ms_ne (M : qM) {q a : Nat} (f : Nat → Int32) (h : a ≠ q) : ms M q f a = M a := if_neg h
theorem ms_self (M : qM) (q : Nat) : ms M q (M q) = M := by
  funext a
  unfold ms
  by_cases h : a = q
  · rw [if_pos h, h]
  · rw [if_neg h]
theorem ms_qu (M : qM) (q i : Nat) (f : Nat → Int32) (x : Int32) : qu (ms M q f) q i x = ms M q (upd f i x) := by
  funext a
  by_cases h : a = q
  · subst h; rw [qu_row, ms_q, ms_q]
  · rw [qu_ne _ _ _ _ h, ms_ne _ _ h, ms_ne _ _ h]
theorem ms_ms (M : qM) (q : Nat) (f g : Nat → Int32) : ms (ms M q f) q g = ms M q g := by
  funext a
  unfold ms
  by_cases h : a = q
  · rw [if_pos h, if_pos h]
  · rw [if_neg h, if_neg h, if_neg h]
theorem lesser_eq (a b : Int32) (M : qM) : f_X12_lesser a b M = some (qmin a b) := by
  unfold f_X12_lesser qmin
  by_cases h : b < a
  · rw [if_pos h, if_pos (by rw [fa_le]; rw [fa_lt] at h; omega)]
  · rw [if_neg h]
    by_cases h2 : b ≤ a
    · rw [if_pos h2]
      congr 1
      rw [fa_eq]; rw [fa_le] at h2; rw [fa_lt] at h; omega
    · rw [if_neg h2]
def anC (c : Nat) (f : Nat → Int32) : Nat → Int32 := if f (12 + c) = 0 then upd f (6 + c) (qmin (nI 99) (f (6 + c) + nI 1)) else f
def skC (o : Nat) (f : Nat → Int32) : Nat → Int32 := if f (54 + o) = 0 then upd f (60 + o) (qmin (nI 40) (f (60 + o) + nI 1)) else f
def anM (c : Nat) (f : Nat → Int32) : Nat → Int32 := if f (7 + c) = 0 then upd f (1 + c) (qmin (nI 99) (f (1 + c) + nI 1)) else f
def skM (dn : Nat → Int32) (o : Nat) (f : Nat → Int32) : Nat → Int32 := if dn (39 + o) = 0 then upd f (49 + o) (qmin (nI 40) (f (49 + o) + nI 1)) else f
def YC (C O : Nat) (r : Nat → Int32) : Nat → Int32 := upd (upd (IT skC O 0 (IT anC C 0 r)) 4 (nI 0)) 3 (IT skC O 0 (IT anC C 0 r) 3 + nI 1)
def YM (C O : Nat) (dn nw : Nat → Int32) : Nat → Int32 := upd (upd (IT (skM dn) O 0 (IT anM C 0 nw)) 61 (nI 0)) 0 (IT (skM dn) O 0 (IT anM C 0 nw) 0 + nI 1)
theorem IT_inv {α : Type} {s : Nat → α → α} (P : α → Prop) : ∀ (m i : Nat) (a : α), P a → (∀ k x, i ≤ k → k < i + m → P x → P (s k x)) → P (IT s m i a)
  | 0, _, _, h, _ => h
  | m + 1, i, a, h, hs => IT_inv P m (i + 1) (s i a) (hs i a (by omega) (by omega) h) (fun k x h1 h2 => hs k x (by omega) (by omega))
theorem IT_rel {α β : Type} {s : Nat → α → α} {t : Nat → β → β} (P : α → β → Prop) : ∀ (m i : Nat) (a : α) (b : β), P a b → (∀ k x y, i ≤ k → k < i + m → P x y → P (s k x) (t k y)) → P (IT s m i a) (IT t m i b)
  | 0, _, _, _, h, _ => h
  | m + 1, i, a, b, h, hs => IT_rel P m (i + 1) (s i a) (t i b) (hs i a b (by omega) (by omega) h) (fun k x y h1 h2 => hs k x y (by omega) (by omega))
theorem anC_1 (c : Nat) (f : Nat → Int32) {j : Nat} (h : j ≠ 6 + c) : anC c f j = f j := by
  unfold anC; split
  · exact pk_un h
  · rfl
theorem skC_1 (c : Nat) (f : Nat → Int32) {j : Nat} (h : j ≠ 60 + c) : skC c f j = f j := by
  unfold skC; split
  · exact pk_un h
  · rfl
theorem passYear_eq {M : qM} {l C O : Nat} (hB : BD (M 2) l C O) : f_X5_passYear M = some (ms M 2 (YC C O (M 2))) := by
  have hC := hBc hB
  have hO := hBo hB
  unfold f_X5_passYear
  have k1 := up1 (F := fun n (f : Nat → Int32) i => f_X5_passYear_L2 n i (ms M 2 f)) (N := C) (step := anC) (fin := fun f => (nI C, ms M 2 f)) (fun _ f => f 1 = nI C ∧ f 2 = nI O) (fun n f hf => ?_) (fun n i f hi hf => ⟨?_, ?_⟩) C 0 qF (M 2) (by omega) (by rw [qF_val]; omega) ⟨hC.1, hO.1⟩
  have k2 := up1 (F := fun n (f : Nat → Int32) i => f_X5_passYear_L43 n i (ms M 2 f)) (N := O) (step := skC) (fin := fun f => (nI O, ms M 2 f)) (fun _ f => f 1 = nI C ∧ f 2 = nI O) (fun n f hf => ?_) (fun n i f hi hf => ⟨?_, ?_⟩) O 0 qF (IT anC C 0 (M 2)) (by omega) (by rw [qF_val]; omega) k1.2
  · have k1 := k1.1
    have k2 := k2.1
    rw [ms_self] at k1
    rw [k1]
    simp only [Option.bind_some]
    rw [k2]
    simp only [Option.bind_some]
    rw [qwr_nI (by omega) (by decide), ms_qu]
    simp only [Option.bind_some]
    rw [qrd_nI (by omega) (by decide), ms_q]
    simp only [Option.bind_some]
    rw [qwr_nI (by omega) (by decide), ms_qu, pk_un (by omega)]
    rfl
  · show f_X5_passYear_L43 _ _ _ = _
    rw [f_X5_passYear_L43]
    unfold f_X5_objectors
    rw [qrd_nI (by omega) (by decide), ms_q, hf.2]
    simp only [Option.bind_some]
    rw [if_pos (nI_le (Nat.le_refl _) (by omega))]
  · show f_X5_passYear_L43 _ _ _ = f_X5_passYear_L43 _ _ _
    rw [f_X5_passYear_L43]
    unfold f_X5_objectors f_X5_kind f_X5_skill f_X5_setSkill skC
    rw [qrd_nI (by omega) (by decide), ms_q, hf.2]
    simp only [Option.bind_some]
    rw [if_neg (nI_ge hi (by omega))]
    simp only [nI_add, qrd_nI (show 54 + i < 172 by omega) (show 172 < 2 ^ 31 by decide), qrd_nI (show 60 + i < 172 by omega) (show 172 < 2 ^ 31 by decide), qwr_nI (show 60 + i < 172 by omega) (show 172 < 2 ^ 31 by decide), Option.bind_some, ms_q, ms_qu]
    split <;> rfl
  · exact ⟨by rw [skC_1 _ _ (by omega)]; exact hf.1, by rw [skC_1 _ _ (by omega)]; exact hf.2⟩
  · show f_X5_passYear_L2 _ _ _ = _
    rw [f_X5_passYear_L2]
    unfold f_X5_couples
    rw [qrd_nI (by omega) (by decide), ms_q, hf.1]
    simp only [Option.bind_some]
    rw [if_pos (nI_le (Nat.le_refl _) (by omega))]
  · show f_X5_passYear_L2 _ _ _ = f_X5_passYear_L2 _ _ _
    rw [f_X5_passYear_L2]
    unfold f_X5_couples f_X5_waits f_X5_answer f_X5_setAnswer anC
    rw [qrd_nI (by omega) (by decide), ms_q, hf.1]
    simp only [Option.bind_some]
    rw [if_neg (nI_ge hi (by omega))]
    simp only [nI_add, qrd_nI (show 12 + i < 172 by omega) (show 172 < 2 ^ 31 by decide), qrd_nI (show 6 + i < 172 by omega) (show 172 < 2 ^ 31 by decide), qwr_nI (show 6 + i < 172 by omega) (show 172 < 2 ^ 31 by decide), Option.bind_some, ms_q, ms_qu]
    by_cases h : f (12 + i) = 0
    · simp only [if_pos h, Option.bind_some, if_true]
    · simp only [if_neg h, Option.bind_some, Bool.false_eq_true, if_false]
  · exact ⟨by rw [anC_1 _ _ (by omega)]; exact hf.1, by rw [anC_1 _ _ (by omega)]; exact hf.2⟩
theorem yearGoes28_eq {M : qM} {C O : Nat} (hC : M 26 1 = nI C) (hO : M 26 2 = nI O) (hC6 : C ≤ 6) (hO6 : O ≤ 6) : f_X12_yearGoes_at25_28 M = some (ms M 28 (YM C O (M 26) (M 28))) := by
  unfold f_X12_yearGoes_at25_28
  have k1 := up1 (F := fun n (f : Nat → Int32) i => f_X12_yearGoes_at25_28_L2 n i (ms M 28 f)) (N := C) (step := anM) (fin := fun f => (nI C, ms M 28 f)) (fun _ _ => True) (fun n f _ => ?_) (fun n i f hi _ => ⟨?_, trivial⟩) C 0 qF (M 28) (by omega) (by rw [qF_val]; omega) trivial
  have k2 := up1 (F := fun n (f : Nat → Int32) i => f_X12_yearGoes_at25_28_L54 n i (ms M 28 f)) (N := O) (step := skM (M 26)) (fin := fun f => (nI O, ms M 28 f)) (fun _ _ => True) (fun n f _ => ?_) (fun n i f hi _ => ⟨?_, trivial⟩) O 0 qF (IT anM C 0 (M 28)) (by omega) (by rw [qF_val]; omega) trivial
  · have k1 := k1.1
    have k2 := k2.1
    rw [ms_self] at k1
    rw [k1]
    simp only [Option.bind_some]
    rw [k2]
    simp only [Option.bind_some]
    rw [qwr_nI (by omega) (by decide), ms_qu]
    simp only [Option.bind_some]
    rw [qrd_nI (by omega) (by decide), ms_q]
    simp only [Option.bind_some]
    rw [qwr_nI (by omega) (by decide), ms_qu, pk_un (by omega)]
    rfl
  · show f_X12_yearGoes_at25_28_L54 _ _ _ = _
    rw [f_X12_yearGoes_at25_28_L54, qrd_nI (by omega) (by decide), ms_ne _ _ (by decide), hO]
    simp only [Option.bind_some]
    rw [if_pos (nI_le (Nat.le_refl _) (by omega))]
  · show f_X12_yearGoes_at25_28_L54 _ _ _ = f_X12_yearGoes_at25_28_L54 _ _ _
    rw [f_X12_yearGoes_at25_28_L54, qrd_nI (by omega) (by decide), ms_ne _ _ (by decide), hO]
    unfold skM
    simp only [Option.bind_some]
    rw [if_neg (nI_ge hi (by omega))]
    have e26 : ms M 28 f 26 = M 26 := ms_ne _ _ (by decide)
    simp only [nI_add, qrd_nI (show 39 + i < 57 by omega) (show 57 < 2 ^ 31 by decide), qrd_nI (show 49 + i < 163 by omega) (show 163 < 2 ^ 31 by decide), qwr_nI (show 49 + i < 163 by omega) (show 163 < 2 ^ 31 by decide), Option.bind_some, ms_q, ms_qu, lesser_eq, e26, fa_upd_same (f := f) (i := 49 + i) rfl]
    split <;> rfl
  · show f_X12_yearGoes_at25_28_L2 _ _ _ = _
    rw [f_X12_yearGoes_at25_28_L2, qrd_nI (by omega) (by decide), ms_ne _ _ (by decide), hC]
    simp only [Option.bind_some]
    rw [if_pos (nI_le (Nat.le_refl _) (by omega))]
  · show f_X12_yearGoes_at25_28_L2 _ _ _ = f_X12_yearGoes_at25_28_L2 _ _ _
    rw [f_X12_yearGoes_at25_28_L2, qrd_nI (by omega) (by decide), ms_ne _ _ (by decide), hC]
    unfold anM
    simp only [Option.bind_some]
    rw [if_neg (nI_ge hi (by omega))]
    simp only [nI_add, qrd_nI (show 7 + i < 163 by omega) (show 163 < 2 ^ 31 by decide), qrd_nI (show 1 + i < 163 by omega) (show 163 < 2 ^ 31 by decide), qwr_nI (show 1 + i < 163 by omega) (show 163 < 2 ^ 31 by decide), Option.bind_some, ms_q, ms_qu, lesser_eq, fa_upd_same (f := f) (i := 1 + i) rfl]
    split <;> rfl
theorem yearGoes29_eq {M : qM} {C O : Nat} (hC : M 26 1 = nI C) (hO : M 26 2 = nI O) (hC6 : C ≤ 6) (hO6 : O ≤ 6) : f_X12_yearGoes_at25_29 M = some (ms M 29 (YM C O (M 26) (M 29))) := by
  unfold f_X12_yearGoes_at25_29
  have k1 := up1 (F := fun n (f : Nat → Int32) i => f_X12_yearGoes_at25_29_L2 n i (ms M 29 f)) (N := C) (step := anM) (fin := fun f => (nI C, ms M 29 f)) (fun _ _ => True) (fun n f _ => ?_) (fun n i f hi _ => ⟨?_, trivial⟩) C 0 qF (M 29) (by omega) (by rw [qF_val]; omega) trivial
  have k2 := up1 (F := fun n (f : Nat → Int32) i => f_X12_yearGoes_at25_29_L54 n i (ms M 29 f)) (N := O) (step := skM (M 26)) (fin := fun f => (nI O, ms M 29 f)) (fun _ _ => True) (fun n f _ => ?_) (fun n i f hi _ => ⟨?_, trivial⟩) O 0 qF (IT anM C 0 (M 29)) (by omega) (by rw [qF_val]; omega) trivial
  · have k1 := k1.1
    have k2 := k2.1
    rw [ms_self] at k1
    rw [k1]
    simp only [Option.bind_some]
    rw [k2]
    simp only [Option.bind_some]
    rw [qwr_nI (by omega) (by decide), ms_qu]
    simp only [Option.bind_some]
    rw [qrd_nI (by omega) (by decide), ms_q]
    simp only [Option.bind_some]
    rw [qwr_nI (by omega) (by decide), ms_qu, pk_un (by omega)]
    rfl
  · show f_X12_yearGoes_at25_29_L54 _ _ _ = _
    rw [f_X12_yearGoes_at25_29_L54, qrd_nI (by omega) (by decide), ms_ne _ _ (by decide), hO]
    simp only [Option.bind_some]
    rw [if_pos (nI_le (Nat.le_refl _) (by omega))]
  · show f_X12_yearGoes_at25_29_L54 _ _ _ = f_X12_yearGoes_at25_29_L54 _ _ _
    rw [f_X12_yearGoes_at25_29_L54, qrd_nI (by omega) (by decide), ms_ne _ _ (by decide), hO]
    unfold skM
    simp only [Option.bind_some]
    rw [if_neg (nI_ge hi (by omega))]
    have e26 : ms M 29 f 26 = M 26 := ms_ne _ _ (by decide)
    simp only [nI_add, qrd_nI (show 39 + i < 57 by omega) (show 57 < 2 ^ 31 by decide), qrd_nI (show 49 + i < 163 by omega) (show 163 < 2 ^ 31 by decide), qwr_nI (show 49 + i < 163 by omega) (show 163 < 2 ^ 31 by decide), Option.bind_some, ms_q, ms_qu, lesser_eq, e26, fa_upd_same (f := f) (i := 49 + i) rfl]
    split <;> rfl
  · show f_X12_yearGoes_at25_29_L2 _ _ _ = _
    rw [f_X12_yearGoes_at25_29_L2, qrd_nI (by omega) (by decide), ms_ne _ _ (by decide), hC]
    simp only [Option.bind_some]
    rw [if_pos (nI_le (Nat.le_refl _) (by omega))]
  · show f_X12_yearGoes_at25_29_L2 _ _ _ = f_X12_yearGoes_at25_29_L2 _ _ _
    rw [f_X12_yearGoes_at25_29_L2, qrd_nI (by omega) (by decide), ms_ne _ _ (by decide), hC]
    unfold anM
    simp only [Option.bind_some]
    rw [if_neg (nI_ge hi (by omega))]
    simp only [nI_add, qrd_nI (show 7 + i < 163 by omega) (show 163 < 2 ^ 31 by decide), qrd_nI (show 1 + i < 163 by omega) (show 163 < 2 ^ 31 by decide), qwr_nI (show 1 + i < 163 by omega) (show 163 < 2 ^ 31 by decide), Option.bind_some, ms_q, ms_qu, lesser_eq, fa_upd_same (f := f) (i := 1 + i) rfl]
    split <;> rfl
/-- a year, both sides -/
theorem year_RP {r dn nw : Nat → Int32} {l C O : Nat} (hP : RP r dn nw) (hB : BD r l C O) : RP (YC C O r) dn (YM C O dn nw) ∧ BD (YC C O r) l C O := by
  have hC6 := hB.2.1.2
  have hO6 := hB.2.2.1.2
  have h1 := IT_rel (s := anC) (t := anM) (fun r nw => RP r dn nw ∧ BD r l C O) C 0 r nw ⟨hP, hB⟩ (fun k x y _ hk h => by
    obtain ⟨h1, h2⟩ := h
    unfold anC anM
    rw [← (h1.2.1 k (by omega)).2.1, ← (h1.2.1 k (by omega)).1]
    by_cases hz : x (12 + k) = 0
    · rw [if_pos hz, if_pos hz]
      refine ⟨RP_a (by omega) h1, ?_⟩
      obtain ⟨⟨a, ha, e⟩, -⟩ := h2.2.2.2.2.2.2.1 k (by omega)
      rw [e, nI_add, qmin_nI (by omega) (by omega)]
      exact BD_a (by omega) (by omega) h2
    · rw [if_neg hz, if_neg hz]; exact ⟨h1, h2⟩)
  have h2 := IT_rel (s := skC) (t := skM dn) (fun r nw => RP r dn nw ∧ BD r l C O) O 0 _ _ h1 (fun k x y _ hk h => by
    obtain ⟨h1, h2⟩ := h
    unfold skC skM
    rw [← (h1.2.2.2.1 k (by omega)).1, ← (h1.2.2.2.1 k (by omega)).2.1]
    by_cases hz : x (54 + k) = 0
    · rw [if_pos hz, if_pos hz]
      refine ⟨RP_s (by omega) h1, ?_⟩
      obtain ⟨-, ⟨s, hs, e⟩, -⟩ := h2.2.2.2.2.2.2.2.2 k (by omega)
      rw [e, nI_add, qmin_nI (by omega) (by omega)]
      exact BD_s (by omega) (by omega) h2
    · rw [if_neg hz, if_neg hz]; exact ⟨h1, h2⟩)
  unfold YC YM
  refine ⟨?_, BD_yr (BD_st ⟨0, by omega, rfl⟩ h2.2)⟩
  rw [h2.1.1.2.2.2.1]
  exact RP_yr (RP_st h2.1)
theorem BD_year {r : Nat → Int32} {l C O : Nat} (hB : BD r l C O) : BD (YC C O r) l C O := by
  have hC6 := hB.2.1.2
  have hO6 := hB.2.2.1.2
  have h1 := IT_inv (s := anC) (fun r => BD r l C O) C 0 r hB (fun k x _ hk h2 => by
    unfold anC
    split
    · obtain ⟨⟨a, ha, e⟩, -⟩ := h2.2.2.2.2.2.2.1 k (by omega)
      rw [e, nI_add, qmin_nI (by omega) (by omega)]
      exact BD_a (by omega) (by omega) h2
    · exact h2)
  have h2 := IT_inv (s := skC) (fun r => BD r l C O) O 0 _ h1 (fun k x _ hk h2 => by
    unfold skC
    split
    · obtain ⟨-, ⟨s, hs, e⟩, -⟩ := h2.2.2.2.2.2.2.2.2 k (by omega)
      rw [e, nI_add, qmin_nI (by omega) (by omega)]
      exact BD_s (by omega) (by omega) h2
    · exact h2)
  unfold YC
  exact BD_yr (BD_st ⟨0, by omega, rfl⟩ h2)
theorem refusal_eq {M : qM} (hP : RP (M 2) (M 26) (M 28)) (a1 : Int32) : ∃ v, f_X11_refusalOfYears a1 M = some v ∧ ∀ M1 : qM, M1 26 = M 26 → M1 28 = M 28 → f_X12_refuses a1 M1 = some v ∧ (v = 0 → inb a1 (nI 1) (nI 60) = true) := by
  unfold f_X11_refusalOfYears f_X12_refuses f_X5_least f_X5_years
  rw [isOutside_eq, qrd_nI (by omega) (by decide), qrd_nI (by omega) (by decide), hP.1.1, hP.1.2.2.2.1]
  simp only [in_ll _ _ (show 1 < 2 ^ 31 by decide) (show 60 < 2 ^ 31 by decide), Option.bind_some, qrd_nI (show 0 < 57 by decide) (show 57 < 2 ^ 31 by decide), qrd_nI (show 0 < 163 by decide) (show 163 < 2 ^ 31 by decide)]
  cases inb a1 (nI 1) (nI 60) with
  | false => exact ⟨(-1000000002 : Int32), rfl, fun M1 _ _ => ⟨rfl, fun h => absurd h (by decide)⟩⟩
  | true =>
    simp only [Bool.not_true, Bool.false_eq_true, if_false, if_true]
    by_cases h1 : M 26 0 = 0
    · rw [if_pos h1]; exact ⟨_, rfl, fun M1 e1 e2 => ⟨by rw [e1, if_pos h1], fun _ => trivial⟩⟩
    · rw [if_neg h1]
      by_cases h2 : M 28 0 ≤ nI 9000
      · rw [if_pos h2]; exact ⟨_, rfl, fun M1 e1 e2 => ⟨by rw [e1, e2, if_neg h1, if_pos h2], fun _ => trivial⟩⟩
      · rw [if_neg h2]; exact ⟨_, rfl, fun M1 e1 e2 => ⟨by rw [e1, e2, if_neg h1, if_neg h2], fun _ => trivial⟩⟩
theorem op_year {M : qM} {J : qJ} (hI : Inv M J) (a1 : Int32) : ∃ r M1 M2, f_X11_year a1 M = some (r, M1) ∧ f_X12_year a1 M1 = some (r, M2) ∧ Inv M2 J := by
  obtain ⟨l, C, O, hP, hB, hT, hF, hS, hY, hK, hU, hM, hR⟩ := id hI
  obtain ⟨v, e1, e2⟩ := refusal_eq hP a1
  unfold f_X11_year f_X12_year
  rw [e1]
  simp only [Option.bind_some]
  by_cases hv : v = 0
  · obtain ⟨y, -, hy, rfl⟩ := inb_nI ((e2 M rfl rfl).2 hv) (by decide) (by decide)
    obtain ⟨n, x, g1, g2, hrem⟩ := rem_ok hP hB hU
    have hC6 := hB.2.1.2
    have hO6 := hB.2.2.1.2
    have kc := up1 (F := fun n' (f : Nat → Int32) i => f_X11_year_L25 (nI y) n' i (ms (Mrem M n x) 2 f)) (N := y) (step := fun _ f => YC C O f) (fin := fun f => (nI y, ms (Mrem M n x) 2 f)) (fun _ f => BD f l C O) (fun n' f hf => ?_) (fun n' i f hi hf => ⟨?_, ?_⟩) y 0 qF (M 2) (by omega) (by rw [qF_val]; omega) hB
    · obtain ⟨p', e3, hPS⟩ := hrem (ms (Mrem M n x) 2 (IT (fun _ f => YC C O f) y 0 (M 2))) rfl rfl rfl
      have hrel := IT_rel (s := fun _ f => YC C O f) (t := fun _ f => YM C O (M 26) f) (fun r nw => RP r (M 26) nw ∧ BD r l C O) y 0 (M 2) (M 28) ⟨hP, hB⟩ (fun k a b _ _ h => year_RP h.1 h.2)
      have km := up1 (F := fun n' (f : Nat → Int32) i => f_X12_year_L18 (nI y) n' i (ms (Frem (ms (Mrem M n x) 2 (IT (fun _ f => YC C O f) y 0 (M 2))) n p') 28 f)) (N := y) (step := fun _ f => YM C O (M 26) f) (fin := fun f => (nI y, ms (Frem (ms (Mrem M n x) 2 (IT (fun _ f => YC C O f) y 0 (M 2))) n p') 28 f)) (fun _ _ => True) (fun n' f _ => ?_) (fun n' i f hi _ => ⟨?_, trivial⟩) y 0 qF (M 28) (by omega) (by rw [qF_val]; omega) trivial
      · refine ⟨IT (fun _ f => YC C O f) y 0 (M 2) 3, ms (Mrem M n x) 2 (IT (fun _ f => YC C O f) y 0 (M 2)), ms (Frem (ms (Mrem M n x) 2 (IT (fun _ f => YC C O f) y 0 (M 2))) n p') 28 (IT (fun _ f => YM C O (M 26) f) y 0 (M 28)), ?_, ?_, l, C, O, hrel.1, hrel.2, hT, hF, hS, hY, hK, hPS, hM, hR⟩
        · rw [if_pos hv, g1]
          simp only [Option.bind_some]
          have := kc.1
          rw [show ms (Mrem M n x) 2 (M 2) = Mrem M n x from ms_self (Mrem M n x) 2] at this
          rw [this]
          simp only [Option.bind_some, f_X5_years]
          rw [qrd_nI (by omega) (by decide)]
          rfl
        · rw [(e2 (ms (Mrem M n x) 2 (IT (fun _ f => YC C O f) y 0 (M 2))) rfl rfl).1]
          simp only [Option.bind_some]
          rw [if_pos hv, e3]
          simp only [Option.bind_some]
          have := km.1
          rw [show ms (Frem (ms (Mrem M n x) 2 (IT (fun _ f => YC C O f) y 0 (M 2))) n p') 28 (M 28) = Frem (ms (Mrem M n x) 2 (IT (fun _ f => YC C O f) y 0 (M 2))) n p' from ms_self (Frem (ms (Mrem M n x) 2 (IT (fun _ f => YC C O f) y 0 (M 2))) n p') 28] at this
          rw [this]
          simp only [Option.bind_some]
          rw [qrd_nI (by omega) (by decide), hrel.1.1.2.2.2.1]
          rfl
      · show f_X12_year_L18 _ _ _ _ = _
        rw [f_X12_year_L18, if_pos (nI_le (Nat.le_refl _) (by omega))]
      · show f_X12_year_L18 _ _ _ _ = f_X12_year_L18 _ _ _ _
        have c1 : (ms (Frem (ms (Mrem M n x) 2 (IT (fun _ f => YC C O f) y 0 (M 2))) n p') 28 f) 26 1 = nI C := (show M 26 1 = nI C from h26c hP hB)
        have c2 : (ms (Frem (ms (Mrem M n x) 2 (IT (fun _ f => YC C O f) y 0 (M 2))) n p') 28 f) 26 2 = nI O := (show M 26 2 = nI O from h26o hP hB)
        rw [f_X12_year_L18, if_neg (nI_ge hi (by omega)), yearGoes28_eq c1 c2 hC6 hO6, nI_add, ms_ms, ms_q]
        rfl
    · show f_X11_year_L25 _ _ _ _ = _
      rw [f_X11_year_L25, if_pos (nI_le (Nat.le_refl _) (by omega))]
    · show f_X11_year_L25 _ _ _ _ = f_X11_year_L25 _ _ _ _
      have hf2 : BD ((ms (Mrem M n x) 2 f) 2) l C O := hf
      rw [f_X11_year_L25, if_neg (nI_ge hi (by omega)), passYear_eq hf2, nI_add, ms_ms, ms_q]
      rfl
    · exact IT_inv (fun r => BD r l C O) 1 0 f hf (s := fun _ f => YC C O f) (fun k z _ _ hz => (BD_year hz))
  · rw [if_neg hv]
    refine ⟨v, M, M, rfl, ?_, hI⟩
    rw [(e2 M rfl rfl).1]
    simp only [Option.bind_some]
    rw [if_neg hv]
