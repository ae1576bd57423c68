-- both readers side by side
def CM (M : qM) (w h : Nat → Int32) : qM := ms (ms M 5 w) 3 h
theorem CM_3 (M : qM) (w h : Nat → Int32) : CM M w h 3 = h := ms_q _ _ _
theorem CM_5 (M : qM) (w h : Nat → Int32) : CM M w h 5 = w := rfl
theorem CM_6 (M : qM) (w h : Nat → Int32) : CM M w h 6 = M 6 := rfl
theorem CM_u5 (M : qM) (w h : Nat → Int32) (j : Nat) (v : Int32) : qu (CM M w h) 5 j v = CM M (upd w j v) h := by
  unfold CM; rw [ms_comm _ (show 5 ≠ 3 by decide), ms_qu, ms_comm _ (show 3 ≠ 5 by decide)]
theorem CM_u3 (M : qM) (w h : Nat → Int32) (j : Nat) (v : Int32) : qu (CM M w h) 3 j v = CM M w (upd h j v) := by unfold CM; rw [ms_qu]
theorem num_b {T U : Nat → Int32} {tx : Nat → Nat} {n p lo hi : Nat} {fa : Int32} {h g : Nat → Int32} (hT : TXT T tx n) (hU : TXT U tx n) (hs : St h n p 0 fa) (h10 : g 10 = nI n) (h16 : g 16 = nI p) (hp : p ≤ n) (hlo : lo < 1000) (hhi : hi < 1000) :
    (∃ v p' h' g', lo ≤ v ∧ v ≤ hi ∧ p ≤ p' ∧ p' ≤ n ∧ St h' n p' 0 fa ∧ MS g' g p' ∧ (∀ (M : qM) (w : Nat → Int32), M 6 = T → f_X7_number (nI lo) (nI hi) (CM M w h) = some (nI v, CM M w h')) ∧ ∀ (M : qM) (rd : Nat → Int32) (pl : Nat), M 33 = U → pl < 57 → f_X12_number (nI pl) (nI lo) (nI hi) (NM M rd g) = some (true, NM M (upd rd pl (nI v)) g')) ∨
    (∃ v p' k q h' g', 0 < k ∧ k < 10 ∧ p' ≤ n ∧ St h' n p' k (nI q) ∧ MF g' g k q ∧ (∀ (M : qM) (w : Nat → Int32), M 6 = T → f_X7_number (nI lo) (nI hi) (CM M w h) = some (v, CM M w h')) ∧ ∀ (M : qM) (rd : Nat → Int32) (pl : Nat), M 33 = U → f_X12_number (nI pl) (nI lo) (nI hi) (NM M rd g) = some (false, NM M rd g')) := by
  obtain ⟨h', a1, a2⟩ := number_c (lo := lo) (hi := hi) hT hs hp (by omega) hlo hhi
  obtain ⟨m1, m2⟩ := number_m (lo := lo) (hi := hi) hU h10 h16 hp hlo hhi
  have hq := SKP_le (tx := tx) hp
  have hl := NV_le (tx := tx) hp
  by_cases h0 : nf tx n lo hi p = 0
  · obtain ⟨g', b1, b2⟩ := m1 h0
    have hb : isD tx n (SKP tx n p) ∧ ¬ (3 < (NV tx n p).1 - SKP tx n p ∨ (NV tx n p).2 < lo ∨ hi < (NV tx n p).2) := by
      unfold nf at h0
      by_cases hd : isD tx n (SKP tx n p)
      · rw [if_pos hd] at h0
        refine ⟨hd, fun q => ?_⟩
        rw [if_pos q] at h0; omega
      · rw [if_neg hd] at h0; omega
    rw [h0, fl1_0, fl2_0] at a2
    exact Or.inl ⟨(NV tx n p).2, (NV tx n p).1, h', g', by omega, by omega, by omega, by omega, a2, b1, fun M w hM => a1 (ms M 5 w) hM, b2⟩
  · obtain ⟨g', b1, b2⟩ := m2 h0
    have h2 : nf tx n lo hi p < 10 := by
      unfold nf
      split
      · split <;> omega
      · omega
    have e1 : fl1 0 (nf tx n lo hi p) = nf tx n lo hi p := if_pos rfl
    have e2 : fl2 0 fa (nf tx n lo hi p) (SKP tx n p) = nI (SKP tx n p) := if_pos ⟨rfl, h0⟩
    rw [e1, e2] at a2
    exact Or.inr ⟨nI (NV tx n p).2, (NV tx n p).1, nf tx n lo hi p, SKP tx n p, h', g', by omega, h2, by omega, a2, b1, fun M w hM => a1 (ms M 5 w) hM, b2⟩
theorem num_t {T : Nat → Int32} {tx : Nat → Nat} {n p fn lo hi : Nat} {fa : Int32} {h : Nat → Int32} (hT : TXT T tx n) (hs : St h n p fn fa) (hp : p ≤ n) (h0 : 0 < fn) (hfn : fn < 10) (hlo : lo < 1000) (hhi : hi < 1000) : ∃ v p' h', p' ≤ n ∧ St h' n p' fn fa ∧ ∀ (M : qM) (w : Nat → Int32), M 6 = T → f_X7_number (nI lo) (nI hi) (CM M w h) = some (v, CM M w h') := by
  obtain ⟨h', a1, a2⟩ := number_c (lo := lo) (hi := hi) hT hs hp hfn hlo hhi
  have hl := NV_le (tx := tx) hp
  rw [show fl1 fn (nf tx n lo hi p) = fn from if_neg (by omega), show fl2 fn fa (nf tx n lo hi p) (SKP tx n p) = fa from if_neg (fun q => by omega)] at a2
  exact ⟨_, _, h', by omega, a2, fun M w hM => a1 (ms M 5 w) hM⟩
theorem ep_le {tx : Nat → Nat} {n ch p : Nat} (hp : p ≤ n) : p ≤ ep tx n ch p ∧ ep tx n ch p ≤ n := by
  have := SKP_le (tx := tx) hp
  unfold ep
  split <;> omega
theorem exp_t {T : Nat → Int32} {tx : Nat → Nat} {n p fn ch : Nat} {fa : Int32} {h : Nat → Int32} (hT : TXT T tx n) (hs : St h n p fn fa) (hp : p ≤ n) (h0 : 0 < fn) (hfn : fn < 10) (hch : ch < 256) : ∃ p' h', p' ≤ n ∧ St h' n p' fn fa ∧ ∀ (M : qM) (w : Nat → Int32), M 6 = T → f_X7_expect (nI ch) (CM M w h) = some (CM M w h') := by
  obtain ⟨h', a1, a2⟩ := expect_c (ch := ch) hT hs hp hfn hch
  rw [show fl1 fn (ef tx n ch p) = fn from if_neg (by omega), show fl2 fn fa (ef tx n ch p) (SKP tx n p) = fa from if_neg (fun q => by omega)] at a2
  exact ⟨_, h', (ep_le hp).2, a2, fun M w hM => a1 (ms M 5 w) hM⟩
theorem exp_b {T U : Nat → Int32} {tx : Nat → Nat} {n p ch : Nat} {fa : Int32} {h g : Nat → Int32} (hT : TXT T tx n) (hU : TXT U tx n) (hs : St h n p 0 fa) (h10 : g 10 = nI n) (h16 : g 16 = nI p) (hp : p ≤ n) (hch : ch < 256) (hd : ch < 48 ∨ 57 < ch) :
    (∃ p' h' g', p ≤ p' ∧ p' ≤ n ∧ St h' n p' 0 fa ∧ MS g' g p' ∧ g' 18 = nI ch ∧ (∀ (M : qM) (w : Nat → Int32), M 6 = T → f_X7_expect (nI ch) (CM M w h) = some (CM M w h')) ∧ ∀ (M : qM) (rd : Nat → Int32), M 33 = U → f_X12_step (NM M rd g) = some (NM M rd g')) ∨
    (∃ p' q h' g', p' ≤ n ∧ St h' n p' 1 (nI q) ∧ g' 17 = nI q ∧ (∀ j, j < 16 → g' j = g j) ∧ ¬ g' 18 = nI ch ∧ (∀ (M : qM) (w : Nat → Int32), M 6 = T → f_X7_expect (nI ch) (CM M w h) = some (CM M w h')) ∧ ∀ (M : qM) (rd : Nat → Int32), M 33 = U → f_X12_step (NM M rd g) = some (NM M rd g')) := by
  obtain ⟨h', a1, a2⟩ := expect_c (ch := ch) hT hs hp (by omega) hch
  obtain ⟨g', m1, m2, m3, m4, m5⟩ := expect_m (ch := ch) hU h10 h16 hp hch hd
  have hl := ep_le (tx := tx) (ch := ch) hp
  by_cases h0 : ef tx n ch p = 0
  · rw [h0, fl1_0, fl2_0] at a2
    exact Or.inl ⟨ep tx n ch p, h', g', hl.1, hl.2, a2, ⟨(m4 h0).2, m2⟩, (m4 h0).1, fun M w hM => a1 (ms M 5 w) hM, m1⟩
  · have e1 : ef tx n ch p = 1 := by
      unfold ef at h0 ⊢
      split at h0
      · omega
      · rw [if_neg (by assumption)]
    rw [e1, show fl1 0 1 = 1 from rfl, show fl2 0 fa 1 (SKP tx n p) = nI (SKP tx n p) from if_pos ⟨rfl, by omega⟩] at a2
    exact Or.inr ⟨ep tx n ch p, SKP tx n p, h', g', hl.2, a2, m3, m2, m5 h0, fun M w hM => a1 (ms M 5 w) hM, m1⟩
theorem end_b {T U : Nat → Int32} {tx : Nat → Nat} {n p : Nat} {fa : Int32} {h g : Nat → Int32} (hT : TXT T tx n) (hU : TXT U tx n) (hs : St h n p 0 fa) (h10 : g 10 = nI n) (h16 : g 16 = nI p) (hp : p ≤ n) :
    (∃ p' h' g', p ≤ p' ∧ p' ≤ n ∧ St h' n p' 0 fa ∧ MS g' g p' ∧ (∀ (M : qM) (w : Nat → Int32), M 6 = T → f_X7_expect (nI 59) (CM M w h) = some (CM M w h')) ∧ ∀ (M : qM) (rd : Nat → Int32), M 33 = U → f_X12_ends (NM M rd g) = some (true, NM M rd g')) ∨
    (∃ p' k q h' g', 0 < k ∧ k < 10 ∧ p' ≤ n ∧ St h' n p' k (nI q) ∧ MF g' g k q ∧ (∀ (M : qM) (w : Nat → Int32), M 6 = T → f_X7_expect (nI 59) (CM M w h) = some (CM M w h')) ∧ ∀ (M : qM) (rd : Nat → Int32), M 33 = U → f_X12_ends (NM M rd g) = some (false, NM M rd g')) := by
  rcases exp_b (ch := 59) hT hU hs h10 h16 hp (by omega) (by omega) with ⟨p', h', g', a1, a2, a3, a4, a5, a6, a7⟩ | ⟨p', q, h', g', a1, a2, a3, a4, a5, a6, a7⟩
  · refine Or.inl ⟨p', h', g', a1, a2, a3, a4, a6, fun M rd hM => ?_⟩
    unfold f_X12_ends
    rw [a7 M rd hM, Option.bind_some, NM_25, if_pos a5]
  · refine Or.inr ⟨p', 1, q, h', upd g' 21 (nI 1), by omega, by omega, a1, a2, ⟨?_, pk_us, fun j hj => ?_⟩, a6, fun M rd hM => ?_⟩
    · rw [pk_un (by decide)]; exact a3
    · rw [pk_un (by omega)]; exact a4 j hj
    · unfold f_X12_ends
      rw [a7 M rd hM, Option.bind_some, NM_25, if_neg a5, fails_eq, Option.bind_some]
      rfl
-- rows
def PR (i j B : Nat) : Prop := (i = 0 ∧ j = 0 ∧ B = 20) ∨ (6 ≤ i ∧ i < 12 ∧ j + 3 = i ∧ B = 60) ∨ (24 ≤ i ∧ i < 54 ∧ j + 15 = i ∧ B = 20) ∨ (54 ≤ i ∧ i < 60 ∧ j + 15 = i ∧ B = 3) ∨ (60 ≤ i ∧ i < 66 ∧ j + 15 = i ∧ B = 20) ∨ (66 ≤ i ∧ i < 72 ∧ j + 15 = i ∧ B = 31)
def WX (w rd : Nat → Int32) : Prop := (∀ i, (3 ≤ i ∧ i < 6 ∨ 12 ≤ i ∧ i < 18) → w i = nI 0) ∧ ∀ i j B, PR i j B → w i = rd j ∧ ∃ a, a ≤ B ∧ w i = nI a
theorem WX_u {w rd : Nat → Int32} {i0 j0 B0 v : Nat} (hp : PR i0 j0 B0) (hv : v ≤ B0) (h : WX w rd) : WX (upd w i0 (nI v)) (upd rd j0 (nI v)) := by
  refine ⟨fun i hi => ?_, fun i j B hq => ?_⟩
  · rw [pk_un (by unfold PR at hp; omega)]; exact h.1 i hi
  · by_cases hi : i = i0
    · have hj : j = j0 := by unfold PR at hp hq; omega
      have hB : B = B0 := by unfold PR at hp hq; omega
      subst hi hj hB
      rw [pk_us, pk_us]
      exact ⟨rfl, v, hv, rfl⟩
    · have hj : j ≠ j0 := by unfold PR at hp hq; omega
      rw [pk_un hi, pk_un hj]
      exact h.2 i j B hq
theorem WX_w {w rd : Nat → Int32} {i0 : Nat} {v : Int32} (hi : i0 = 1 ∨ i0 = 2) (h : WX w rd) : WX (upd w i0 v) rd := by
  refine ⟨fun i hj => ?_, fun i j B hq => ?_⟩
  · rw [pk_un (by omega)]; exact h.1 i hj
  · rw [pk_un (by unfold PR at hq; omega)]; exact h.2 i j B hq
theorem WX_r {w rd : Nat → Int32} {i0 : Nat} {v : Int32} (hi : i0 = 1 ∨ i0 = 2) (h : WX w rd) : WX w (upd rd i0 v) := by
  refine ⟨h.1, fun i j B hq => ?_⟩
  rw [pk_un (by unfold PR at hq; omega)]; exact h.2 i j B hq
/-- a clause: both end well, or both fail at one place with one number -/
def Both (T U : Nat → Int32) (n p : Nat) (fa : Int32) (w rd g : Nat → Int32) (fc : qM → Option qM) (fm : qM → Option (Bool × qM)) (R : (Nat → Int32) → (Nat → Int32) → Prop) : Prop :=
  (∃ p' h' g' w' rd', p ≤ p' ∧ p' ≤ n ∧ St h' n p' 0 fa ∧ MS g' g p' ∧ WX w' rd' ∧ R w' rd' ∧ (∀ M : qM, M 6 = T → fc M = some (CM M w' h')) ∧ ∀ M : qM, M 33 = U → fm M = some (true, NM M rd' g')) ∨
  (∃ p' k q h' g' w' rd', 0 < k ∧ k < 10 ∧ p' ≤ n ∧ St h' n p' k (nI q) ∧ MF g' g k q ∧ (∀ M : qM, M 6 = T → fc M = some (CM M w' h')) ∧ ∀ M : qM, M 33 = U → fm M = some (false, NM M rd' g'))
theorem MS_t {g g1 g2 : Nat → Int32} {p p' : Nat} (h1 : MS g1 g p) (h2 : MS g2 g1 p') : MS g2 g p' := ⟨h2.1, fun j hj => (h2.2 j hj).trans (h1.2 j hj)⟩
theorem MF_t {g g1 g2 : Nat → Int32} {p k q : Nat} (h1 : MS g1 g p) (h2 : MF g2 g1 k q) : MF g2 g k q := ⟨h2.1, h2.2.1, fun j hj => (h2.2.2 j hj).trans (h1.2 j hj)⟩
theorem least_b {T U : Nat → Int32} {tx : Nat → Nat} {n p : Nat} {fa : Int32} {w rd h g : Nat → Int32} (hT : TXT T tx n) (hU : TXT U tx n) (hs : St h n p 0 fa) (h10 : g 10 = nI n) (h16 : g 16 = nI p) (hp : p ≤ n) (hw : WX w rd) :
    Both T U n p fa w rd g (fun M => f_X7_readLeast (CM M w h)) (fun M => (f_X12_number (nI 0) (nI 1) (nI 20) (NM M rd g)).bind fun p5 => if p5.1 = true then (f_X12_ends p5.2).bind fun p10 => if p10.1 = true then some (true, p10.2)
    else some (false, p10.2)
    else some (false, p5.2)) (fun w' rd' => w' 1 = w 1 ∧ w' 2 = w 2 ∧ rd' 1 = rd 1 ∧ rd' 2 = rd 2 ∧ ∃ l, 0 < l ∧ w' 0 = nI l) := by
  have swr : ∀ (M : qM) (w h : Nat → Int32) (v : Int32), f_X5_setLeast_at4 v (CM M w h) = some (CM M (upd w 0 v) h) := fun M w h v => by
    unfold f_X5_setLeast_at4; rw [qwr_nI (by omega) (by decide), Option.bind_some, CM_u5]
  rcases num_b (lo := 1) (hi := 20) hT hU hs h10 h16 hp (by omega) (by omega) with ⟨v, p1, h1, g1, a1, a2, a3, a4, a5, a6, a7, a8⟩ | ⟨v, p1, k, q, h1, g1, a1, a2, a3, a4, a5, a6, a7⟩
  · rcases end_b hT hU a5 ((a6.2 10 (by omega)).trans h10) a6.1 a4 with ⟨p2, h2, g2, b1, b2, b3, b4, b5, b6⟩ | ⟨p2, k, q, h2, g2, b0, b1, b2, b3, b4, b5, b6⟩
    · refine Or.inl ⟨p2, h2, g2, upd w 0 (nI v), upd rd 0 (nI v), by omega, b2, b3, MS_t a6 b4, WX_u (Or.inl ⟨rfl, rfl, rfl⟩) a2 hw, ⟨pk_un (by decide), pk_un (by decide), pk_un (by decide), pk_un (by decide), v, by omega, pk_us⟩, fun M hM => ?_, fun M hM => ?_⟩
      · show f_X7_readLeast _ = _
        unfold f_X7_readLeast
        rw [a7 M w hM, Option.bind_some, b5 M w hM, Option.bind_some, swr, Option.bind_some]
      · show Option.bind _ _ = _
        rw [a8 M rd 0 hM (by omega), Option.bind_some, if_pos rfl, b6 M _ hM, Option.bind_some, if_pos rfl]
    · refine Or.inr ⟨p2, k, q, h2, g2, upd w 0 (nI v), upd rd 0 (nI v), b0, b1, b2, b3, MF_t a6 b4, fun M hM => ?_, fun M hM => ?_⟩
      · show f_X7_readLeast _ = _
        unfold f_X7_readLeast
        rw [a7 M w hM, Option.bind_some, b5 M w hM, Option.bind_some, swr, Option.bind_some]
      · show Option.bind _ _ = _
        rw [a8 M rd 0 hM (by omega), Option.bind_some, if_pos rfl, b6 M _ hM, Option.bind_some, if_neg (show ¬ ((false, _) : Bool × qM).1 = true from Bool.false_ne_true)]
  · obtain ⟨p2, h2, b1, b2, b3⟩ := exp_t (ch := 59) hT a4 a3 a1 a2 (by omega)
    refine Or.inr ⟨p2, k, q, h2, g1, upd w 0 v, rd, a1, a2, b1, b2, a5, fun M hM => ?_, fun M hM => ?_⟩
    · show f_X7_readLeast _ = _
      unfold f_X7_readLeast
      rw [a6 M w hM, Option.bind_some, b3 M w hM, Option.bind_some, swr, Option.bind_some]
    · show Option.bind _ _ = _
      rw [a7 M rd 0 hM, Option.bind_some, if_neg (show ¬ ((false, _) : Bool × qM).1 = true from Bool.false_ne_true)]
theorem addO_eq {M : qM} {w h : Nat → Int32} {o : Nat} {a b c : Int32} (h2 : w 2 = nI o) (ho : o < 6) : f_X5_addObjector_at4 a b c (CM M w h) = some (CM M (upd (upd (upd (upd w 2 (nI (o + 1))) (54 + o) a) (60 + o) b) (66 + o) c) h) := by
  unfold f_X5_addObjector_at4
  rw [qrd_nI (by omega) (by decide), CM_5, h2, Option.bind_some, nI_add, qwr_nI (by omega) (by decide), Option.bind_some, CM_u5, nI_add, nI_add, nI_add, qwr_nI (by omega) (by decide), Option.bind_some, CM_u5, qwr_nI (by omega) (by decide), Option.bind_some, CM_u5, qwr_nI (by omega) (by decide), Option.bind_some, CM_u5]
theorem objector_b {T U : Nat → Int32} {tx : Nat → Nat} {n p o : Nat} {fa : Int32} {w rd h g : Nat → Int32} (hT : TXT T tx n) (hU : TXT U tx n) (hs : St h n p 0 fa) (h10 : g 10 = nI n) (h16 : g 16 = nI p) (hp : p ≤ n) (hw : WX w rd) (hw2 : w 2 = nI o) (hr2 : rd 2 = nI o) (ho : o < 6) :
    Both T U n p fa w rd g (fun M => f_X7_readObjector (CM M w h)) (fun M => f_X12_readsObjector (NM M rd g)) (fun w' rd' => w' 0 = w 0 ∧ w' 1 = w 1 ∧ rd' 1 = rd 1 ∧ w' 2 = nI (o + 1) ∧ rd' 2 = nI (o + 1)) := by
  have e : ∀ M : qM, f_X12_readsObjector (NM M rd g) = ((f_X12_number (nI (39 + o)) (nI 0) (nI 3) (NM M (upd rd 2 (nI (o + 1))) g)).bind fun p12 => if p12.1 = true then (f_X12_number (nI (45 + o)) (nI 0) (nI 20) p12.2).bind fun p17 => if p17.1 = true then (f_X12_number (nI (51 + o)) (nI 0) (nI 31) p17.2).bind fun p22 => if p22.1 = true then (f_X12_ends p22.2).bind fun p27 => if p27.1 = true then some (true, p27.2)
    else some (false, p27.2)
    else some (false, p22.2)
    else some (false, p17.2)
    else some (false, p12.2)) := by
    intro M
    unfold f_X12_readsObjector
    rw [qrd_nI (by omega) (by decide), NM_27, hr2, Option.bind_some, if_neg (fun q => by have := (nI_eq (by omega) (by omega)).mp q; omega), Option.bind_some, nI_add, qwr_nI (by omega) (by decide), Option.bind_some, NM_u27, nI_add, nI_add, nI_add]
  have nt : ∀ (x : qM), ¬ ((false, x) : Bool × qM).1 = true := fun x => Bool.false_ne_true
  rcases num_b (lo := 0) (hi := 3) hT hU hs h10 h16 hp (by omega) (by omega) with ⟨v, p1, h1, g1, a1, a2, a3, a4, a5, a6, a7, a8⟩ | ⟨v, p1, k, q, h1, g1, a1, a2, a3, a4, a5, a6, a7⟩
  · rcases num_b (lo := 0) (hi := 20) hT hU a5 ((a6.2 10 (by omega)).trans h10) a6.1 a4 (by omega) (by omega) with ⟨v2, p2, h2, g2, b1, b2, b3, b4, b5, b6, b7, b8⟩ | ⟨v2, p2, k, q, h2, g2, b1, b2, b3, b4, b5, b6, b7⟩
    · have t2 := MS_t a6 b6
      rcases num_b (lo := 0) (hi := 31) hT hU b5 ((t2.2 10 (by omega)).trans h10) b6.1 b4 (by omega) (by omega) with ⟨v3, p3, h3, g3, c1, c2, c3, c4, c5, c6, c7, c8⟩ | ⟨v3, p3, k, q, h3, g3, c1, c2, c3, c4, c5, c6, c7⟩
      · have t3 := MS_t t2 c6
        rcases end_b hT hU c5 ((t3.2 10 (by omega)).trans h10) c6.1 c4 with ⟨p4, h4, g4, d1, d2, d3, d4, d5, d6⟩ | ⟨p4, k, q, h4, g4, d0, d1, d2, d3, d4, d5, d6⟩
        · refine Or.inl ⟨p4, h4, g4, upd (upd (upd (upd w 2 (nI (o + 1))) (54 + o) (nI v)) (60 + o) (nI v2)) (66 + o) (nI v3), upd (upd (upd (upd rd 2 (nI (o + 1))) (39 + o) (nI v)) (45 + o) (nI v2)) (51 + o) (nI v3), by omega, d2, d3, MS_t t3 d4, WX_u (i0 := 66 + o) (j0 := 51 + o) (B0 := 31) (by unfold PR; omega) c2 (WX_u (i0 := 60 + o) (j0 := 45 + o) (B0 := 20) (by unfold PR; omega) b2 (WX_u (i0 := 54 + o) (j0 := 39 + o) (B0 := 3) (by unfold PR; omega) a2 (WX_w (Or.inr rfl) (WX_r (Or.inr rfl) hw)))), ?_, fun M hM => ?_, fun M hM => ?_⟩
          · refine ⟨?_, ?_, ?_, ?_, ?_⟩
            · rw [pk_un (by omega), pk_un (by omega), pk_un (by omega), pk_un (by omega)]
            · rw [pk_un (by omega), pk_un (by omega), pk_un (by omega), pk_un (by omega)]
            · rw [pk_un (by omega), pk_un (by omega), pk_un (by omega), pk_un (by omega)]
            · rw [pk_un (by omega), pk_un (by omega), pk_un (by omega), pk_us]
            · rw [pk_un (by omega), pk_un (by omega), pk_un (by omega), pk_us]
          · show f_X7_readObjector _ = _
            unfold f_X7_readObjector
            rw [a7 M w hM, Option.bind_some, b7 M w hM, Option.bind_some, c7 M w hM, Option.bind_some, d5 M w hM, Option.bind_some, addO_eq hw2 ho, Option.bind_some]
          · show f_X12_readsObjector _ = _
            rw [e M, a8 M _ _ hM (by omega), Option.bind_some, if_pos rfl, b8 M _ _ hM (by omega), Option.bind_some, if_pos rfl, c8 M _ _ hM (by omega), Option.bind_some, if_pos rfl, d6 M _ hM, Option.bind_some, if_pos rfl]
        · refine Or.inr ⟨p4, k, q, h4, g4, upd (upd (upd (upd w 2 (nI (o + 1))) (54 + o) (nI v)) (60 + o) (nI v2)) (66 + o) (nI v3), upd (upd (upd (upd rd 2 (nI (o + 1))) (39 + o) (nI v)) (45 + o) (nI v2)) (51 + o) (nI v3), d0, d1, d2, d3, MF_t t3 d4, fun M hM => ?_, fun M hM => ?_⟩
          · show f_X7_readObjector _ = _
            unfold f_X7_readObjector
            rw [a7 M w hM, Option.bind_some, b7 M w hM, Option.bind_some, c7 M w hM, Option.bind_some, d5 M w hM, Option.bind_some, addO_eq hw2 ho, Option.bind_some]
          · show f_X12_readsObjector _ = _
            rw [e M, a8 M _ _ hM (by omega), Option.bind_some, if_pos rfl, b8 M _ _ hM (by omega), Option.bind_some, if_pos rfl, c8 M _ _ hM (by omega), Option.bind_some, if_pos rfl, d6 M _ hM, Option.bind_some, if_neg (nt _)]
      · obtain ⟨p4, h4, d1, d2, d3⟩ := exp_t (ch := 59) hT c4 c3 c1 c2 (by omega)
        refine Or.inr ⟨p4, k, q, h4, g3, upd (upd (upd (upd w 2 (nI (o + 1))) (54 + o) (nI v)) (60 + o) (nI v2)) (66 + o) v3, upd (upd (upd rd 2 (nI (o + 1))) (39 + o) (nI v)) (45 + o) (nI v2), c1, c2, d1, d2, MF_t t2 c5, fun M hM => ?_, fun M hM => ?_⟩
        · show f_X7_readObjector _ = _
          unfold f_X7_readObjector
          rw [a7 M w hM, Option.bind_some, b7 M w hM, Option.bind_some, c6 M w hM, Option.bind_some, d3 M w hM, Option.bind_some, addO_eq hw2 ho, Option.bind_some]
        · show f_X12_readsObjector _ = _
          rw [e M, a8 M _ _ hM (by omega), Option.bind_some, if_pos rfl, b8 M _ _ hM (by omega), Option.bind_some, if_pos rfl, c7 M _ _ hM, Option.bind_some, if_neg (nt _)]
    · obtain ⟨v3, p3, h3, c1, c2, c3⟩ := num_t (lo := 0) (hi := 31) hT b4 b3 b1 b2 (by omega) (by omega)
      obtain ⟨p4, h4, d1, d2, d3⟩ := exp_t (ch := 59) hT c2 c1 b1 b2 (by omega)
      refine Or.inr ⟨p4, k, q, h4, g2, upd (upd (upd (upd w 2 (nI (o + 1))) (54 + o) (nI v)) (60 + o) v2) (66 + o) v3, upd (upd rd 2 (nI (o + 1))) (39 + o) (nI v), b1, b2, d1, d2, MF_t a6 b5, fun M hM => ?_, fun M hM => ?_⟩
      · show f_X7_readObjector _ = _
        unfold f_X7_readObjector
        rw [a7 M w hM, Option.bind_some, b6 M w hM, Option.bind_some, c3 M w hM, Option.bind_some, d3 M w hM, Option.bind_some, addO_eq hw2 ho, Option.bind_some]
      · show f_X12_readsObjector _ = _
        rw [e M, a8 M _ _ hM (by omega), Option.bind_some, if_pos rfl, b7 M _ _ hM, Option.bind_some, if_neg (nt _)]
  · obtain ⟨v2, p2, h2, b1, b2, b3⟩ := num_t (lo := 0) (hi := 20) hT a4 a3 a1 a2 (by omega) (by omega)
    obtain ⟨v3, p3, h3, c1, c2, c3⟩ := num_t (lo := 0) (hi := 31) hT b2 b1 a1 a2 (by omega) (by omega)
    obtain ⟨p4, h4, d1, d2, d3⟩ := exp_t (ch := 59) hT c2 c1 a1 a2 (by omega)
    refine Or.inr ⟨p4, k, q, h4, g1, upd (upd (upd (upd w 2 (nI (o + 1))) (54 + o) v) (60 + o) v2) (66 + o) v3, upd rd 2 (nI (o + 1)), a1, a2, d1, d2, a5, fun M hM => ?_, fun M hM => ?_⟩
    · show f_X7_readObjector _ = _
      unfold f_X7_readObjector
      rw [a6 M w hM, Option.bind_some, b3 M w hM, Option.bind_some, c3 M w hM, Option.bind_some, d3 M w hM, Option.bind_some, addO_eq hw2 ho, Option.bind_some]
    · show f_X12_readsObjector _ = _
      rw [e M, a7 M _ _ hM, Option.bind_some, if_neg (nt _)]
