-- the reference's rounds
theorem bt_1 {s i : Nat} (hs : s < 64) (hi : i < 6) : decide (((nI s >>> (nI i &&& 31)) &&& nI 1) = nI 1) = bt s i := by
  rw [bit_nI (by omega) (by omega)]
  unfold bt
  have h : s / 2 ^ i % 2 = 0 ∨ s / 2 ^ i % 2 = 1 := by omega
  rcases h with h | h
  · rw [h]; rfl
  · rw [h]; rfl
theorem getD_l {l : List Nat} {x j : Nat} (h : j < l.length) : (l ++ [x]).getD j 0 = l.getD j 0 := by
  rw [List.getD_eq_getElem?_getD, List.getD_eq_getElem?_getD, List.getElem?_append_left h]
theorem getD_r {l : List Nat} {x : Nat} : (l ++ [x]).getD l.length 0 = x := by
  rw [List.getD_eq_getElem?_getD, List.getElem?_append_right (Nat.le_refl _), Nat.sub_self]; rfl
theorem row_ok {M : qM} {x1 x3 : Int32} {C s : Nat} (hC : M 26 1 = nI C) (hC6 : C ≤ 6) (hs : s < 64) : ∃ F, f_X12_rounds_L73 x1 (nI s) x3 qF (nI 0) (nI 0) M = some (nI (elC C s).length, nI C, ms M 37 F) ∧ ∀ i, i < (elC C s).length → F i = nI ((elC C s).getD i 0) := by
  have k := up2 (F := fun n (a : Nat × (Nat → Int32)) i => f_X12_rounds_L73 x1 (nI s) x3 n (nI a.1) i (ms M 37 a.2)) (N := C) (fin := fun a => (nI a.1, nI C, ms M 37 a.2)) (fun i a => a.1 = (elC i s).length ∧ ∀ j, j < a.1 → a.2 j = nI ((elC i s).getD j 0)) (fun n a _ => ?_) (fun n i a hi ha => ?_) C 0 qF (0, M 37) (by omega) (by rw [qF_val]; omega) ⟨rfl, fun j hj => absurd hj (Nat.not_lt_zero _)⟩
  · obtain ⟨⟨k, F⟩, h1, h2, h3⟩ := k
    have h2 : k = (elC C s).length := h2
    subst h2
    have h1 : f_X12_rounds_L73 x1 (nI s) x3 qF (nI 0) (nI 0) (ms M 37 (M 37)) = _ := h1
    rw [ms_self] at h1
    exact ⟨F, h1, h3⟩
  · show f_X12_rounds_L73 _ _ _ _ _ _ _ = _
    rw [f_X12_rounds_L73, qrd_nI (by omega) (by decide), show (ms M 37 a.2) 26 = M 26 from rfl, hC, Option.bind_some, if_pos (nI_le (Nat.le_refl _) (by omega))]
  · have e : elC (i + 1) s = elC i s ++ (if bt s i then [i] else []) := by
      unfold elC
      rw [List.range'_1_concat, List.filter_append, Nat.zero_add]
      congr 1
      rw [List.filter_cons, List.filter_nil]
    have hle : (elC i s).length ≤ i := by
      unfold elC
      have := List.length_filter_le (bt s) (List.range' 0 i)
      rw [List.length_range'] at this
      exact this
    have hh : f_X12_has (nI s) (nI i) (ms M 37 a.2) = some (bt s i) := by rw [has_eq, bt_1 hs (by omega)]
    have e0 : f_X12_rounds_L73 x1 (nI s) x3 (n + 1) (nI a.1) (nI i) (ms M 37 a.2) = if bt s i = true then f_X12_rounds_L73 x1 (nI s) x3 n (nI (a.1 + 1)) (nI (i + 1)) (ms M 37 (upd a.2 a.1 (nI i))) else f_X12_rounds_L73 x1 (nI s) x3 n (nI a.1) (nI (i + 1)) (ms M 37 a.2) := by
      rw [f_X12_rounds_L73, qrd_nI (by omega) (by decide), show (ms M 37 a.2) 26 = M 26 from rfl, hC, Option.bind_some, if_neg (nI_ge hi (by omega)), hh, Option.bind_some, qwr_nI (by have := ha.1; omega) (by decide), Option.bind_some, ms_qu, nI_add, nI_add]
    rw [e]
    cases hb : bt s i with
    | true =>
      refine ⟨(a.1 + 1, upd a.2 a.1 (nI i)), ?_, ?_, fun j hj => ?_⟩
      · show f_X12_rounds_L73 _ _ _ _ _ _ _ = _
        rw [e0, hb, if_pos rfl]
      · rw [if_pos rfl, List.length_append, ← ha.1]; rfl
      · rw [if_pos rfl]
        have hj : j < a.1 + 1 := hj
        show upd a.2 a.1 (nI i) j = _
        by_cases hja : j = a.1
        · rw [hja, pk_us, ha.1, getD_r]
        · rw [pk_un hja, getD_l (by rw [← ha.1]; omega)]
          exact ha.2 j (by omega)
    | false =>
      refine ⟨a, ?_, ?_, ?_⟩
      · show f_X12_rounds_L73 _ _ _ _ _ _ _ = _
        rw [e0, hb, if_neg (by decide)]
      · rw [if_neg (by decide), List.append_nil]; exact ha.1
      · rw [if_neg (by decide), List.append_nil]; exact ha.2
def Wn (r : Nat → Int32) (o c k : Nat) : Nat := if Wed r o c k then 1 else 0
theorem Wn_le (r : Nat → Int32) (o c k : Nat) : Wn r o c k ≤ 1 := by unfold Wn; split <;> omega
theorem RP_q {p dn g : Nat → Int32} {c : Nat} {v : Int32} (hc : c < 6) (h0 : p (12 + c) = 0) (h : RP p dn g) : RP (upd (upd p (18 + c) (-1)) (12 + c) v) dn (upd g (7 + c) v) := by
  obtain ⟨⟨a0, a1, a2, a3, a4, a5⟩, b, cc, d, e⟩ := h
  have R : ∀ j, j ≠ 12 + c → j ≠ 18 + c → upd (upd p (18 + c) (-1)) (12 + c) v j = p j := fun j h1 h2 => by rw [pk_un h1, pk_un h2]
  have N : ∀ j, j ≠ 7 + c → upd g (7 + c) v j = g j := fun j hj => pk_un hj
  refine ⟨⟨?_, ?_, ?_, ?_, ?_, ?_⟩, fun i hi => ⟨?_, ?_, ?_⟩, fun i hi => ?_, fun i hi => ?_, fun m hm hb i hi j hj => ?_⟩
  · rw [R 0 (by omega) (by omega)]; exact a0
  · rw [R 1 (by omega) (by omega)]; exact a1
  · rw [R 2 (by omega) (by omega)]; exact a2
  · rw [R 3 (by omega) (by omega), N 0 (by omega)]; exact a3
  · rw [R 4 (by omega) (by omega), N 61 (by omega)]; exact a4
  · rw [R 5 (by omega) (by omega), N 62 (by omega)]; exact a5
  · rw [R (6 + i) (by omega) (by omega), N (1 + i) (by omega)]; exact (b i hi).1
  · by_cases hic : i = c
    · subst hic; rw [pk_us, pk_us]
    · rw [R (12 + i) (by omega) (by omega), N (7 + i) (by omega)]; exact (b i hi).2.1
  · rw [N (13 + i) (by omega)]
    by_cases hic : i = c
    · subst hic
      rw [pk_us, pk_un (show 18 + i ≠ 12 + i by omega), pk_us, (b i hi).2.2, h0, if_neg (by decide)]
      split <;> rfl
    · rw [R (12 + i) (by omega) (by omega), R (18 + i) (by omega) (by omega)]; exact (b i hi).2.2
  · rw [R (24 + i) (by omega) (by omega), N (19 + i) (by omega)]; exact cc i hi
  · rw [R (54 + i) (by omega) (by omega), R (60 + i) (by omega) (by omega), R (66 + i) (by omega) (by omega), N (49 + i) (by omega), N (55 + i) (by omega)]; exact d i hi
  · rw [R 5 (by omega) (by omega)] at hb
    rw [R (72 + i * 5 + j) (by omega) (by omega), N (63 + 5 * (m - 1 - i) + j) (by omega)]
    exact e m hm hb i hi j hj
theorem BD_q {p : Nat → Int32} {c l C O t : Nat} (hc : c < 6) (ht : t ≤ 2) (h : BD p l C O) : BD (upd (upd p (18 + c) (-1)) (12 + c) (nI t)) l C O := by
  obtain ⟨a, b, cc, d, e, f, g, i, j⟩ := h
  have R : ∀ j, j ≠ 12 + c → j ≠ 18 + c → upd (upd p (18 + c) (-1)) (12 + c) (nI t) j = p j := fun j h1 h2 => by rw [pk_un h1, pk_un h2]
  refine ⟨?_, ?_, ?_, d, ?_, ?_, fun q hq => ⟨?_, ?_⟩, fun q hq => ?_, fun q hq => ?_⟩
  · rw [R 0 (by omega) (by omega)]; exact a
  · rw [R 1 (by omega) (by omega)]; exact b
  · rw [R 2 (by omega) (by omega)]; exact cc
  · rw [R 5 (by omega) (by omega)]; exact e
  · rw [R 4 (by omega) (by omega)]; exact f
  · rw [R (6 + q) (by omega) (by omega)]; exact (g q hq).1
  · by_cases hqc : q = c
    · subst hqc; rw [pk_us]; exact ⟨t, ht, rfl⟩
    · rw [R (12 + q) (by omega) (by omega)]; exact (g q hq).2
  · rw [R (24 + q) (by omega) (by omega)]; exact i q hq
  · rw [R (54 + q) (by omega) (by omega), R (60 + q) (by omega) (by omega), R (66 + q) (by omega) (by omega)]; exact j q hq
theorem Lat_q {r p : Nat → Int32} {o c d n : Nat} {v : Int32} (ho : o < 6) (hc : c < 6) (hd : d < 6) (hcd : d ≠ c) (h : Lat r p o d n) : Lat r (upd (upd p (18 + c) (-1)) (12 + c) v) o d n := by
  obtain ⟨a1, a2, a3, a4, a5, a6, a7⟩ := h
  have R : ∀ j, j ≠ 12 + c → j ≠ 18 + c → upd (upd p (18 + c) (-1)) (12 + c) v j = p j := fun j h1 h2 => by rw [pk_un h1, pk_un h2]
  refine ⟨?_, ?_, ?_, ?_, fun k hk => ?_, ?_, ?_⟩
  · rw [R _ (by omega) (by omega)]; exact a1
  · rw [R _ (by omega) (by omega)]; exact a2
  · rw [R _ (by omega) (by omega)]; exact a3
  · rw [R _ (by omega) (by omega)]; exact a4
  · rw [R _ (by omega) (by omega)]; exact a5 k hk
  · rw [R _ (by omega) (by omega)]; exact a6
  · rw [R _ (by omega) (by omega)]; exact a7
theorem inner_ok {r dn F : Nat → Int32} {l C O o m : Nat} {x3 x5 x6 : Int32} (hB0 : BD r l C O) (ho : o < O) (hm : m ≤ 5) : ∀ (y : List Nat) (k n a b : Nat) (p g : Nat → Int32), k + y.length = m → y.length < n → (∀ j, j < y.length → F (k + j) = nI (y.getD j 0)) → RP p dn g → BD p l C O → (∀ c, c ∈ y → c < C ∧ r (12 + c) = 0 ∧ Lat r p o c k) → ndb y = true →
    ∃ g', ∀ M : qM, M 26 = dn → M 37 = F → f_X12_rounds_L138 (nI o) x3 (nI m) x5 x6 n (nI a) (nI b) (nI k) (ms M 29 g) = some (nI (a + cnt (Wn r o) k y), nI (fg b y), nI m, ms M 29 g')
  | y, k, 0, a, b, p, g, hk, hn, hF, hP, hB, hL, hd => by omega
  | [], k, n + 1, a, b, p, g, hk, hn, hF, hP, hB, hL, hd => by
    have e : k = m := by simpa using hk
    subst e
    refine ⟨g, fun M hM hM2 => ?_⟩
    rw [f_X12_rounds_L138, if_pos (nI_le (Nat.le_refl _) (by omega))]; rfl
  | c :: y, k, n + 1, a, b, p, g, hk, hn, hF, hP, hB, hL, hd => by
    have hC6 := hB.2.1.2
    have hO6 := hB.2.2.1.2
    have dC : dn 1 = nI C := hP.1.2.1.symm.trans hB.2.1.1
    have dO : dn 2 = nI O := hP.1.2.2.1.symm.trans hB.2.2.1.1
    have hlen : k + (y.length + 1) = m := by simpa using hk
    have hn2 : y.length + 1 < n + 1 := by simpa using hn
    have hFk : F k = nI c := hF 0 (by simp)
    obtain ⟨hcC, hc0, hLc⟩ := hL c (by simp)
    have hp0 : p (12 + c) = 0 := hLc.2.1.trans hc0
    have hW : Wds p o c = Wed r o c k := (Lat_wed hc0 hLc).symm
    unfold ndb at hd
    rw [Bool.and_eq_true] at hd
    have hnc : ∀ d, d ∈ y → d ≠ c := fun d hdy e => by
      have h1 := hd.1
      rw [← e] at h1
      simp [hdy] at h1
    -- the step, for a status t and a wed w
    have step : ∀ (t w : Nat), t ≤ 2 → ∃ g', ∀ M : qM, M 26 = dn → M 37 = F → ((f_X12_yearGoes_at25_29 (ms M 29 (upd g (7 + c) (nI t)))).bind fun M57 => (qrd M57 37 6 (nI k)).bind fun v58 => f_X12_rounds_L138 (nI o) x3 (nI m) x5 x6 n (nI a + nI w) ((((nI 10) * nI b) + v58) + (nI 1)) (nI k + nI 1) M57) = some (nI (a + w + cnt (Wn r o) (k + 1) y), nI (fg (10 * b + c + 1) y), nI m, ms M 29 g') := by
      intro t w ht
      have hP1 := RP_q (v := nI t) (show c < 6 by omega) hp0 hP
      have hB1 := BD_q (c := c) (t := t) (by omega) ht hB
      obtain ⟨y1, y2⟩ := year_RP hP1 hB1
      obtain ⟨g', hg'⟩ := inner_ok (x3 := x3) (x5 := x5) (x6 := x6) hB0 ho hm y (k + 1) n (a + w) (10 * b + c + 1) _ _ (by omega) (by omega) (fun j hj => by
        have := hF (j + 1) (by simp; omega)
        rw [show k + (j + 1) = k + 1 + j by omega] at this
        exact this) y1 y2 (fun d hdy => by
          obtain ⟨q1, q2, q3⟩ := hL d (List.mem_cons_of_mem _ hdy)
          exact ⟨q1, q2, Lat_s hB0 ho q1 (by omega) q2 (Lat_q (by omega) (by omega) (by omega) (hnc d hdy) q3)⟩) hd.2
      refine ⟨g', fun M hM hM2 => ?_⟩
      have e26 : ms M 29 (upd g (7 + c) (nI t)) 26 = dn := (ms_ne (q := 29) (a := 26) _ _ (by decide)).trans hM
      rw [yearGoes29_eq (C := C) (O := O) (by rw [e26]; exact dC) (by rw [e26]; exact dO) hC6 hO6, Option.bind_some, ms_ms, ms_q, e26, qrd_nI (by omega) (by decide), ms_ne (q := 29) (a := 37) _ _ (by decide), hM2, hFk, Option.bind_some, nI_add, pk_mul, nI_add, nI_add, nI_add]
      exact hg' M hM hM2
    have rd : ∀ M : qM, M 37 = F → qrd (ms M 29 g) 37 6 (nI k) = some (nI c) := fun M hM2 => by
      rw [qrd_nI (by omega) (by decide), ms_ne (q := 29) (a := 37) _ _ (by decide), hM2, hFk]
    have wd : ∀ M : qM, M 26 = dn → f_X12_weds_at25_29 (nI o) (nI c) (ms M 29 g) = some (Wed r o c k) := fun M hM => by
      rw [weds29_eq (M := ms M 29 g) (r := p) (by rw [ms_q, ms_ne (q := 29) (a := 26) _ _ (by decide), hM]; exact hP) (by omega) (by omega), hW]
    have cn : ∀ M : qM, M 26 = dn → f_X12_counts_at25_29 (nI o) (nI c) (ms M 29 g) = some (Cnt p o c) := fun M hM => by
      rw [counts29_eq (M := ms M 29 g) (r := p) (by rw [ms_q, ms_ne (q := 29) (a := 26) _ _ (by decide), hM]; exact hP) (by omega) (by omega)]
    have wr : ∀ (M : qM) (v : Int32), qwr (ms M 29 g) 29 163 (nI 7 + nI c) v = some (ms M 29 (upd g (7 + c) v)) := fun M v => by
      rw [nI_add, qwr_nI (by omega) (by decide), ms_qu]
    cases hw : Wed r o c k with
    | true =>
      obtain ⟨g', hg'⟩ := step 1 1 (by omega)
      refine ⟨g', fun M hM hM2 => ?_⟩
      rw [f_X12_rounds_L138, if_neg (nI_ge (by omega) (by omega)), rd M hM2, Option.bind_some, wd M hM, Option.bind_some, hw, if_pos rfl, Option.bind_some, Option.bind_some, wd M hM, Option.bind_some, hw, if_pos rfl, wr, Option.bind_some]
      rw [hg' M hM hM2, cnt, fg, Wn, hw, if_pos rfl, Nat.add_assoc]
    | false =>
      cases hcn : Cnt p o c with
      | true =>
        obtain ⟨g', hg'⟩ := step 2 0 (by omega)
        refine ⟨g', fun M hM hM2 => ?_⟩
        rw [f_X12_rounds_L138, if_neg (nI_ge (by omega) (by omega)), rd M hM2, Option.bind_some, wd M hM, Option.bind_some, hw, if_neg (by decide), Option.bind_some, Option.bind_some, wd M hM, Option.bind_some, hw, if_neg (by decide), Option.bind_some, cn M hM, Option.bind_some, hcn, if_pos rfl, wr, Option.bind_some]
        rw [hg' M hM hM2, cnt, fg, Wn, hw, if_neg (by decide), Nat.add_assoc]
      | false =>
        obtain ⟨g', hg'⟩ := step 0 0 (by omega)
        refine ⟨g', fun M hM hM2 => ?_⟩
        rw [f_X12_rounds_L138, if_neg (nI_ge (by omega) (by omega)), rd M hM2, Option.bind_some, wd M hM, Option.bind_some, hw, if_neg (by decide), Option.bind_some, Option.bind_some, wd M hM, Option.bind_some, hw, if_neg (by decide), Option.bind_some, cn M hM, Option.bind_some, hcn, if_neg (by decide), wr, Option.bind_some]
        rw [hg' M hM hM2, cnt, fg, Wn, hw, if_neg (by decide), Nat.add_assoc]
def mst : SEL → Int32
  | none => -1
  | some y => nI y.1
def fst' : SEL → Int32
  | none => nI 0
  | some y => nI (fg 0 y.2)
theorem lay_ms (M : qM) (g : Nat → Int32) : f_X12_layAside (ms M 29 g) = some (ms M 29 (va_cpy (M 28) g 0 0 163)) := by
  unfold f_X12_layAside
  rw [cp_28_29 (by omega) (by omega), Option.bind_some]
  congr 1
  funext a
  unfold qcp
  by_cases ha : a = 29
  · subst ha; rw [if_pos rfl, ms_q, ms_q, ms_ne (q := 29) (a := 28) _ _ (by decide)]
  · rw [if_neg ha, ms_ne _ _ ha, ms_ne _ _ ha]
theorem cnt_le {W : Nat → Nat → Nat} (hW : ∀ c p, W c p ≤ 1) : ∀ (l : List Nat) (p : Nat), cnt W p l ≤ l.length
  | [], p => Nat.le_refl _
  | c :: l, p => by
    have h1 := hW c p
    have h2 := cnt_le hW l (p + 1)
    unfold cnt
    rw [List.length_cons]; omega
theorem qmax_st {b w : Nat} (hb : b < 2 ^ 31) (hw : w < 2 ^ 31) : qmax (nI b) (nI w) = if b < w then nI w else nI b := by
  rw [qmax_nI hb hw]
  by_cases h : b < w
  · rw [if_pos h, Nat.max_eq_right (by omega)]
  · rw [if_neg h, Nat.max_eq_left (by omega)]
theorem ndb_lt {C s : Nat} {x : List Nat} (h : good C s x = true) : x.length = pc s ∧ (∀ c, c ∈ x → c < C ∧ bt s c = true) ∧ ndb x = true := by
  unfold good at h
  rw [Bool.and_eq_true, Bool.and_eq_true, decide_eq_true_iff, List.all_eq_true] at h
  refine ⟨h.1, fun c hc => ?_, h.2.2⟩
  have := h.2.1 c hc
  rw [Bool.and_eq_true, decide_eq_true_iff] at this
  exact this
theorem getD_mem {x : List Nat} {i : Nat} (h : i < x.length) : x.getD i 0 ∈ x := by
  rw [List.getD_eq_getElem?_getD, List.getElem?_eq_getElem h]
  exact List.getElem_mem h
theorem loop_ok {r dn nw : Nat → Int32} {l C O o s : Nat} {x3 : Int32} (hP : RP r dn nw) (hB : BD r l C O) (ho : o < O) (hs5 : pc s ≤ 5) (hw : ∀ c, c < C → bt s c = true → r (12 + c) = 0) : ∀ (L : List (List Nat)) (x : List Nat) (n : Nat) (st : SEL) (F g : Nat → Int32), chn (x :: L) = true → (x :: L).all (good C s) = true → L.length + 1 < n → (∀ y, st = some y → y.1 ≤ 5) → (∀ i, i < pc s → F i = nI (x.getD i 0)) →
    ∃ F' g', ∀ M : qM, M 26 = dn → M 28 = nw → f_X12_rounds_L120 (nI o) x3 (nI (pc s)) n (mst st) (fst' st) true (ms (ms M 37 F) 29 g) = some (mst (cmb st (sel (cnt (Wn r o) 0) (x :: L))), fst' (cmb st (sel (cnt (Wn r o) 0) (x :: L))), false, ms (ms M 37 F') 29 g')
  | L, x, 0, st, F, g, hc, hg, hn, hst, hF => by omega
  | L, x, n + 1, st, F, g, hc, hg, hn, hst, hF => by
    have hC6 := hB.2.1.2
    have hO6 := hB.2.2.1.2
    rw [List.all_cons, Bool.and_eq_true] at hg
    obtain ⟨g1, g2, g3⟩ := ndb_lt hg.1
    have hP2 : RP r dn (va_cpy nw g 0 0 163) := hP.congr (fun _ _ => rfl) (fun _ _ => rfl) (fun k hk => by rw [pk_cpy_in (by omega) (by omega)]; congr 1; omega)
    obtain ⟨g', hin⟩ := inner_ok (F := F) (m := pc s) (x3 := x3) (x5 := mst st) (x6 := fst' st) hB ho hs5 x 0 qF 0 0 r _ (by omega) (by rw [qF_val]; omega) (fun j hj => by rw [Nat.zero_add]; exact hF j (by omega)) hP2 hB (fun c hcx => ⟨(g2 c hcx).1, hw c (g2 c hcx).1 (g2 c hcx).2, Lat_0 hB (by omega) (by have := (g2 c hcx).1; omega)⟩) g3
    rw [Nat.zero_add] at hin
    have hcl : cnt (Wn r o) 0 x ≤ 5 := by
      have := cnt_le (Wn_le r o) x 0
      omega
    generalize hce : cnt (Wn r o) 0 x = w at hcl hin
    have hst' : ∀ y, cmb st (some (w, x)) = some y → y.1 ≤ 5 := by
      intro y hy
      cases st with
      | none =>
        have := Option.some.inj hy
        rw [← this]; exact hcl
      | some z =>
        unfold cmb at hy
        simp only at hy
        split at hy
        · have := Option.some.inj hy
          rw [← this]; exact hcl
        · exact hst y hy
    have hbody : ∀ M : qM, M 26 = dn → M 28 = nw → f_X12_rounds_L120 (nI o) x3 (nI (pc s)) (n + 1) (mst st) (fst' st) true (ms (ms M 37 F) 29 g) = (f_X12_nextOrder (nI (pc s)) (ms (ms M 29 g') 37 F)).bind fun p121 => f_X12_rounds_L120 (nI o) x3 (nI (pc s)) n (mst (cmb st (some (w, x)))) (fst' (cmb st (some (w, x)))) p121.1 p121.2 := by
      intro M hM hM2
      have h1 := hin (ms M 37 F) hM rfl
      rw [f_X12_rounds_L120, if_pos rfl, lay_ms, Option.bind_some, show (ms M 37 F) 28 = nw from hM2, h1, Option.bind_some, ms_comm M (show 37 ≠ 29 by decide)]
      simp only [greater_eq, Option.bind_some]
      cases st with
      | none =>
        have e1 : ¬ nI w ≤ mst none := by
          rw [fa_le, nI_toInt (by omega)]
          show ¬ (w : Int) ≤ ((-1 : Int32)).toInt
          rw [show ((-1 : Int32)).toInt = -1 by decide]; omega
        have e2 : qmax (mst none) (nI w) = nI w := by
          unfold qmax
          rw [if_pos (by rw [fa_lt, nI_toInt (by omega)]; show ((-1 : Int32)).toInt < (w : Int); rw [show ((-1 : Int32)).toInt = -1 by decide]; omega)]
        rw [if_neg e1, e2]
        rfl
      | some z =>
        have hz := hst z rfl
        have e2 : qmax (mst (some z)) (nI w) = if z.1 < w then nI w else nI z.1 := qmax_st (by omega) (by omega)
        rw [e2]
        unfold cmb
        by_cases h : z.1 < w
        · rw [if_neg (show ¬ nI w ≤ mst (some z) from nI_ge h (by omega))]
          simp only [if_pos h]
          rfl
        · rw [if_pos (show nI w ≤ mst (some z) from nI_le (by omega) (by omega))]
          simp only [if_neg h]
          rfl
    have hF2 : ∀ i, i < x.length → F i = nI (x.getD i 0) ∧ x.getD i 0 < 100 := fun i hi => ⟨hF i (by omega), by have := (g2 _ (getD_mem hi)).1; omega⟩
    obtain ⟨nx1, nx2⟩ := next_ok (by omega) hF2
    rw [g1] at nx1 nx2
    rw [sel, ← cmb_assoc, hce]
    cases L with
    | nil =>
      unfold chn at hc
      have hc := of_decide_eq_true hc
      obtain ⟨n', rfl⟩ : ∃ n', n = n' + 1 := ⟨n - 1, by omega⟩
      refine ⟨F, g', fun M hM hM2 => ?_⟩
      rw [hbody M hM hM2, nx1 hc, Option.bind_some, f_X12_rounds_L120, if_neg (show ¬ ((false, ms (ms M 29 g') 37 F) : Bool × qM).1 = true from Bool.false_ne_true), sel, cmb_none, ms_comm M (show 37 ≠ 29 by decide)]
    | cons y L =>
      unfold chn at hc
      rw [Bool.and_eq_true, decide_eq_true_iff] at hc
      obtain ⟨F1, f1, f2⟩ := nx2 y hc.1
      obtain ⟨F', g'', ih⟩ := loop_ok (x3 := x3) hP hB ho hs5 hw L y n (cmb st (some (w, x))) F1 g' hc.2 hg.2 (by simp at hn; omega) hst' f2
      refine ⟨F', g'', fun M hM hM2 => ?_⟩
      rw [hbody M hM hM2, f1, Option.bind_some, ms_comm M (show 29 ≠ 37 by decide)]
      exact ih M hM hM2
