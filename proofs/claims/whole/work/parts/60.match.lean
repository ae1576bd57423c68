theorem up2 {α β : Type} {F : Nat → α → Int32 → Option β} {N : Nat} {fin : α → β} (I : Nat → α → Prop) (he : ∀ n a, I N a → F (n + 1) a (nI N) = some (fin a)) (hs : ∀ n i a, i < N → I i a → ∃ a', F (n + 1) a (nI i) = F n a' (nI (i + 1)) ∧ I (i + 1) a') : ∀ (m i n : Nat) (a : α), i + m = N → m < n → I i a → ∃ a', F n a (nI i) = some (fin a') ∧ I N a'
  | 0, i, 0, a, hi, hn, hI => by omega
  | m + 1, i, 0, a, hi, hn, hI => by omega
  | 0, i, n + 1, a, hi, hn, hI => by
    have e : i = N := by omega
    subst e
    exact ⟨a, he n a hI, hI⟩
  | m + 1, i, n + 1, a, hi, hn, hI => by
    obtain ⟨a', h1, h2⟩ := hs n i a (by omega) hI
    rw [h1]
    exact up2 I he hs m (i + 1) n a' (by omega) (by omega) h2
theorem nI_dn (i : Nat) (h : i < 100) : nI (i + 1) - nI 1 = nI i := by rw [pk_sub (by omega)]; congr 1
theorem nI_dm : ∀ i, i < 100 → nI i + (-1 : Int32) = nI i - nI 1 := by decide +kernel
theorem down1 {α β : Type} {F : Nat → α → Int32 → Option β} {fin : α → β} (I : Nat → α → Prop) (he : ∀ n a, I 0 a → F (n + 1) a (-1 : Int32) = some (fin a)) (hs : ∀ n i a, i < 100 → I (i + 1) a → ∃ a', F (n + 1) a (nI i) = F n a' (nI i - nI 1) ∧ I i a') : ∀ (m n : Nat) (a : α), m ≤ 100 → m < n → I m a → ∃ a', F n a (nI m - nI 1) = some (fin a') ∧ I 0 a'
  | _, 0, a, hm, hn, hI => by omega
  | 0, n + 1, a, hm, hn, hI => ⟨a, by rw [show nI 0 - nI 1 = (-1 : Int32) by decide]; exact he n a hI, hI⟩
  | m + 1, n + 1, a, hm, hn, hI => by
    obtain ⟨a', h1, h2⟩ := hs n m a (by omega) hI
    rw [nI_dn m (by omega), h1]
    exact down1 I he hs m n a' (by omega) (by omega) h2
-- the table
def bt (t o : Nat) : Bool := decide (t / 2 ^ o % 2 = 1)
def Gn (r : Nat → Int32) (o c : Nat) : Int32 := if Wed r o c 0 then nI 10000 + Str0 r o c else nI 0
def fre (r : Nat → Int32) (c t o : Nat) : Bool := Wed r o c 0 && !bt t o
def vlu (r : Nat → Int32) (c : Nat) (f : Nat → Int32) (t o : Nat) : Int32 := nI 10000 + Str0 r o c + f (t ||| 2 ^ o)
def bstS (r : Nat → Int32) (c : Nat) (f : Nat → Int32) (t o : Nat) (acc : Int32) : Int32 := if fre r c t o then qmax acc (vlu r c f t o) else acc
def bst (r : Nat → Int32) (O c : Nat) (f : Nat → Int32) (t : Nat) : Int32 := IT (bstS r c f t) O 0 (f t)
def Vm (r : Nat → Int32) (C O : Nat) : Nat → Nat → Int32
  | 0 => fun _ => nI 0
  | d + 1 => bst r O (C - (d + 1)) (Vm r C O d)
def V (r : Nat → Int32) (C O c : Nat) : Nat → Int32 := Vm r C O (C - c)
theorem V_C (r : Nat → Int32) (C O t : Nat) : V r C O C t = nI 0 := by unfold V; rw [Nat.sub_self]; rfl
theorem V_s (r : Nat → Int32) {C O c : Nat} (h : c < C) : V r C O c = bst r O c (V r C O (c + 1)) := by
  have e1 : C - c = (C - (c + 1)) + 1 := by omega
  have e2 : C - ((C - (c + 1)) + 1) = c := by omega
  unfold V
  rw [e1, Vm, e2]
theorem or_lt {t o O : Nat} (ht : t < 2 ^ O) (ho : o < O) : t ||| 2 ^ o < 2 ^ O := Nat.or_lt_two_pow ht (Nat.pow_lt_pow_right (by omega) ho)
theorem Gn_pos {r : Nat → Int32} {l C O o c : Nat} (hB : BD r l C O) (ho : o < 6) (hc : c < 6) : (Gn r o c ≤ 0) = (Wed r o c 0 = false) := by
  unfold Gn
  cases h : Wed r o c 0 with
  | false =>
    rw [if_neg (by decide)]
    apply propext
    exact ⟨fun _ => rfl, fun _ => by decide⟩
  | true =>
    rw [if_pos rfl]
    apply propext
    constructor
    · intro q
      exfalso
      rw [Wed_0 hB ho hc] at h
      unfold Wds Cnt at h
      obtain ⟨⟨a, ha, ea⟩, -⟩ := hB.2.2.2.2.2.2.1 c hc
      have h0 : r 0 = nI l := hB.1.1
      have hl := hB.1.2
      simp only [Bool.and_eq_true, decide_eq_true_iff, Bool.not_eq_true', decide_eq_false_iff_not, fa_lt, h0, ea, nI_toInt (show l < 2 ^ 31 by omega), nI_toInt (show a < 2 ^ 31 by omega)] at h
      obtain ⟨-, h1, h2⟩ := h
      have hs0 : ¬ Str0 r o c < 0 := by rw [fa_lt]; show ¬ (Str0 r o c).toInt < 0; omega
      obtain ⟨k, hk, ek⟩ := nI_of hs0
      rw [ek, nI_toInt hk] at h2
      rw [ek, nI_add] at q
      exact nI_nle (by omega) (by omega) q
    · intro q; exact absurd q (by decide)
theorem bt_m {t o : Nat} (ht : t < 64) (ho : o < 6) : ((nI t >>> (nI o &&& 31)) &&& nI 1 = 0) = (bt t o = false) := by
  rw [bit_nI (by omega) (by omega)]
  unfold bt
  have h : t / 2 ^ o % 2 = 0 ∨ t / 2 ^ o % 2 = 1 := by omega
  rcases h with h | h
  · rw [h]; apply propext; exact ⟨fun _ => rfl, fun _ => rfl⟩
  · rw [h]; apply propext; exact ⟨fun q => absurd q (by decide), fun q => absurd q (by decide)⟩
-- gains
theorem pairs_eq {M : qM} {l C O : Nat} (hB : BD (M 2) l C O) : ∃ g, f_X4_weighPairs M = some (ms M 15 g) ∧ ∀ c, c < C → ∀ o, o < O → g (c * 6 + o) = Gn (M 2) o c := by
  have hC := hBc hB
  have hO := hBo hB
  unfold f_X4_weighPairs
  have k := up2 (F := fun n (f : Nat → Int32) i => f_X4_weighPairs_L2 n i (ms M 15 f)) (N := C) (fin := fun f => (nI C, ms M 15 f)) (fun i f => ∀ c, c < i → ∀ o, o < O → f (c * 6 + o) = Gn (M 2) o c) (fun n f _ => ?_) (fun n i f hi hf => ?_) C 0 qF (M 15) (by omega) (by rw [qF_val]; omega) (fun c hc => by omega)
  · obtain ⟨g, k1, k2⟩ := k
    rw [ms_self] at k1
    exact ⟨g, by rw [k1, Option.bind_some], k2⟩
  · show f_X4_weighPairs_L2 _ _ _ = _
    rw [f_X4_weighPairs_L2]
    unfold f_X5_couples
    rw [qrd_nI (by omega) (by decide), show ms M 15 f 2 = M 2 from rfl, hC.1, Option.bind_some, Option.bind_some, if_pos (nI_le (Nat.le_refl _) (by omega))]
  · have k2 := up2 (F := fun n (f : Nat → Int32) j => f_X4_weighPairs_L12 (nI i) n j (ms M 15 f)) (N := O) (fin := fun f => (nI O, ms M 15 f)) (fun j f => (∀ c, c < i → ∀ o, o < O → f (c * 6 + o) = Gn (M 2) o c) ∧ ∀ o, o < j → f (i * 6 + o) = Gn (M 2) o i) (fun n f _ => ?_) (fun n j f hj hf => ?_) O 0 qF f (by omega) (by rw [qF_val]; omega) ⟨hf, fun o ho => by omega⟩
    · obtain ⟨g, k1, k2, k3⟩ := k2
      refine ⟨g, ?_, fun c hc o ho => ?_⟩
      · show f_X4_weighPairs_L2 _ _ _ = f_X4_weighPairs_L2 _ _ _
        rw [f_X4_weighPairs_L2]
        unfold f_X5_couples
        rw [qrd_nI (by omega) (by decide), show ms M 15 f 2 = M 2 from rfl, hC.1, Option.bind_some, Option.bind_some, if_neg (nI_ge hi (by omega)), k1, Option.bind_some, nI_add]
      · by_cases hci : c = i
        · subst hci; exact k3 o ho
        · exact k2 c (by omega) o ho
    · show f_X4_weighPairs_L12 _ _ _ _ = _
      rw [f_X4_weighPairs_L12]
      unfold f_X5_objectors
      rw [qrd_nI (by omega) (by decide), show ms M 15 f 2 = M 2 from rfl, hO.1, Option.bind_some, Option.bind_some, if_pos (nI_le (Nat.le_refl _) (by omega))]
    · refine ⟨upd f (i * 6 + j) (Gn (M 2) j i), ?_, fun c hc o ho => ?_, fun o ho => ?_⟩
      · show f_X4_weighPairs_L12 _ _ _ _ = f_X4_weighPairs_L12 _ _ _ _
        rw [f_X4_weighPairs_L12]
        unfold f_X5_objectors
        rw [qrd_nI (by omega) (by decide), show ms M 15 f 2 = M 2 from rfl, hO.1, Option.bind_some, Option.bind_some, if_neg (nI_ge hj (by omega)), wedIn_eq (by omega) (by omega), strengthIn_eq (by omega) (by omega), Option.bind_some, Option.bind_some, pk_mul, nI_add, nI_add, qwr_nI (by omega) (by decide), qwr_nI (by omega) (by decide), Option.bind_some, Option.bind_some, ms_qu, ms_qu, show ms M 15 f 2 = M 2 from rfl, StrY_0 hB (by omega)]
        unfold Gn
        split <;> rfl
      · rw [pk_un (by omega)]; exact hf.1 c hc o ho
      · by_cases hoj : o = j
        · subst hoj; rw [pk_us]
        · rw [pk_un (by omega)]; exact hf.2 o (by omega)
theorem fill_eq (M : qM) : ∃ f, f_J7_fill_at14 (nI 0) M = some (ms M 14 f) ∧ ∀ k, k < 448 → f k = nI 0 := by
  unfold f_J7_fill_at14
  have k := up2 (F := fun n (f : Nat → Int32) i => f_J7_fill_at14_L5 (nI 0) (nI 448) n i (ms M 14 f)) (N := 448) (fin := fun f => (nI 448, ms M 14 f)) (fun i f => ∀ k, k < i → f k = nI 0) (fun n f _ => ?_) (fun n i f hi hf => ⟨upd f i (nI 0), ?_, fun k hk => ?_⟩) 448 0 qF (M 14) (by omega) (by rw [qF_val]; omega) (fun c hc => by omega)
  · obtain ⟨g, k1, k2⟩ := k
    rw [ms_self] at k1
    exact ⟨g, by rw [k1, Option.bind_some], k2⟩
  · show f_J7_fill_at14_L5 _ _ _ _ _ = _
    rw [f_J7_fill_at14_L5, if_pos (nI_le (Nat.le_refl _) (by omega))]
  · show f_J7_fill_at14_L5 _ _ _ _ _ = f_J7_fill_at14_L5 _ _ _ _ _
    rw [f_J7_fill_at14_L5, if_neg (nI_ge hi (by omega)), qwr_nI (by omega) (by decide), Option.bind_some, ms_qu, nI_add]
  · by_cases hki : k = i
    · subst hki; rw [pk_us]
    · rw [pk_un hki]; exact hf k (by omega)
-- the class's table
theorem free_eq {M : qM} {l C O c o t : Nat} (hB : BD (M 2) l C O) (h15 : ∀ c, c < C → ∀ o, o < O → M 15 (c * 6 + o) = Gn (M 2) o c) (hc : c < C) (ho : o < O) (ht : t < 64) : f_X4_isFree (nI c) (nI o) (nI t) M = some (fre (M 2) c t o) := by
  have hC := hBc hB
  have hO := hBo hB
  unfold f_X4_isFree fre
  rw [pk_mul, nI_add, qrd_nI (by omega) (by decide), Option.bind_some, h15 c hc o ho]
  cases hw : Wed (M 2) o c 0 with
  | false => rw [if_pos (by rw [Gn_pos hB (by omega) (by omega)]; exact hw)]; rfl
  | true =>
    rw [if_neg (by rw [Gn_pos hB (by omega) (by omega), hw]; decide)]
    cases hb : bt t o with
    | false => rw [if_pos (by rw [bt_m ht (by omega)]; exact hb)]; rfl
    | true => rw [if_neg (by rw [bt_m ht (by omega), hb]; decide)]; rfl
theorem value_eq {M : qM} {l C O c o t : Nat} (hB : BD (M 2) l C O) (h15 : ∀ c, c < C → ∀ o, o < O → M 15 (c * 6 + o) = Gn (M 2) o c) (hc : c < C) (ho : o < O) (ht : t < 2 ^ O) (h14 : ∀ t, t < 2 ^ O → M 14 ((c + 1) * 64 + t) = V (M 2) C O (c + 1) t) (hf : fre (M 2) c t o = true) : f_X4_valueOf (nI c) (nI o) (nI t) M = some (vlu (M 2) c (V (M 2) C O (c + 1)) t o) := by
  have hC := hBc hB
  have hO := hBo hB
  have hp : 2 ^ O ≤ 64 := Nat.pow_le_pow_right (n := 2) (by omega) hO.2
  have hor := or_lt ht ho
  unfold f_X4_valueOf vlu
  rw [pk_mul, nI_add, nI_add, pk_mul, one_shl (by omega), fa_or, nI_add, qrd_nI (by omega) (by decide), Option.bind_some, qrd_nI (by omega) (by decide), Option.bind_some, h15 c hc o ho, h14 _ hor]
  unfold fre at hf
  simp only [Bool.and_eq_true] at hf
  unfold Gn
  rw [if_pos hf.1]
theorem bestFrom_eq {M : qM} {l C O c t : Nat} (hB : BD (M 2) l C O) (h15 : ∀ c, c < C → ∀ o, o < O → M 15 (c * 6 + o) = Gn (M 2) o c) (hc : c < C) (ht : t < 2 ^ O) (h14 : ∀ t, t < 2 ^ O → M 14 ((c + 1) * 64 + t) = V (M 2) C O (c + 1) t) : f_X4_bestFrom (nI c) (nI t) M = some (V (M 2) C O c t) := by
  have hC := hBc hB
  have hO := hBo hB
  have hp : 2 ^ O ≤ 64 := Nat.pow_le_pow_right (n := 2) (by omega) hO.2
  unfold f_X4_bestFrom
  rw [V_s _ hc, nI_add, pk_mul, nI_add, qrd_nI (by omega) (by decide), Option.bind_some, h14 t ht]
  unfold bst
  have k := (up1 (F := fun n (a : Int32) i => f_X4_bestFrom_L18 (nI c) (nI t) M n a i) (N := O) (step := bstS (M 2) c (V (M 2) C O (c + 1)) t) (fin := fun a => (a, nI O)) (fun _ _ => True) (fun n a _ => ?_) (fun n i a hi _ => ⟨?_, trivial⟩) O 0 qF (V (M 2) C O (c + 1) t) (by omega) (by rw [qF_val]; omega) trivial).1
  · rw [k, Option.bind_some]
  · show f_X4_bestFrom_L18 _ _ _ _ _ _ = _
    rw [f_X4_bestFrom_L18]
    unfold f_X5_objectors
    rw [qrd_nI (by omega) (by decide), hO.1, Option.bind_some, Option.bind_some, if_pos (nI_le (Nat.le_refl _) (by omega))]
  · show f_X4_bestFrom_L18 _ _ _ _ _ _ = f_X4_bestFrom_L18 _ _ _ _ _ _
    rw [f_X4_bestFrom_L18]
    unfold f_X5_objectors bstS
    rw [qrd_nI (by omega) (by decide), hO.1, Option.bind_some, Option.bind_some, if_neg (nI_ge hi (by omega)), free_eq hB h15 hc hi (by omega), Option.bind_some, nI_add]
    cases hf : fre (M 2) c t i with
    | true => rw [if_pos rfl, value_eq hB h15 hc hi ht h14 hf, Option.bind_some, if_pos rfl]
    | false => rw [if_neg (by decide), if_neg (by decide)]
def Tab (f : Nat → Int32) (r : Nat → Int32) (C O c : Nat) : Prop := ∀ k, c ≤ k → k ≤ C → ∀ t, t < 2 ^ O → f (k * 64 + t) = V r C O k t
theorem weigh_eq {M : qM} {l C O : Nat} (hB : BD (M 2) l C O) : ∃ g f, f_X4_weigh M = some (ms (ms M 15 g) 14 f) ∧ (∀ c, c < C → ∀ o, o < O → g (c * 6 + o) = Gn (M 2) o c) ∧ Tab f (M 2) C O 0 := by
  have hC := hBc hB
  have hO := hBo hB
  have hp : 2 ^ O ≤ 64 := Nat.pow_le_pow_right (n := 2) (by omega) hO.2
  obtain ⟨g, g1, g2⟩ := pairs_eq hB
  obtain ⟨f0, f1, f2⟩ := fill_eq (ms M 15 g)
  unfold f_X4_weigh
  rw [g1, Option.bind_some, f1, Option.bind_some]
  unfold f_X5_couples
  rw [qrd_nI (by omega) (by decide), show (ms (ms M 15 g) 14 f0) 2 = M 2 from rfl, hC.1, Option.bind_some, Option.bind_some]
  have k := down1 (F := fun n (f : Nat → Int32) i => f_X4_weigh_L20 n i (ms (ms M 15 g) 14 f)) (fin := fun f => ((-1 : Int32), ms (ms M 15 g) 14 f)) (fun c f => c ≤ C ∧ Tab f (M 2) C O c) (fun n f _ => ?_) (fun n c f hc6 hf => ?_) C qF f0 (by omega) (by rw [qF_val]; omega) ⟨Nat.le_refl _, fun k h1 h2 t ht => by
    have e : k = C := by omega
    subst e
    rw [f2 _ (by omega), V_C]⟩
  · obtain ⟨f, k1, -, k2⟩ := k
    exact ⟨g, f, by rw [k1, Option.bind_some], g2, k2⟩
  · show f_X4_weigh_L20 _ _ _ = _
    rw [f_X4_weigh_L20, if_pos (by decide)]
  · have hcC : c < C := by omega
    have k2 := up2 (F := fun n (f : Nat → Int32) j => f_X4_weigh_L26 (nI c) n j (ms (ms M 15 g) 14 f)) (N := 2 ^ O) (fin := fun f => (nI (2 ^ O), ms (ms M 15 g) 14 f)) (fun j f => Tab f (M 2) C O (c + 1) ∧ ∀ t, t < j → f (c * 64 + t) = V (M 2) C O c t) (fun n f _ => ?_) (fun n j f hj hf => ?_) (2 ^ O) 0 qF f (by omega) (by rw [qF_val]; omega) ⟨hf.2, fun t ht => by omega⟩
    · obtain ⟨f', k1, k3, k4⟩ := k2
      refine ⟨f', ?_, by omega, fun k h1 h2 t ht => ?_⟩
      · show f_X4_weigh_L20 _ _ _ = f_X4_weigh_L20 _ _ _
        rw [f_X4_weigh_L20, if_neg (nI_pos (by omega)), k1, Option.bind_some, nI_dm c (by omega)]
      · by_cases hk : k = c
        · subst hk; exact k4 t ht
        · exact k3 k (by omega) h2 t ht
    · show f_X4_weigh_L26 _ _ _ _ = _
      rw [f_X4_weigh_L26]
      unfold f_X5_objectors
      rw [qrd_nI (by omega) (by decide), show (ms (ms M 15 g) 14 f) 2 = M 2 from rfl, hO.1, Option.bind_some, Option.bind_some, one_shl (by omega), if_pos (nI_le (Nat.le_refl _) (by omega))]
    · refine ⟨upd f (c * 64 + j) (V (M 2) C O c j), ?_, fun k h1 h2 t ht => ?_, fun t ht => ?_⟩
      · show f_X4_weigh_L26 _ _ _ _ = f_X4_weigh_L26 _ _ _ _
        rw [f_X4_weigh_L26]
        unfold f_X5_objectors
        have hb := bestFrom_eq (M := ms (ms M 15 g) 14 f) (l := l) (C := C) (O := O) (c := c) (t := j) hB g2 hcC hj (fun t ht => hf.1 (c + 1) (by omega) (by omega) t ht)
        rw [qrd_nI (by omega) (by decide), show (ms (ms M 15 g) 14 f) 2 = M 2 from rfl, hO.1, Option.bind_some, Option.bind_some, one_shl (by omega), if_neg (nI_ge hj (by omega)), hb, Option.bind_some, pk_mul, nI_add, nI_add, qwr_nI (by omega) (by decide), Option.bind_some, ms_qu]
        rfl
      · rw [pk_un (by omega)]; exact hf.1 k h1 h2 t ht
      · by_cases htj : t = j
        · subst htj; rw [pk_us]
        · rw [pk_un (by omega)]; exact hf.2 t (by omega)
-- the reference's table
theorem not_eq : ∀ a, a < 64 → ∀ t, t < 64 → nI a &&& (nI t ^^^ (-1 : Int32)) = nI (a &&& (63 - t)) := by decide +kernel
theorem not_bit : ∀ t, t < 64 → ∀ o, o < 6 → (63 - t).testBit o = !t.testBit o := by decide +kernel
theorem hasM_eq {r : Nat → Int32} {O c t o : Nat} (hO : O ≤ 6) (ho : o < O) (ht : t < 64) (M : qM) : f_X12_has (nI (bs (fun o => Wed r o c 0) O) &&& (nI t ^^^ (-1 : Int32))) (nI o) M = some (fre r c t o) := by
  have hb := bs_64 (fun o => Wed r o c 0) hO
  have hb2 : bs (fun o => Wed r o c 0) O &&& (63 - t) < 64 := Nat.lt_of_le_of_lt Nat.and_le_left hb
  rw [has_eq, not_eq _ hb t ht, bit_nI (by omega) (by omega)]
  have e : (bs (fun o => Wed r o c 0) O &&& (63 - t)).testBit o = fre r c t o := by
    rw [Nat.testBit_and, bs_bit, not_bit t ht o (by omega), show decide (o < O) = true from decide_eq_true ho, Bool.true_and]
    unfold fre bt
    rw [Nat.testBit_eq_decide_div_mod_eq]
  rw [← e, Nat.testBit_eq_decide_div_mod_eq]
  congr 1
  have h : (bs (fun o => Wed r o c 0) O &&& (63 - t)) / 2 ^ o % 2 = 0 ∨ (bs (fun o => Wed r o c 0) O &&& (63 - t)) / 2 ^ o % 2 = 1 := by omega
  rcases h with h | h
  · rw [h]; rfl
  · rw [h]; rfl
theorem weighM_eq {M : qM} {r : Nat → Int32} {l C O : Nat} (hP : RP r (M 26) (M 28)) (hB : BD r l C O) : ∃ f, f_X12_weighsMatches M = some (ms M 36 f) ∧ Tab f r C O 0 := by
  have hC : M 26 1 = nI C := hP.1.2.1.symm.trans hB.2.1.1
  have hO : M 26 2 = nI O := hP.1.2.2.1.symm.trans hB.2.2.1.1
  have hC6 := hB.2.1.2
  have hO6 := hB.2.2.1.2
  have hp : 2 ^ O ≤ 64 := Nat.pow_le_pow_right (n := 2) (by omega) hO6
  unfold f_X12_weighsMatches
  rw [qrd_nI (by omega) (by decide), hO, Option.bind_some]
  have k0 := up2 (F := fun n (f : Nat → Int32) i => f_X12_weighsMatches_L9 (nI O) n i (ms M 36 f)) (N := 2 ^ O) (fin := fun f => (nI (2 ^ O), ms M 36 f)) (fun i f => ∀ t, t < i → f (C * 64 + t) = nI 0) (fun n f _ => ?_) (fun n i f hi hf => ⟨upd f (C * 64 + i) (nI 0), ?_, fun t ht => ?_⟩) (2 ^ O) 0 qF (M 36) (by omega) (by rw [qF_val]; omega) (fun c hc => by omega)
  · obtain ⟨f0, f1, f2⟩ := k0
    rw [ms_self] at f1
    rw [f1, Option.bind_some]
    show ∃ f, ((qrd (ms M 36 f0) 26 57 (nI 1)).bind fun v10 => (f_X12_weighsMatches_L48 (nI O) qF (v10 - (nI 1)) (ms M 36 f0)).bind fun e39 => some (e39.2)) = some (ms M 36 f) ∧ Tab f r C O 0
    rw [qrd_nI (by omega) (by decide), show (ms M 36 f0) 26 = M 26 from rfl, hC, Option.bind_some]
    have k := down1 (F := fun n (f : Nat → Int32) i => f_X12_weighsMatches_L48 (nI O) n i (ms M 36 f)) (fin := fun f => ((-1 : Int32), ms M 36 f)) (fun c f => c ≤ C ∧ Tab f r C O c) (fun n f _ => ?_) (fun n c f hc6 hf => ?_) C qF f0 (by omega) (by rw [qF_val]; omega) ⟨Nat.le_refl _, fun k h1 h2 t ht => by
      have e : k = C := by omega
      subst e
      rw [f2 _ ht, V_C]⟩
    · obtain ⟨f, k1, -, k2⟩ := k
      exact ⟨f, by rw [k1, Option.bind_some], k2⟩
    · show f_X12_weighsMatches_L48 _ _ _ _ = _
      rw [f_X12_weighsMatches_L48, if_pos (by decide)]
    · have hcC : c < C := by omega
      have k2 := up2 (F := fun n (f : Nat → Int32) j => f_X12_weighsMatches_L61 (nI O) (nI c) (nI (bs (fun o => Wed r o c 0) O)) n j (ms M 36 f)) (N := 2 ^ O) (fin := fun f => (nI (2 ^ O), ms M 36 f)) (fun j f => Tab f r C O (c + 1) ∧ ∀ t, t < j → f (c * 64 + t) = V r C O c t) (fun n f _ => ?_) (fun n j f hj hf => ?_) (2 ^ O) 0 qF f (by omega) (by rw [qF_val]; omega) ⟨hf.2, fun t ht => by omega⟩
      · obtain ⟨f', k1, k3, k4⟩ := k2
        refine ⟨f', ?_, by omega, fun k h1 h2 t ht => ?_⟩
        · show f_X12_weighsMatches_L48 _ _ _ _ = f_X12_weighsMatches_L48 _ _ _ _
          have hcan := canM_eq (M := ms M 36 f) (r := r) (c := c) hP hB (by omega)
          rw [f_X12_weighsMatches_L48, if_neg (nI_pos (by omega)), hcan, Option.bind_some, k1, Option.bind_some, nI_dm c (by omega)]
        · by_cases hk : k = c
          · subst hk; exact k4 t ht
          · exact k3 k (by omega) h2 t ht
      · show f_X12_weighsMatches_L61 _ _ _ _ _ _ = _
        rw [f_X12_weighsMatches_L61, one_shl (by omega), if_pos (nI_le (Nat.le_refl _) (by omega))]
      · refine ⟨upd f (c * 64 + j) (V r C O c j), ?_, fun k h1 h2 t ht => ?_, fun t ht => ?_⟩
        · show f_X12_weighsMatches_L61 _ _ _ _ _ _ = f_X12_weighsMatches_L61 _ _ _ _ _ _
          have k5 := (up1 (F := fun n (a : Int32) i => f_X12_weighsMatches_L88 (nI O) (nI c) (nI (bs (fun o => Wed r o c 0) O)) (nI j) (ms M 36 f) n a i) (N := O) (step := bstS r c (V r C O (c + 1)) j) (fin := fun a => (a, nI O)) (fun _ _ => True) (fun n a _ => ?_) (fun n i a hi _ => ⟨?_, trivial⟩) O 0 qF (V r C O (c + 1) j) (by omega) (by rw [qF_val]; omega) trivial).1
          · rw [f_X12_weighsMatches_L61, one_shl (by omega), if_neg (nI_ge hj (by omega)), nI_add, pk_mul, nI_add, qrd_nI (by omega) (by decide), ms_q, Option.bind_some, show 64 * (c + 1) + j = (c + 1) * 64 + j by omega, hf.1 (c + 1) (by omega) (by omega) j hj, k5, Option.bind_some, pk_mul, nI_add, qwr_nI (by omega) (by decide), Option.bind_some, ms_qu, nI_add, V_s _ hcC, show 64 * c + j = c * 64 + j by omega]
            rfl
          · show f_X12_weighsMatches_L88 _ _ _ _ _ _ _ _ = _
            rw [f_X12_weighsMatches_L88, if_pos (nI_le (Nat.le_refl _) (by omega))]
          · show f_X12_weighsMatches_L88 _ _ _ _ _ _ _ _ = f_X12_weighsMatches_L88 _ _ _ _ _ _ _ _
            have hor := or_lt hj hi
            have hs := strengthOn28_eq (M := ms M 36 f) (r := r) (o := i) (c := c) hP (by omega) (by omega)
            unfold bstS vlu
            rw [f_X12_weighsMatches_L88, if_neg (nI_ge hi (by omega)), hasM_eq hO6 hi (by omega), Option.bind_some, hs, Option.bind_some, nI_add, pk_mul, one_shl (by omega), fa_or, nI_add, qrd_nI (by omega) (by decide), ms_q, Option.bind_some, show 64 * (c + 1) + (j ||| 2 ^ i) = (c + 1) * 64 + (j ||| 2 ^ i) by omega, hf.1 (c + 1) (by omega) (by omega) _ hor, greater_eq, Option.bind_some, nI_add]
            split <;> rfl
        · rw [pk_un (by omega)]; exact hf.1 k h1 h2 t ht
        · by_cases htj : t = j
          · subst htj; rw [pk_us]
          · rw [pk_un (by omega)]; exact hf.2 t (by omega)
  · show f_X12_weighsMatches_L9 _ _ _ _ = _
    rw [f_X12_weighsMatches_L9, one_shl (by omega), if_pos (nI_le (Nat.le_refl _) (by omega))]
  · show f_X12_weighsMatches_L9 _ _ _ _ = f_X12_weighsMatches_L9 _ _ _ _
    rw [f_X12_weighsMatches_L9, one_shl (by omega), if_neg (nI_ge hi (by omega)), qrd_nI (by omega) (by decide), show (ms M 36 f) 26 = M 26 from rfl, hC, Option.bind_some, pk_mul, nI_add, qwr_nI (by omega) (by decide), Option.bind_some, ms_qu, nI_add, show 64 * C + i = C * 64 + i by omega]
  · by_cases hti : t = i
    · subst hti; rw [pk_us]
    · rw [pk_un (by omega)]; exact hf t (by omega)
