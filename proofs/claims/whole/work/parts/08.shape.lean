def SH : qSh := [.inr (10, [some 1, some 3, some 7, some 9, some 12, some 13, some 16, some 18, some 20, some 22]), .inr (5, [some 2]), .inl (false, 172), .inr (7, [some 4, none, none, some 6, none, none]), .inr (5, [some 5]), .inl (false, 172), .inl (false, 240), .inr (6, [none, none, some 8]), .inl (false, 2752), .inr (3, [some 10, some 11, none]), .inl (false, 344), .inl (false, 2), .inr (2, [none]), .inr (4, [some 14, some 15]), .inl (false, 448), .inl (false, 36), .inr (8, [some 17]), .inl (false, 64), .inr (1, [some 19]), .inl (false, 6), .inr (9, [none, some 21]), .inl (false, 18), .inr (0, [none, some 23, some 24]), .inl (false, 15), .inl (false, 15), .inr (11, [some 26, some 27, some 28, some 29, some 30, none, some 31, some 32, none, some 33, none, none, some 34, none, some 35, none, none, none, none, none, none, none, some 36, some 37]), .inl (false, 57), .inl (false, 57), .inl (false, 163), .inl (false, 163), .inl (false, 2608), .inl (false, 328), .inl (true, 2), .inl (false, 240), .inl (false, 18), .inl (false, 30), .inl (false, 448), .inl (false, 6)]
theorem sh_0 : SH[0]? = some (.inr (10, [some 1, some 3, some 7, some 9, some 12, some 13, some 16, some 18, some 20, some 22])) := rfl
theorem sh_1 : SH[1]? = some (.inr (5, [some 2])) := rfl
theorem sh_2 : SH[2]? = some (.inl (false, 172)) := rfl
theorem sh_3 : SH[3]? = some (.inr (7, [some 4, none, none, some 6, none, none])) := rfl
theorem sh_4 : SH[4]? = some (.inr (5, [some 5])) := rfl
theorem sh_5 : SH[5]? = some (.inl (false, 172)) := rfl
theorem sh_6 : SH[6]? = some (.inl (false, 240)) := rfl
theorem sh_7 : SH[7]? = some (.inr (6, [none, none, some 8])) := rfl
theorem sh_8 : SH[8]? = some (.inl (false, 2752)) := rfl
theorem sh_9 : SH[9]? = some (.inr (3, [some 10, some 11, none])) := rfl
theorem sh_10 : SH[10]? = some (.inl (false, 344)) := rfl
theorem sh_11 : SH[11]? = some (.inl (false, 2)) := rfl
theorem sh_12 : SH[12]? = some (.inr (2, [none])) := rfl
theorem sh_13 : SH[13]? = some (.inr (4, [some 14, some 15])) := rfl
theorem sh_14 : SH[14]? = some (.inl (false, 448)) := rfl
theorem sh_15 : SH[15]? = some (.inl (false, 36)) := rfl
theorem sh_16 : SH[16]? = some (.inr (8, [some 17])) := rfl
theorem sh_17 : SH[17]? = some (.inl (false, 64)) := rfl
theorem sh_18 : SH[18]? = some (.inr (1, [some 19])) := rfl
theorem sh_19 : SH[19]? = some (.inl (false, 6)) := rfl
theorem sh_20 : SH[20]? = some (.inr (9, [none, some 21])) := rfl
theorem sh_21 : SH[21]? = some (.inl (false, 18)) := rfl
theorem sh_22 : SH[22]? = some (.inr (0, [none, some 23, some 24])) := rfl
theorem sh_23 : SH[23]? = some (.inl (false, 15)) := rfl
theorem sh_24 : SH[24]? = some (.inl (false, 15)) := rfl
theorem sh_25 : SH[25]? = some (.inr (11, [some 26, some 27, some 28, some 29, some 30, none, some 31, some 32, none, some 33, none, none, some 34, none, some 35, none, none, none, none, none, none, none, some 36, some 37])) := rfl
theorem sh_26 : SH[26]? = some (.inl (false, 57)) := rfl
theorem sh_27 : SH[27]? = some (.inl (false, 57)) := rfl
theorem sh_28 : SH[28]? = some (.inl (false, 163)) := rfl
theorem sh_29 : SH[29]? = some (.inl (false, 163)) := rfl
theorem sh_30 : SH[30]? = some (.inl (false, 2608)) := rfl
theorem sh_31 : SH[31]? = some (.inl (false, 328)) := rfl
theorem sh_32 : SH[32]? = some (.inl (true, 2)) := rfl
theorem sh_33 : SH[33]? = some (.inl (false, 240)) := rfl
theorem sh_34 : SH[34]? = some (.inl (false, 18)) := rfl
theorem sh_35 : SH[35]? = some (.inl (false, 30)) := rfl
theorem sh_36 : SH[36]? = some (.inl (false, 448)) := rfl
theorem sh_37 : SH[37]? = some (.inl (false, 6)) := rfl
theorem cl_0 : vwCl[0]? = some (RX0, TX0, 3) := rfl
theorem cl_1 : vwCl[1]? = some (RX1, TX1, 1) := rfl
theorem cl_2 : vwCl[2]? = some (RX2, TX2, 1) := rfl
theorem cl_3 : vwCl[3]? = some (RX3, TX3, 3) := rfl
theorem cl_4 : vwCl[4]? = some (RX4, TX4, 2) := rfl
theorem cl_5 : vwCl[5]? = some (RX5, TX5, 1) := rfl
theorem cl_6 : vwCl[6]? = some (RX6, TX6, 3) := rfl
theorem cl_7 : vwCl[7]? = some (RX7, TX7, 6) := rfl
theorem cl_8 : vwCl[8]? = some (RX8, TX8, 1) := rfl
theorem cl_9 : vwCl[9]? = some (RX9, TX9, 2) := rfl
theorem cl_10 : vwCl[10]? = some (RX11, TX11, 10) := rfl
theorem cl_11 : vwCl[11]? = some (RX12, TX12, 24) := rfl
def qF : Nat := 5000
def qpu (M : qM) (q f : Nat) (x : Int32) : Option qM := some (qu M q f x)
def qpl (J : qJ) (q f : Nat) (x : Int64) : Option qJ := some (qv J q f x)
theorem qb_t {b : Bool} (h : b = true) : ¬ qb b = 0 := by subst h; decide
theorem qb_f {b : Bool} (h : ¬ b = true) : qb b = 0 := by cases b with
  | true => exact absurd rfl h
  | false => rfl
def qlw : List (Option Value) → List (Option Value) → Prop
  | [], _ => True
  | none :: a, b => qlw a b.tail
  | some v :: a, b => b.head? = some (some v) ∧ qlw a b.tail
theorem qlw_at : ∀ {a b : List (Option Value)}, qlw a b → ∀ (i : Nat) (v : Value), a[i]? = some (some v) → b[i]? = some (some v)
  | [], _, _, i, v, h => by simp at h
  | none :: a, b, hw, i, v, h => by
    cases i with
    | zero => simp at h
    | succ i =>
      have := qlw_at (a := a) (b := b.tail) hw i v (by simpa using h)
      cases b with
      | nil => simp at this
      | cons x b => simpa using this
  | some w :: a, b, hw, i, v, h => by
    obtain ⟨h1, h2⟩ := hw
    cases b with
    | nil => simp at h1
    | cons x b =>
      cases i with
      | zero => simp at h h1; subst h; simp [h1]
      | succ i => simpa using qlw_at (a := a) (b := b) h2 i v (by simpa using h)
section QMORE
variable {G : qG} {R : Room} {Y : qY} {nc ns pc : Nat} {ls ls' : List (Option Value)} {st : List Value} {sh : qSh} {M M' : qM} {J J' : qJ} {ρ : qR}
theorem q_iincW {i : Nat} {n : Int} {x w : Int32} (hd : decode Y.2.1 pc = .ok (.iinc i n, 3)) (hl : ls[i]? = some (some (.int x))) (hw : Int32.ofInt n = w) (hn : i < Y.2.2.1) (hk : qk ls i = true) (he : ls.set i (some (.int (x + w))) = ls') (k : QW G R Y nc ns (pc + 3) ls' st sh M J ρ) : QW G R Y nc ns pc ls st sh M J ρ := by
  subst hw
  exact q_iinc hd hl rfl hn hk he k
theorem q_weak (hw : qlw ls' ls) (k : QW G R Y nc ns pc ls' st sh M J ρ) : QW G R Y nc ns pc ls st sh M J ρ := by
  intro p e s m args below meth c H locs arr Z hc hz hR hS hL hZ
  exact k p e s m args below meth c H locs arr Z hc hz hR hS ⟨hL.1, hL.2.1, fun i v h => hL.2.2 i v (qlw_at hw i v h)⟩ hZ
theorem q_putI {i q ci f N : Nat} {C : String} {T : u_T} {rs : List (Option Nat)} {x : Int32} (ty0 : Nat → FieldType) (hd : decode Y.2.1 pc = .ok (.putfield i, 3)) (hq : sh[q]? = some (.inr (ci, rs))) (hcl : vwCl[ci]? = some (C, T, N)) (hin : ∀ w ∈ u_ws C T N, w ∈ qT) (hty : ∀ k, k < N → parseFieldDescriptor (T k).2.2.1 = some (ty0 k)) (hnm : ∀ a, a < N → ∀ b, b < N → a ≠ b → (T a).2.1 ≠ (T b).2.1) (hN : qN ci = N) (hf : f < N) (hlk : Cond.fieldLink Y.1.cls i (T f).1 (T f).2.1 (T f).2.2.1 ∈ qT) (hfin : (T f).2.2.2 = false) (ht : ty0 f = .int) (hqt : qty ci f = .int) (hM : qpu M q f x = some M') (k : QW G R Y nc ns (pc + 3) ls st sh M' J ρ) : QW G R Y nc ns pc ls (.int x :: .ref q :: st) sh M J ρ := by
  cases hM
  exact q_puti ty0 hd hq hcl hin hty hnm hN hf hlk hfin ht hqt k
theorem q_putL {i q ci f N : Nat} {C : String} {T : u_T} {rs : List (Option Nat)} {x : Int64} (ty0 : Nat → FieldType) (hd : decode Y.2.1 pc = .ok (.putfield i, 3)) (hq : sh[q]? = some (.inr (ci, rs))) (hcl : vwCl[ci]? = some (C, T, N)) (hin : ∀ w ∈ u_ws C T N, w ∈ qT) (hty : ∀ k, k < N → parseFieldDescriptor (T k).2.2.1 = some (ty0 k)) (hnm : ∀ a, a < N → ∀ b, b < N → a ≠ b → (T a).2.1 ≠ (T b).2.1) (hN : qN ci = N) (hf : f < N) (hlk : Cond.fieldLink Y.1.cls i (T f).1 (T f).2.1 (T f).2.2.1 ∈ qT) (hfin : (T f).2.2.2 = false) (ht : ty0 f = .long) (hqt : qty ci f = .long) (hJ : qpl J q f x = some J') (k : QW G R Y nc ns (pc + 3) ls st sh M J' ρ) : QW G R Y nc ns pc ls (.long x :: .ref q :: st) sh M J ρ := by
  cases hJ
  exact q_putl ty0 hd hq hcl hin hty hnm hN hf hlk hfin ht hqt k
end QMORE
