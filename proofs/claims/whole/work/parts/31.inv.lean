-- the invariant between the class's cells and the reference's
/-- a parish's row r, against the reference's deanery dn and state nw -/
def RP (r dn nw : Nat → Int32) : Prop :=
  (r 0 = dn 0 ∧ r 1 = dn 1 ∧ r 2 = dn 2 ∧ r 3 = nw 0 ∧ r 4 = nw 61 ∧ r 5 = nw 62) ∧
  (∀ c, c < 6 → r (6 + c) = nw (1 + c) ∧ r (12 + c) = nw (7 + c) ∧ nw (13 + c) = if r (12 + c) = nI 1 then r (18 + c) else -1) ∧
  (∀ k, k < 30 → r (24 + k) = nw (19 + k)) ∧
  (∀ o, o < 6 → r (54 + o) = dn (39 + o) ∧ r (60 + o) = nw (49 + o) ∧ r (66 + o) = nw (55 + o)) ∧
  (∀ b, b ≤ 20 → r 5 = nI b → ∀ i, i < b → ∀ j, j < 5 → r (72 + i * 5 + j) = nw (63 + 5 * (b - 1 - i) + j))
/-- bounds of a parish's row: least l, C couples, O objectors -/
def BD (r : Nat → Int32) (l C O : Nat) : Prop :=
  (r 0 = nI l ∧ l ≤ 20) ∧ (r 1 = nI C ∧ C ≤ 6) ∧ (r 2 = nI O ∧ O ≤ 6) ∧ (l = 0 → C = 0 ∧ O = 0) ∧ (∃ b, b ≤ 20 ∧ r 5 = nI b) ∧ (∃ t, t < 64 ∧ r 4 = nI t) ∧
  (∀ c, c < 6 → (∃ a, a ≤ 99 ∧ r (6 + c) = nI a) ∧ ∃ t, t ≤ 2 ∧ r (12 + c) = nI t) ∧
  (∀ k, k < 30 → ∃ w, w ≤ 20 ∧ r (24 + k) = nI w) ∧
  (∀ o, o < 6 → (∃ k, k ≤ 3 ∧ r (54 + o) = nI k) ∧ (∃ s, s ≤ 40 ∧ r (60 + o) = nI s) ∧ ∃ n, n < 32 ∧ r (66 + o) = nI n)
def TX (len size : Int32) (t u : Nat → Int32) : Prop := ∃ n, n ≤ 240 ∧ len = nI n ∧ size = nI n ∧ ∀ i, i < n → t i = u i ∧ ∃ x, x < 256 ∧ t i = nI x
def SD (v : Int32) (j : Int64) : Prop := ∃ z, z < 2 ^ 31 ∧ v = nI z ∧ j = lN z
def SY (cnt many : Int32) (t u : Nat → Int32) : Prop := ∃ n, n ≤ 6 ∧ cnt = nI n ∧ many = nI n ∧ ∀ k, k < 3 * n → t k = u k
def BK (cnt many : Int32) (cs as b : Nat → Int32) : Prop := ∃ n, n ≤ 15 ∧ cnt = nI n ∧ many = nI n ∧ ∀ i, i < n → (∃ c, c < 6 ∧ cs i = nI c) ∧ cs i = b (2 * i) ∧ as i = b (2 * i + 1)
def PS (cnt nxt undos : Int32) (rows past dn : Nat → Int32) (l C O : Nat) : Prop := ∃ n x, n ≤ 16 ∧ x < 16 ∧ cnt = nI n ∧ nxt = nI x ∧ undos = nI n ∧
  ∀ i, i < n → RP (fun k => rows ((x + 15 - i) % 16 * 172 + k)) dn (fun k => past (163 * (n - 1 - i) + k)) ∧ BD (fun k => rows ((x + 15 - i) % 16 * 172 + k)) l C O
def IM (kept : Int32) (rows seeds dn images kz : Nat → Int32) (l C O : Nat) : Prop := ∃ kb, kb < 4 ∧ kept = nI kb ∧ ∀ i, i < 2 → kz i = nI (kb / 2 ^ i % 2) ∧
  (kb / 2 ^ i % 2 = 1 → RP (fun k => rows (i * 172 + k)) dn (fun k => images (164 * i + k)) ∧ BD (fun k => rows (i * 172 + k)) l C O ∧ ∃ z, z < 2 ^ 31 ∧ seeds i = nI z ∧ images (164 * i + 163) = nI z)
def Inv (M : qM) (J : qJ) : Prop := ∃ l C O, RP (M 2) (M 26) (M 28) ∧ BD (M 2) l C O ∧ TX (M 3 1) (M 25 10) (M 6) (M 33) ∧ M 3 2 = M 25 11 ∧ SD (M 12 0) (J 25 8) ∧ SY (M 20 0) (M 25 13) (M 21) (M 34) ∧ BK (M 22 0) (M 25 15) (M 23) (M 24) (M 35) ∧
  PS (M 7 0) (M 7 1) (M 25 5) (M 8) (M 30) (M 26) l C O ∧ IM (M 9 2) (M 10) (M 11) (M 26) (M 31) (M 32) l C O ∧ M 17 0 = 0
theorem qu_at (M : qM) (q i : Nat) (x : Int32) (a b : Nat) : qu M q i x a b = if a = q then (if b = i then x else M a b) else M a b := rfl
theorem qb_id {b : Bool} : (b = true) = (b = true) := rfl
