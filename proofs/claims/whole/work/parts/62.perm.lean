-- orders of a set, first by figures
def elC (C s : Nat) : List Nat := (List.range' 0 C).filter (bt s)
def LPs (C : Nat) : Nat → Nat → List (List Nat)
  | 0, _ => [[]]
  | n + 1, s => (elC C s).flatMap (fun c => (LPs C n (s - 2 ^ c)).map (fun x => c :: x))
def cnt (W : Nat → Nat → Nat) : Nat → List Nat → Nat
  | _, [] => 0
  | p, c :: l => W c p + cnt W (p + 1) l
def fg : Nat → List Nat → Nat
  | a, [] => a
  | a, c :: l => fg (10 * a + c + 1) l
abbrev SEL := Option (Nat × List Nat)
def cmb : SEL → SEL → SEL
  | none, b => b
  | some x, none => some x
  | some x, some y => if x.1 < y.1 then some y else some x
theorem cmb_none (a : SEL) : cmb a none = a := by cases a <;> rfl
theorem cmb_assoc (a b c : SEL) : cmb (cmb a b) c = cmb a (cmb b c) := by
  cases a with
  | none => rfl
  | some x =>
    cases b with
    | none => rfl
    | some y =>
      cases c with
      | none => rw [cmb_none, cmb_none]
      | some z =>
        unfold cmb
        by_cases h1 : x.1 < y.1
        · by_cases h2 : y.1 < z.1
          · simp only [if_pos h1, if_pos h2, if_pos (show x.1 < z.1 by omega)]
          · simp only [if_pos h1, if_neg h2]
        · by_cases h2 : y.1 < z.1
          · simp only [if_neg h1, if_pos h2]
          · simp only [if_neg h1, if_neg h2, if_neg (show ¬ x.1 < z.1 by omega)]
def sel (f : List Nat → Nat) : List (List Nat) → SEL
  | [] => none
  | x :: l => cmb (some (f x, x)) (sel f l)
theorem sel_app (f : List Nat → Nat) : ∀ (A B : List (List Nat)), sel f (A ++ B) = cmb (sel f A) (sel f B)
  | [], B => rfl
  | x :: A, B => by
    rw [List.cons_append, sel, sel, sel_app f A B, cmb_assoc]
theorem sel_map {f g : List Nat → Nat} {a c : Nat} (h : ∀ x, f (c :: x) = a + g x) : ∀ (L : List (List Nat)), sel f (L.map (fun x => c :: x)) = (sel g L).map (fun y => (a + y.1, c :: y.2))
  | [] => rfl
  | x :: L => by
    rw [List.map_cons, sel, sel, sel_map h L, h x]
    cases hs : sel g L with
    | none => rfl
    | some y =>
      show cmb (some (a + g x, c :: x)) (some (a + y.1, c :: y.2)) = _
      unfold cmb
      by_cases h1 : g x < y.1
      · simp only [if_pos h1, if_pos (show a + g x < a + y.1 by omega)]; rfl
      · simp only [if_neg h1, if_neg (show ¬ a + g x < a + y.1 by omega)]; rfl
def mxf (v : Nat → Nat) : List Nat → Nat
  | [] => 0
  | c :: l => max (v c) (mxf v l)
def ff (v : Nat → Nat) (m : Nat) : List Nat → Nat
  | [] => 0
  | c :: l => if v c = m then c else ff v m l
theorem sel_flat {f : List Nat → Nat} {h : Nat → List (List Nat)} {v : Nat → Nat} {x : Nat → List Nat} : ∀ (l : List Nat), l ≠ [] → (∀ c, c ∈ l → sel f (h c) = some (v c, x c)) → sel f (l.flatMap h) = some (mxf v l, x (ff v (mxf v l) l))
  | [], hn, _ => absurd rfl hn
  | [c], _, hh => by
    rw [List.flatMap_cons, List.flatMap_nil, List.append_nil, hh c (by simp), mxf, mxf, Nat.max_eq_left (Nat.zero_le _), ff, if_pos rfl]
  | c :: d :: l, _, hh => by
    rw [List.flatMap_cons, sel_app, hh c (by simp), sel_flat (d :: l) (by simp) (fun e he => hh e (List.mem_cons_of_mem _ he))]
    rw [show mxf v (c :: d :: l) = max (v c) (mxf v (d :: l)) from rfl, show ∀ m, ff v m (c :: d :: l) = if v c = m then c else ff v m (d :: l) from fun _ => rfl]
    generalize mxf v (d :: l) = m
    unfold cmb
    by_cases h1 : v c < m
    · simp only [if_pos h1]
      rw [Nat.max_eq_right (by omega), if_neg (by omega)]
    · simp only [if_neg h1]
      rw [Nat.max_eq_left (by omega), if_pos rfl]
theorem ff_mem (v : Nat → Nat) : ∀ (l : List Nat), l ≠ [] → ff v (mxf v l) l ∈ l
  | [], hn => absurd rfl hn
  | [c], _ => by rw [mxf, mxf, Nat.max_eq_left (Nat.zero_le _), ff, if_pos rfl]; simp
  | c :: d :: l, _ => by
    have ih := ff_mem v (d :: l) (by simp)
    rw [show mxf v (c :: d :: l) = max (v c) (mxf v (d :: l)) from rfl, show ∀ m, ff v m (c :: d :: l) = if v c = m then c else ff v m (d :: l) from fun _ => rfl]
    by_cases h1 : v c < mxf v (d :: l)
    · rw [Nat.max_eq_right (by omega), if_neg (by omega)]; exact List.mem_cons_of_mem _ ih
    · rw [Nat.max_eq_left (by omega), if_pos rfl]; simp
theorem mxf_le {v : Nat → Nat} {B : Nat} : ∀ (l : List Nat), (∀ c, c ∈ l → v c ≤ B) → mxf v l ≤ B
  | [], _ => Nat.zero_le _
  | c :: l, h => by
    have h1 := h c (by simp)
    have h2 := mxf_le l (fun d hd => h d (List.mem_cons_of_mem _ hd))
    unfold mxf; omega
def BV (C : Nat) (W : Nat → Nat → Nat) : Nat → Nat → Nat → Nat
  | 0, _, _ => 0
  | n + 1, p, s => mxf (fun c => W c p + BV C W n (p + 1) (s - 2 ^ c)) (elC C s)
def XL (C : Nat) (W : Nat → Nat → Nat) : Nat → Nat → Nat → List Nat
  | 0, _, _ => []
  | n + 1, p, s => ff (fun c => W c p + BV C W n (p + 1) (s - 2 ^ c)) (BV C W (n + 1) p s) (elC C s) :: XL C W n (p + 1) (s - 2 ^ (ff (fun c => W c p + BV C W n (p + 1) (s - 2 ^ c)) (BV C W (n + 1) p s) (elC C s)))
theorem BV_le {C : Nat} {W : Nat → Nat → Nat} (hW : ∀ c p, W c p ≤ 1) : ∀ (n p s : Nat), BV C W n p s ≤ n
  | 0, _, _ => Nat.le_refl _
  | n + 1, p, s => by
    unfold BV
    refine mxf_le _ (fun c _ => ?_)
    have h1 := hW c p
    have h2 := BV_le (C := C) hW n (p + 1) (s - 2 ^ c)
    show W c p + BV C W n (p + 1) (s - 2 ^ c) ≤ n + 1
    omega
theorem el_mem {C s c : Nat} : c ∈ elC C s ↔ c < C ∧ bt s c = true := by
  unfold elC
  rw [List.mem_filter, List.mem_range']
  constructor
  · rintro ⟨⟨i, hi, rfl⟩, h⟩
    refine ⟨by omega, ?_⟩
    exact h
  · rintro ⟨h1, h2⟩
    exact ⟨⟨c, h1, by omega⟩, h2⟩
theorem pc_bit : ∀ s, s < 64 → ∀ c, c < 6 → bt s c = true → pc (s - 2 ^ c) + 1 = pc s ∧ s - 2 ^ c < s ∧ nI s &&& ((nI 1 <<< (nI c &&& 31)) ^^^ (-1 : Int32)) = nI (s - 2 ^ c) := by decide +kernel
theorem el_ne : ∀ C, C ≤ 6 → ∀ s, s < 64 → s < 2 ^ C → 0 < pc s → elC C s ≠ [] := by decide +kernel
theorem sel_ok {C : Nat} {W : Nat → Nat → Nat} (hC : C ≤ 6) : ∀ (n p s : Nat), s < 64 → s < 2 ^ C → pc s = n → sel (cnt W p) (LPs C n s) = some (BV C W n p s, XL C W n p s)
  | 0, p, s, _, _, _ => rfl
  | n + 1, p, s, hs, hsC, hp => by
    unfold LPs
    have key := sel_flat (f := cnt W p) (h := fun c => (LPs C n (s - 2 ^ c)).map (fun x => c :: x)) (v := fun c => W c p + BV C W n (p + 1) (s - 2 ^ c)) (x := fun c => c :: XL C W n (p + 1) (s - 2 ^ c)) (elC C s) (el_ne C hC s hs hsC (by omega)) (fun c hc => by
      obtain ⟨h1, h2⟩ := el_mem.mp hc
      obtain ⟨b1, b2, -⟩ := pc_bit s hs c (by omega) h2
      rw [sel_map (f := cnt W p) (g := cnt W (p + 1)) (a := W c p) (fun x => rfl), sel_ok hC n (p + 1) (s - 2 ^ c) (by omega) (by omega) (by omega)]
      rfl)
    rw [key]
    rfl
-- the next order
def kS (f : Nat → Nat) : Nat → Option Nat
  | 0 => none
  | i + 1 => if f i ≤ f (i + 1) then some i else kS f i
def jS (f : Nat → Nat) (x : Nat) : Nat → Nat
  | 0 => 0
  | j + 1 => if f x ≤ f (j + 1) then j + 1 else jS f x j
def sw (f : Nat → Nat) (x y : Nat) : Nat → Nat := fun i => if i = y then f x else if i = x then f y else f i
def rvS : Nat → (Nat → Nat) → Nat → Nat → (Nat → Nat)
  | 0, f, _, _ => f
  | n + 1, f, x, y => if y ≤ x then f else rvS n (sw f x y) (x + 1) (y - 1)
def nxL (l : List Nat) : Option (List Nat) :=
  match kS (fun i => l.getD i 0) (l.length - 1) with
  | none => none
  | some k => some ((List.range' 0 l.length).map (rvS 6 (sw (fun i => l.getD i 0) k (jS (fun i => l.getD i 0) k (l.length - 1))) (k + 1) (l.length - 1)))
def chn : List (List Nat) → Bool
  | [] => true
  | [x] => decide (nxL x = none)
  | x :: y :: l => decide (nxL x = some y) && chn (y :: l)
def ndb : List Nat → Bool
  | [] => true
  | c :: l => !l.contains c && ndb l
def good (C s : Nat) (x : List Nat) : Bool := decide (x.length = pc s) && (x.all (fun c => decide (c < C) && bt s c) && ndb x)
def ordB (C s : Nat) : Bool := (chn (LPs C (pc s) s) && (LPs C (pc s) s).all (good C s)) && (decide ((LPs C (pc s) s).head? = some (elC C s)) && decide ((LPs C (pc s) s).length ≤ 120))
theorem ordB_ok : ∀ C, C ≤ 6 → ∀ s, s < 64 → s < 2 ^ C → pc s ≤ 5 → ordB C s = true := by decide +kernel
theorem orders_ok {C s : Nat} (hC : C ≤ 6) (hs : s < 64) (hsC : s < 2 ^ C) (hp : pc s ≤ 5) : (chn (LPs C (pc s) s) = true ∧ (LPs C (pc s) s).all (good C s) = true) ∧ (LPs C (pc s) s).head? = some (elC C s) ∧ (LPs C (pc s) s).length ≤ 120 := by
  have h := ordB_ok C hC s hs hsC hp
  unfold ordB at h
  rw [Bool.and_eq_true, Bool.and_eq_true, Bool.and_eq_true, decide_eq_true_iff, decide_eq_true_iff] at h
  exact h
