/-! laws: pieces of code over a stack, told apart from both halves -/
abbrev LCode : Type := List (Int × Int)
def joinA (op a b : Int) : Int := if op = 2 then w32 (a + b) else if op = 3 then w32 (a - b) else if op = 4 then w32 (a * b) else div32 a b
/-- a piece of a law over a stack (its top first): none if something is divided by 0 -/
def runC (vs : Nat → Int) : LCode → List Int → Option (List Int)
  | [], st => some st
  | (op, x) :: c, st =>
    if op = 0 then runC vs c (x :: st)
    else if op = 1 then runC vs c (vs x.toNat :: st)
    else match st with
      | b :: a :: st' => if op = 5 ∧ b = 0 then none else runC vs c (joinA op a b :: st')
      | _ => none
/-- how high the stack is behind a piece, if it never is higher than M -/
def hgt (M : Nat) : LCode → Nat → Option Nat
  | [], h => some h
  | (op, x) :: c, h =>
    if op = 0 ∨ (op = 1 ∧ 0 ≤ x ∧ x < 6) then (if h < M then hgt M c (h + 1) else none)
    else if 2 ≤ op ∧ op ≤ 5 ∧ 2 ≤ h then hgt M c (h - 1) else none
def BalC (k : Nat) (c : LCode) : Prop := ∀ M h, h + k ≤ M → hgt M c h = some (h + 1)
theorem hgt_app {M : Nat} {c d : LCode} {h : Nat} : hgt M (c ++ d) h = (hgt M c h).bind (hgt M d) := by
  induction c generalizing h with
  | nil => rfl
  | cons p c ih =>
    obtain ⟨op, x⟩ := p
    simp only [List.cons_append, hgt]
    split
    · split
      · exact ih
      · rfl
    · split
      · exact ih
      · rfl
theorem bal_mono {k k' : Nat} {c : LCode} (h : BalC k c) (hk : k ≤ k') : BalC k' c := fun M j hj => h M j (by omega)
theorem bal_int {x : Int} : BalC 1 [(0, x)] := fun M h hM => by simp [hgt]; omega
theorem bal_var {x : Int} (h0 : 0 ≤ x) (h1 : x < 6) : BalC 1 [(1, x)] := fun M h hM => by
  simp only [hgt]
  rw [if_pos (Or.inr ⟨by decide, h0, h1⟩), if_pos (by omega)]
theorem bal_op {k k2 : Nat} {c1 c2 : LCode} {op : Int} (h1 : BalC k c1) (h2 : BalC k2 c2) (hk : k2 + 1 ≤ k) (ho : 2 ≤ op ∧ op ≤ 5) : BalC k (c1 ++ c2 ++ [(op, 0)]) := fun M h hM => by
  rw [hgt_app, hgt_app, h1 M h hM]
  simp only [Option.bind_some]
  rw [h2 M (h + 1) (by omega)]
  simp only [Option.bind_some, hgt]
  rw [if_neg (by omega), if_pos (by omega)]
  rfl
theorem runC_app {vs : Nat → Int} {c d : LCode} {st : List Int} : runC vs (c ++ d) st = (runC vs c st).bind (runC vs d) := by
  induction c generalizing st with
  | nil => rfl
  | cons p c ih =>
    obtain ⟨op, x⟩ := p
    simp only [List.cons_append, runC]
    split
    · exact ih
    · split
      · exact ih
      · split
        · split
          · rfl
          · exact ih
        · rfl
/-- what lies below is not looked at -/
theorem runC_below {vs : Nat → Int} {M : Nat} : ∀ {c : LCode} {st0 : List Int} {h' : Nat} (st : List Int), hgt M c st0.length = some h' → runC vs c (st0 ++ st) = (runC vs c st0).map (· ++ st) ∧ ∀ r, runC vs c st0 = some r → r.length = h'
  | [], st0, h', st, hh => ⟨rfl, fun r hr => by cases hr; cases hh; rfl⟩
  | (op, x) :: c, st0, h', st, hh => by
    simp only [hgt] at hh
    simp only [runC]
    by_cases h0 : op = 0
    · rw [if_pos (Or.inl h0)] at hh
      split at hh
      · simp only [if_pos h0]
        exact runC_below (c := c) (st0 := x :: st0) st hh
      · cases hh
    · by_cases h1 : op = 1
      · simp only [if_neg h0, if_pos h1]
        split at hh
        · split at hh
          · exact runC_below (c := c) (st0 := vs x.toNat :: st0) st hh
          · cases hh
        · split at hh
          · omega
          · cases hh
      · simp only [if_neg h0, if_neg h1]
        rw [if_neg (by omega)] at hh
        split at hh
        · match st0, hh with
          | [], hh => simp only [List.length_nil] at *; omega
          | [_], hh => simp only [List.length_cons, List.length_nil] at *; omega
          | b :: a :: st', hh =>
            simp only [List.cons_append]
            by_cases h5 : op = 5 ∧ b = 0
            · simp only [if_pos h5]
              exact ⟨rfl, fun r hr => by cases hr⟩
            · simp only [if_neg h5]
              exact runC_below (c := c) (st0 := joinA op a b :: st') st (by simpa using hh)
        · cases hh
/-- the number that a balanced piece tells -/
def valC (vs : Nat → Int) (c : LCode) : Option Int := (runC vs c []).bind List.head?
theorem runC_val {vs : Nat → Int} {k : Nat} {c : LCode} (h : BalC k c) (st : List Int) : runC vs c st = (valC vs c).map (· :: st) := by
  have h1 := h k 0 (by omega)
  have h2 := runC_below (vs := vs) (st0 := []) st h1
  rw [List.nil_append] at h2
  rw [h2.1]
  unfold valC
  cases hr : runC vs c [] with
  | none => rfl
  | some r =>
    have h3 := h2.2 r hr
    match r, h3 with
    | [x], _ => rfl
abbrev LawT : Type := List (LCode × LCode × LCode) × LCode
def evalL (vs : Nat → Int) : List (LCode × LCode × LCode) → LCode → Int
  | [], c => (valC vs c).getD 0
  | (c1, c2, c3) :: r, c => match valC vs c1, valC vs c2 with
    | some u, some v => if u < v then (valC vs c3).getD 0 else evalL vs r c
    | _, _ => 0
def seeL (stones deep force moss across along : Int) : Nat → Int := fun j => if j = 0 then stones else if j = 1 then deep else if j = 2 then force else if j = 3 then moss else if j = 4 then across else along
def LawB (Λ : LawT) : Prop := (∀ q ∈ Λ.1, BalC 16 q.1 ∧ BalC 16 q.2.1 ∧ BalC 16 q.2.2) ∧ BalC 16 Λ.2
def noLaw : LawT := ([], [(0, 0)])
theorem noLaw_0 {vs : Nat → Int} : evalL vs noLaw.1 noLaw.2 = 0 := rfl
theorem noLaw_B : LawB noLaw := ⟨fun q hq => (by cases hq), bal_mono bal_int (by decide)⟩
/-- as the class lays a law -/
def flatL : List (LCode × LCode × LCode) → LCode → Nat → LCode
  | [], c, _ => c ++ [(7, 0)]
  | (c1, c2, c3) :: r, c, o => c1 ++ c2 ++ [(6, ((o + c1.length + c2.length + 1 + c3.length + 1 : Nat) : Int))] ++ c3 ++ [(7, 0)] ++ flatL r c (o + c1.length + c2.length + 1 + c3.length + 1)
/-- a piece lies at a place of two arrays -/
def SegR (O A : Nat → Int) : Nat → LCode → Prop
  | _, [] => True
  | p, (op, x) :: c => O p = op ∧ A p = x ∧ SegR O A (p + 1) c
theorem seg_app {O A : Nat → Int} {p : Nat} {c d : LCode} : SegR O A p (c ++ d) ↔ SegR O A p c ∧ SegR O A (p + c.length) d := by
  induction c generalizing p with
  | nil => simp [SegR]
  | cons q c ih =>
    obtain ⟨op, x⟩ := q
    simp only [List.cons_append, SegR, List.length_cons, ih]
    rw [show p + 1 + c.length = p + (c.length + 1) by omega]
    constructor
    · rintro ⟨a, b, c, d⟩; exact ⟨⟨a, b, c⟩, d⟩
    · rintro ⟨⟨a, b, c⟩, d⟩; exact ⟨a, b, c, d⟩
theorem seg_congr {O A O' A' : Nat → Int} {p : Nat} {c : LCode} (h : SegR O A p c) (hO : ∀ k, p ≤ k → k < p + c.length → O' k = O k) (hA : ∀ k, p ≤ k → k < p + c.length → A' k = A k) : SegR O' A' p c := by
  induction c generalizing p with
  | nil => trivial
  | cons q c ih =>
    obtain ⟨op, x⟩ := q
    obtain ⟨a, b, d⟩ := h
    refine ⟨(hO p (by omega) (by simp)).trans a, (hA p (by omega) (by simp)).trans b, ih d (fun k h1 h2 => hO k (by omega) (by simp; omega)) (fun k h1 h2 => hA k (by omega) (by simp; omega))⟩
def StkR (R : Nat → Int) : List Int → Prop
  | [] => True
  | x :: st => R st.length = x ∧ StkR R st
theorem stk_congr {R R' : Nat → Int} {st : List Int} (h : StkR R st) (hR : ∀ k, k < st.length → R' k = R k) : StkR R' st := by
  induction st with
  | nil => trivial
  | cons x st ih => exact ⟨(hR _ (by simp)).trans h.1, ih h.2 (fun k hk => hR k (by simp; omega))⟩
theorem iter_s {S E : Type} {step : S → Option (E ⊕ S)} {s s' : S} {F : Nat} (h : step s = some (.inr s')) : iter step (F + 1) s = iter step F s' := by
  show (match step s with | none => none | some (.inl e) => some e | some (.inr s') => iter step F s') = _
  rw [h]
theorem iter_e {S E : Type} {step : S → Option (E ⊕ S)} {s : S} {e : E} {F : Nat} (h : step s = some (.inl e)) : iter step (F + 1) s = some e := by
  show (match step s with | none => none | some (.inl e) => some e | some (.inr s') => iter step F s') = _
  rw [h]
