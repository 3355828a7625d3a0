/-! texts: what a reading comes to; terms by a stack -/
abbrev Ctl : Type := (Int × Int) ⊕ (Nat × Int × Int)
def takeA (K P : Nat → Int) (k : Int) : Ctl → Ctl
  | .inl e => .inl e
  | .inr (t, l, lp) => if K t = k then (if t < 400 then .inr (t + 1, l, lp) else .inl (2, P t)) else .inl (1, P t)
def failA (P : Nat → Int) (w : Int) : Ctl → Ctl
  | .inl e => .inl e
  | .inr (t, _, _) => .inl (w, P t)
def laterA (w p : Int) : Ctl → Ctl
  | .inl e => .inl e
  | .inr (t, l, lp) => .inr (t, if l = 0 then w else l, if l = 0 then p else lp)
def intA (K P V : Nat → Int) (lo hi : Int) : Ctl → Int × Ctl
  | .inl e => (lo, .inl e)
  | .inr (t, l, lp) => if K t = 301 ∧ t < 400 then (if lo ≤ V t ∧ V t ≤ hi then (V t, .inr (t + 1, l, lp)) else (lo, laterA 5 (P t) (.inr (t + 1, l, lp)))) else (lo, takeA K P 301 (.inr (t, l, lp)))
/-! the stack's machine; kinds are the class's, 6 is an open bracket, 2 .. 5 are + - * / -/
def opens : List Int → Nat
  | [] => 0
  | w :: W => if w = 6 then opens W + 1 else opens W
def popS (strong : Bool) : List Int → LCode → List Int × LCode
  | [], c => ([], c)
  | w :: W, c => if w = 6 ∨ (strong = true ∧ (w = 2 ∨ w = 3)) then (w :: W, c) else popS strong W (c ++ [(w, 0)])
def isOpK (k : Int) : Bool := decide (k = 43 ∨ k = 45 ∨ k = 42 ∨ k = 47)
def isStr (k : Int) : Bool := decide (k = 42 ∨ k = 47)
def opO (k : Int) : Int := if k = 43 then 2 else if k = 45 then 3 else if k = 42 then 4 else 5
def mach (K P V : Nat → Int) : Nat → Bool → Nat → List Int → LCode → (Int × Int) ⊕ (Nat × LCode)
  | 0, _, t, _, _ => .inl (2, P t)
  | n + 1, true, t, W, c =>
    if K t = 40 then (if opens W = 6 then .inl (2, P t) else if t < 400 then mach K P V n true (t + 1) (6 :: W) c else .inl (2, P t))
    else if K t = 301 then (if t < 400 then mach K P V n false (t + 1) W (c ++ [(0, V t)]) else .inl (2, P t))
    else if 267 ≤ K t ∧ K t ≤ 272 then (if t < 400 then mach K P V n false (t + 1) W (c ++ [(1, K t - 267)]) else .inl (2, P t))
    else .inl (1, P t)
  | n + 1, false, t, W, c =>
    if K t = 41 ∧ 0 < opens W then (if t < 400 then mach K P V n false (t + 1) (popS false W c).1.tail (popS false W c).2 else .inl (2, P t))
    else if isOpK (K t) = true then (if t < 400 then mach K P V n true (t + 1) (opO (K t) :: (popS (isStr (K t)) W c).1) (popS (isStr (K t)) W c).2 else .inl (2, P t))
    else if 0 < opens W then .inl (1, P t) else .inr (t, (popS false W c).2)
/-- from a place on -/
def mA (K P V : Nat → Int) (t : Nat) (W : List Int) (c : LCode) : (Int × Int) ⊕ (Nat × LCode) := mach K P V (401 - t) true t W c
def mB (K P V : Nat → Int) (t : Nat) (W : List Int) (c : LCode) : (Int × Int) ⊕ (Nat × LCode) := mach K P V (401 - t) false t W c
theorem mA_e {K P V : Nat → Int} {t : Nat} {W : List Int} {c : LCode} (ht : t ≤ 400) : mA K P V t W c = if K t = 40 then (if opens W = 6 then .inl (2, P t) else if t < 400 then mA K P V (t + 1) (6 :: W) c else .inl (2, P t)) else if K t = 301 then (if t < 400 then mB K P V (t + 1) W (c ++ [(0, V t)]) else .inl (2, P t)) else if 267 ≤ K t ∧ K t ≤ 272 then (if t < 400 then mB K P V (t + 1) W (c ++ [(1, K t - 267)]) else .inl (2, P t)) else .inl (1, P t) := by
  unfold mA mB
  rw [show 401 - t = (401 - (t + 1)) + 1 by omega]
  rfl
theorem mB_e {K P V : Nat → Int} {t : Nat} {W : List Int} {c : LCode} (ht : t ≤ 400) : mB K P V t W c = if K t = 41 ∧ 0 < opens W then (if t < 400 then mB K P V (t + 1) (popS false W c).1.tail (popS false W c).2 else .inl (2, P t)) else if isOpK (K t) = true then (if t < 400 then mA K P V (t + 1) (opO (K t) :: (popS (isStr (K t)) W c).1) (popS (isStr (K t)) W c).2 else .inl (2, P t)) else if 0 < opens W then .inl (1, P t) else .inr (t, (popS false W c).2) := by
  unfold mA mB
  rw [show 401 - t = (401 - (t + 1)) + 1 by omega]
  rfl
theorem opens_cons {w : Int} {W : List Int} (h : w ≠ 6) : opens (w :: W) = opens W := if_neg h
theorem opens_6 {W : List Int} : opens (6 :: W) = opens W + 1 := if_pos rfl
theorem popS_op {s : Bool} {w : Int} {W : List Int} {c : LCode} (h6 : w ≠ 6) (h : s = true → w ≠ 2 ∧ w ≠ 3) : popS s (w :: W) c = popS s W (c ++ [(w, 0)]) := by
  show (if w = 6 ∨ (s = true ∧ (w = 2 ∨ w = 3)) then (w :: W, c) else popS s W (c ++ [(w, 0)])) = _
  rw [if_neg]
  rintro (e | ⟨e1, e2⟩)
  · exact h6 e
  · have := h e1
    omega
theorem popS_6 {s : Bool} {W : List Int} {c : LCode} : popS s (6 :: W) c = (6 :: W, c) := if_pos (Or.inl rfl)
/-- a strong operator that waits comes out whatever follows -/
theorem mB_strong {K P V : Nat → Int} {t : Nat} {W : List Int} {c : LCode} {w : Int} (ht : t ≤ 400) (hw : w = 4 ∨ w = 5) : mB K P V t (w :: W) c = mB K P V t W (c ++ [(w, 0)]) := by
  rw [mB_e ht, mB_e ht, opens_cons (by omega), popS_op (s := false) (by omega) (fun h => by cases h), popS_op (s := isStr (K t)) (by omega) (fun _ => by omega)]
/-- a weak one, if no strong one follows -/
theorem mB_weak {K P V : Nat → Int} {t : Nat} {W : List Int} {c : LCode} {w : Int} (ht : t ≤ 400) (hw : w = 2 ∨ w = 3) (hk : K t ≠ 42 ∧ K t ≠ 47) : mB K P V t (w :: W) c = mB K P V t W (c ++ [(w, 0)]) := by
  have hs : isStr (K t) = false := by simp [isStr, hk.1, hk.2]
  rw [mB_e ht, mB_e ht, opens_cons (by omega), popS_op (s := false) (by omega) (fun h => by cases h), popS_op (s := isStr (K t)) (by omega) (fun h => by rw [hs] at h; cases h)]
/-- what may lie on top where a term, a product, a sum begins -/
def topU (_ : List Int) : Prop := True
def topP (W : List Int) : Prop := ∀ w W', W = w :: W' → w = 6 ∨ w = 2 ∨ w = 3
def topS (W : List Int) : Prop := ∀ w W', W = w :: W' → w = 6
theorem popS_P {W : List Int} {c : LCode} (h : topP W) : popS true W c = (W, c) := by
  cases W with
  | nil => rfl
  | cons w W =>
    have := h w W rfl
    exact if_pos (by rcases this with e | e | e
                     · exact Or.inl e
                     · exact Or.inr ⟨rfl, Or.inl e⟩
                     · exact Or.inr ⟨rfl, Or.inr e⟩)
theorem popS_S {s : Bool} {W : List Int} {c : LCode} (h : topS W) : popS s W c = (W, c) := by
  cases W with
  | nil => rfl
  | cons w W => exact if_pos (Or.inl (h w W rfl))
theorem topS_P {W : List Int} (h : topS W) : topP W := fun w W' e => Or.inl (h w W' e)
