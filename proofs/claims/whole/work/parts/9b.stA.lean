/-! texts: what is read goes on -/
def Ge (r : Ctl) (m : Nat) : Prop := ∀ t l lp, r = .inr (t, l, lp) → m ≤ t
theorem ge_inl {e : Int × Int} {m : Nat} : Ge (.inl e) m := fun t l lp h => by cases h
theorem ge_up {r : Ctl} {m k : Nat} (h : Ge r m) (hk : k ≤ m) : Ge r k := fun t l lp e => Nat.le_trans hk (h t l lp e)
theorem ge_take {K P : Nat → Int} {k : Int} {r : Ctl} {m : Nat} (h : Ge r m) : Ge (takeA K P k r) (m + 1) := fun t l lp e => by
  obtain ⟨t0, h1, h2, _⟩ := takeA_inr e
  have := h t0 l lp h1
  omega
theorem ge_fail {P : Nat → Int} {w : Int} {r : Ctl} {m : Nat} : Ge (failA P w r) m := by
  match r with
  | .inl e => exact ge_inl
  | .inr (t, l, lp) => exact ge_inl
theorem ge_later {w p : Int} {r : Ctl} {m : Nat} (h : Ge r m) : Ge (laterA w p r) m := by
  match r, h with
  | .inl e, h => exact ge_inl
  | .inr (t, l, lp), h => exact fun t' l' lp' e => by cases e; exact h t l lp rfl
theorem ge_int {K P V : Nat → Int} {lo hi : Int} {r : Ctl} {m : Nat} (h : Ge r m) : Ge (intA K P V lo hi r).2 (m + 1) := by
  match r, h with
  | .inl e, h => exact ge_inl
  | .inr (t, l, lp), h =>
    have ht := h t l lp rfl
    by_cases g : K t = 301 ∧ t < 400
    · have hi' : intA K P V lo hi (.inr (t, l, lp)) = if lo ≤ V t ∧ V t ≤ hi then (V t, .inr (t + 1, l, lp)) else (lo, laterA 5 (P t) (.inr (t + 1, l, lp))) := if_pos g
      rw [hi']
      by_cases g2 : lo ≤ V t ∧ V t ≤ hi
      · rw [if_pos g2]; exact fun t' l' lp' e => by cases e; omega
      · rw [if_neg g2]
        have : Ge (.inr (t + 1, l, lp)) (m + 1) := fun t' l' lp' e => by cases e; omega
        exact ge_later this
    · have hi' : intA K P V lo hi (.inr (t, l, lp)) = (lo, takeA K P 301 (.inr (t, l, lp))) := if_neg g
      rw [hi']; exact ge_take h
theorem ge_name {B : Nat → Int} {n nt k : Nat} {nm : Nat → Nat} {r : Ctl} {m : Nat} (h : Ge r m) : Ge (nameA B n nt k nm r) (m + 1) := by
  match r, h with
  | .inl e, h => exact ge_inl
  | .inr (t, l, lp), h =>
    show Ge (match takeA (Kt B n nt) (PP B n nt) 300 (.inr (t, l, lp)) with | .inl e => (.inl e : Ctl) | .inr s => if (fstP (fun j => decide (Wt B n (nm j) = Wt B n t)) k 0).isSome then laterA 3 (PP B n nt t) (.inr s) else .inr s) _
    have g := ge_take (K := Kt B n nt) (P := PP B n nt) (k := 300) h
    match takeA (Kt B n nt) (PP B n nt) 300 (.inr (t, l, lp)), g with
    | .inl e, _ => exact ge_inl
    | .inr s, g =>
      dsimp only
      split
      · exact ge_later g
      · exact g
theorem mach_adv {K P V : Nat → Int} : ∀ (n : Nat) (b : Bool) (t : Nat) (W : List Int) (c : LCode) (t' : Nat) (c' : LCode), mach K P V n b t W c = .inr (t', c') → t ≤ t' ∧ (b = true → t < t')
  | 0, _, _, _, _, _, _, h => by cases h
  | n + 1, true, t, W, c, t', c', h => by
    have h' : (if K t = 40 then (if opens W = 6 then .inl (2, P t) else if t < 400 then mach K P V n true (t + 1) (6 :: W) c else .inl (2, P t)) else if K t = 301 then (if t < 400 then mach K P V n false (t + 1) W (c ++ [(0, V t)]) else .inl (2, P t)) else if 267 ≤ K t ∧ K t ≤ 272 then (if t < 400 then mach K P V n false (t + 1) W (c ++ [(1, K t - 267)]) else .inl (2, P t)) else .inl (1, P t) : (Int × Int) ⊕ (Nat × LCode)) = .inr (t', c') := h
    split at h'
    · split at h'
      · cases h'
      · split at h'
        · have := (mach_adv n true (t + 1) _ _ _ _ h').1; exact ⟨by omega, fun _ => by omega⟩
        · cases h'
    · split at h'
      · split at h'
        · have := (mach_adv n false (t + 1) _ _ _ _ h').1; exact ⟨by omega, fun _ => by omega⟩
        · cases h'
      · split at h'
        · split at h'
          · have := (mach_adv n false (t + 1) _ _ _ _ h').1; exact ⟨by omega, fun _ => by omega⟩
          · cases h'
        · cases h'
  | n + 1, false, t, W, c, t', c', h => by
    have h' : (if K t = 41 ∧ 0 < opens W then (if t < 400 then mach K P V n false (t + 1) (popS false W c).1.tail (popS false W c).2 else .inl (2, P t)) else if isOpK (K t) = true then (if t < 400 then mach K P V n true (t + 1) (opO (K t) :: (popS (isStr (K t)) W c).1) (popS (isStr (K t)) W c).2 else .inl (2, P t)) else if 0 < opens W then .inl (1, P t) else .inr (t, (popS false W c).2) : (Int × Int) ⊕ (Nat × LCode)) = .inr (t', c') := h
    refine ⟨?_, fun e => by cases e⟩
    split at h'
    · split at h'
      · have := (mach_adv n false (t + 1) _ _ _ _ h').1; omega
      · cases h'
    · split at h'
      · split at h'
        · have := (mach_adv n true (t + 1) _ _ _ _ h').1; omega
        · cases h'
      · split at h'
        · cases h'
        · cases h'; exact Nat.le_refl _
theorem ge_ex {B : Nat → Int} {n nt m : Nat} {r : Ctl} (h : Ge r m) : Ge (exA B n nt r).1 (m + 1) := by
  match r, h with
  | .inl e, h => exact ge_inl
  | .inr (t, l, lp), h =>
    show Ge (match pE B n nt t with | .inl e => ((.inl e, []) : Ctl × LCode) | .inr (t', c) => (.inr (t', l, lp), c)).1 _
    match hp : pE B n nt t with
    | .inl e => exact ge_inl
    | .inr (t', c) =>
      have := (mach_adv _ _ _ _ _ _ _ hp).2 rfl
      have := h t l lp rfl
      exact fun a b c e => by cases e; omega
theorem ge_if {B : Nat → Int} {n nt m : Nat} {r : Ctl} (h : Ge r m) : Ge (ifA B n nt r).1 (m + 1) := ge_up (ge_take (ge_ex (ge_take (ge_ex (ge_take (ge_ex (ge_take h))))))) (by omega)
theorem ge_lawL {B : Nat → Int} {n nt : Nat} : ∀ (f j m : Nat) (r : Ctl) (acc : List (LCode × LCode × LCode)), Ge r m → Ge (lawL B n nt f j r acc).1 m
  | 0, _, _, _, _, h => h
  | f + 1, j, m, .inl e, acc, h => ge_inl
  | f + 1, j, m, .inr (t, l, lp), acc, h => by
    show Ge (if Kt B n nt t = 264 then (if j = 4 then ((.inl (2, PP B n nt t), (acc, [])) : Ctl × LawT) else lawL B n nt f (j + 1) (ifA B n nt (.inr (t, l, lp))).1 (acc ++ [(ifA B n nt (.inr (t, l, lp))).2])) else (takeA (Kt B n nt) (PP B n nt) 59 (exA B n nt (.inr (t, l, lp))).1, (acc, (exA B n nt (.inr (t, l, lp))).2))).1 m
    split
    · split
      · exact ge_inl
      · exact ge_lawL f (j + 1) m _ _ (ge_up (ge_if h) (by omega))
    · exact ge_up (ge_take (ge_ex h)) (by omega)
theorem ge_law {B : Nat → Int} {n nt m : Nat} {k : Int} {r : Ctl} (h : Ge r m) : Ge (lawA B n nt k r).1 (m + 1) := ge_lawL _ _ _ _ _ (ge_up (ge_take (ge_take h)) (by omega))
theorem ge_st {B : Nat → Int} {n nt t : Nat} {l lp : Int} {s : RIV × Nat × (Nat → Nat)} : Ge (stA B n nt (.inr (t, l, lp), s)).1 (t + 1) := by
  have h : Ge (.inr (t, l, lp)) t := fun a b c e => by cases e; exact Nat.le_refl _
  unfold stA
  dsimp only
  split
  · exact ge_up (ge_take (ge_int (ge_int (ge_take h)))) (by omega)
  split
  · split
    · show Ge (.inl (2, PP B n nt t)) (t + 1)
      exact ge_inl
    · exact ge_up (ge_take (ge_int (ge_int (ge_int (ge_take h))))) (by omega)
  split
  · exact ge_up (ge_take (ge_int (ge_int (ge_take h)))) (by omega)
  split
  · exact ge_up (ge_take (ge_int (ge_take h))) (by omega)
  split
  · split
    · show Ge (failA (PP B n nt) 2 (.inr (t, l, lp))) (t + 1)
      exact ge_fail
    · exact ge_up (ge_take (ge_int (ge_int (ge_int (ge_int (ge_name (ge_take h))))))) (by omega)
  split
  · split
    · show Ge (failA (PP B n nt) 2 (.inr (t, l, lp))) (t + 1)
      exact ge_fail
    · exact ge_up (ge_take (ge_int (ge_int (ge_take h)))) (by omega)
  split
  · exact ge_law h
  split
  · exact ge_law h
  · show Ge (failA (PP B n nt) 1 (.inr (t, l, lp))) (t + 1)
    exact ge_fail
