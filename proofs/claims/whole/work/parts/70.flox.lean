/-! fords: the class's flow (cf: comesFrom, gt: goesTo) -/
theorem sumN_none {f : Nat → Int} : ∀ {n : Nat}, (∀ k, k < n → f k = 0) → sumN f n = 0
  | 0, _ => rfl
  | n + 1, h => by
    show sumN f n + f n = 0
    rw [sumN_none (fun k hk => h k (by omega)), h n (by omega)]; rfl
theorem sumN_one {f : Nat → Int} {d : Nat} : ∀ {n : Nat}, d < n → f d = 1 → (∀ k, k < n → k ≠ d → f k = 0) → sumN f n = 1
  | 0, h, _, _ => absurd h (by omega)
  | n + 1, h, h1, h2 => by
    show sumN f n + f n = 1
    by_cases e : d = n
    · subst e
      rw [sumN_none (fun k hk => h2 k (by omega) (by omega)), h1]; rfl
    · rw [sumN_one (by omega) h1 (fun k hk hne => h2 k (by omega) hne), h2 n (by omega) (by omega)]; rfl
def FlX (cf gt : Nat → Int) : Prop := ∀ c, c < 96 → (-3 ≤ cf c ∧ cf c < 96 ∧ cf c ≠ -2) ∧ (-3 ≤ gt c ∧ gt c < 96 ∧ gt c ≠ -1) ∧ (cf c = -3 ↔ gt c = -3) ∧ ∀ d : Nat, d < 96 → (cf c = (d : Int) ↔ gt d = (c : Int))
theorem flx_flo {cf gt : Nat → Int} (h : FlX cf gt) : Flo (fun c => if cf c = -1 then 1 else 0) (fun c => if gt c = -3 then 0 else 1) (fun c => if gt c = -2 then 1 else 0) (fun d c => if gt d = (c : Int) then 1 else 0) := by
  intro c hc
  obtain ⟨h1, h2, h3, h4⟩ := h c hc
  constructor
  · show (if cf c = -1 then (1 : Int) else 0) + sumN (fun d => if gt d = (c : Int) then 1 else 0) 96 = if gt c = -3 then 0 else 1
    by_cases e : 0 ≤ cf c
    · have hd := (h4 (cf c).toNat (by omega)).mp (by omega)
      rw [sumN_one (f := fun d => if gt d = (c : Int) then 1 else 0) (d := (cf c).toNat) (by omega) (if_pos hd) (fun k hk hne => if_neg (fun h' => hne (by have := (h4 k hk).mpr h'; omega))), if_neg (by omega), if_neg (by omega)]
      rfl
    · rw [sumN_none (f := fun d => if gt d = (c : Int) then 1 else 0) (fun k hk => if_neg (fun h' => by have := (h4 k hk).mpr h'; omega))]
      by_cases e2 : cf c = -1
      · rw [if_pos e2, if_neg (by omega)]; rfl
      · rw [if_neg e2, if_pos (by omega)]; rfl
  · show (if gt c = -2 then (1 : Int) else 0) + sumN (fun d => if gt c = (d : Int) then 1 else 0) 96 = if gt c = -3 then 0 else 1
    by_cases e : 0 ≤ gt c
    · rw [sumN_one (f := fun d : Nat => if gt c = (d : Int) then 1 else 0) (d := (gt c).toNat) (by omega) (if_pos (by omega)) (fun k hk hne => if_neg (by omega)), if_neg (by omega), if_neg (by omega)]
      rfl
    · rw [sumN_none (f := fun d : Nat => if gt c = (d : Int) then 1 else 0) (fun k hk => if_neg (by omega))]
      by_cases e2 : gt c = -2
      · rw [if_pos e2, if_neg (by omega)]; rfl
      · rw [if_neg e2, if_pos (by omega)]; rfl
