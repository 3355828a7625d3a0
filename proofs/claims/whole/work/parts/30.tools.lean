/-! tools for the mathematics: 'it comes to some, and ..' -/
def wpo {α : Type} (o : Option α) (Q : α → Prop) : Prop := ∃ a, o = some a ∧ Q a
theorem wpo_some {α : Type} {a : α} {Q : α → Prop} : wpo (some a) Q ↔ Q a := ⟨fun ⟨b, h, q⟩ => by cases h; exact q, fun h => ⟨a, rfl, h⟩⟩
theorem wpo_none {α : Type} {Q : α → Prop} : wpo (none : Option α) Q ↔ False := ⟨fun ⟨b, h, q⟩ => (by cases h), fun h => h.elim⟩
theorem wpo_bind {α β : Type} {o : Option α} {k : α → Option β} {Q : β → Prop} : wpo (o.bind k) Q ↔ wpo o (fun a => wpo (k a) Q) := by
  constructor
  · rintro ⟨b, h, q⟩
    obtain ⟨a, ha, hk⟩ := Option.bind_eq_some_iff.mp h
    exact ⟨a, ha, b, hk, q⟩
  · rintro ⟨a, ha, b, hk, q⟩
    exact ⟨b, Option.bind_eq_some_iff.mpr ⟨a, ha, hk⟩, q⟩
theorem wpo_ite {α : Type} {c : Prop} [Decidable c] {x y : Option α} {Q : α → Prop} : wpo (if c then x else y) Q ↔ (c → wpo x Q) ∧ (¬ c → wpo y Q) := by
  by_cases h : c <;> simp [h]
theorem wpo_mono {α : Type} {o : Option α} {Q R : α → Prop} (h : wpo o Q) (hr : ∀ a, Q a → R a) : wpo o R := by
  obtain ⟨a, ha, q⟩ := h
  exact ⟨a, ha, hr a q⟩
/-- a test that holds -/
theorem wpo_g {α : Type} {c : Prop} [Decidable c] {x y : Option α} {Q : α → Prop} (hc : c) (h : wpo x Q) : wpo (if c then x else y) Q := by
  rw [if_pos hc]; exact h
theorem wpo_n {α : Type} {c : Prop} [Decidable c] {x y : Option α} {Q : α → Prop} (hc : ¬ c) (h : wpo y Q) : wpo (if c then x else y) Q := by
  rw [if_neg hc]; exact h
theorem wpo_i {α : Type} {c : Prop} [Decidable c] {x y : Option α} {Q : α → Prop} (h1 : c → wpo x Q) (h2 : ¬ c → wpo y Q) : wpo (if c then x else y) Q := wpo_ite.mpr ⟨h1, h2⟩
theorem wpo_b {α β : Type} {o : Option α} {k : α → Option β} {Q : β → Prop} {R : α → Prop} (h : wpo o R) (hk : ∀ a, R a → wpo (k a) Q) : wpo (o.bind k) Q := wpo_bind.mpr (wpo_mono h hk)
theorem wpo_be {α β : Type} {o : Option α} {k : α → Option β} {Q : β → Prop} {a : α} (h : o = some a) (hk : wpo (k a) Q) : wpo (o.bind k) Q := by
  rw [h]; exact hk
theorem wpo_s {α : Type} {a : α} {Q : α → Prop} (h : Q a) : wpo (some a) Q := ⟨a, rfl, h⟩
theorem wpo_eq {α : Type} {o : Option α} {a : α} (h : wpo o (fun b => b = a)) : o = some a := by
  obtain ⟨b, hb, rfl⟩ := h
  exact hb
theorem wpo_iter {S E : Type} {step : S → Option (E ⊕ S)} {Q : E → Prop} (P : S → Prop) (m : S → Nat) (hs : ∀ s, P s → wpo (step s) (fun r => Sum.elim Q (fun s' => P s' ∧ m s' < m s) r)) : ∀ {F : Nat} {s : S}, m s < F → P s → wpo (iter step F s) Q := by
  intro F
  induction F with
  | zero => intro s h _; omega
  | succ n ih =>
    intro s h hp
    obtain ⟨r, hr, q⟩ := hs s hp
    cases r with
    | inl e => exact ⟨e, by unfold iter; rw [hr], q⟩
    | inr s' =>
      obtain ⟨a, ha, hq⟩ := ih (s := s') (by have := q.2; omega) q.1
      exact ⟨a, by unfold iter; rw [hr]; exact ha, hq⟩
/-- a loop that is left with the state as it comes, by a picture of it -/
theorem iter_eq {S E : Type} {step : S → Option (E ⊕ S)} {e : E} (P : S → Prop) (m : S → Nat) (hs : ∀ s, P s → wpo (step s) (fun r => Sum.elim (fun e' => e' = e) (fun s' => P s' ∧ m s' < m s) r)) {F : Nat} {s : S} (h : m s < F) (hp : P s) : iter step F s = some e := wpo_eq (wpo_iter P m hs h hp)
theorem w32i {x : Int} (h1 : -2147483648 ≤ x) (h2 : x ≤ 2147483647) : w32 x = x := w32_eq ⟨h1, h2⟩
theorem div32_eq {x y : Int} (h0 : 0 ≤ x) (h1 : x ≤ 2147483647) (h2 : 0 < y) (h3 : y ≤ 2147483647) : div32 x y = x / y := by
  unfold div32
  rw [Int32.toInt_div_of_ne_left _ _ (by intro h; have := congrArg Int32.toInt h; rw [ofI_toInt ⟨by omega, h1⟩] at this; have e : Int32.minValue.toInt = -2147483648 := by decide +kernel
                                         omega)]
  rw [ofI_toInt ⟨by omega, h1⟩, ofI_toInt ⟨by omega, h3⟩]
  exact Int.tdiv_eq_ediv_of_nonneg h0
theorem rem32_eq {x y : Int} (h0 : 0 ≤ x) (h1 : x ≤ 2147483647) (h2 : 0 < y) (h3 : y ≤ 2147483647) : rem32 x y = x % y := by
  have hd := div32_eq h0 h1 h2 h3
  unfold div32 at hd
  unfold rem32
  have e : Int32.ofInt x / Int32.ofInt y = Int32.ofInt (x / y) := by
    rw [← hd, Int32.ofInt_toInt]
  have h5 : x / y * y ≤ x := Int.ediv_mul_le x (by omega)
  have h6 : 0 ≤ x / y := Int.ediv_nonneg h0 (by omega)
  have h7 : 0 ≤ x / y * y := Int.mul_nonneg h6 (by omega)
  rw [e, ← Int32.ofInt_mul, ← Int32.ofInt_sub]
  show w32 (x - x / y * y) = x % y
  rw [w32i (by omega) (by omega), Int.emod_def, Int.mul_comm]
/-- how many below n -/
def cnt (p : Nat → Bool) : Nat → Int
  | 0 => 0
  | n + 1 => cnt p n + (if p n then 1 else 0)
theorem cnt_s {p : Nat → Bool} {n : Nat} : cnt p (n + 1) = cnt p n + (if p n then 1 else 0) := rfl
theorem cnt_0 {p : Nat → Bool} : cnt p 0 = 0 := rfl
theorem cnt_nn (p : Nat → Bool) (n : Nat) : 0 ≤ cnt p n ∧ cnt p n ≤ n := by
  induction n with
  | zero => simp [cnt]
  | succ n ih => rw [cnt_s]; split <;> omega
theorem cnt_congr {p q : Nat → Bool} {n : Nat} (h : ∀ k, k < n → p k = q k) : cnt p n = cnt q n := by
  induction n with
  | zero => rfl
  | succ n ih => rw [cnt_s, cnt_s, ih (fun k hk => h k (by omega)), h n (by omega)]
theorem cnt_none {p : Nat → Bool} {n : Nat} (h : ∀ k, k < n → p k = false) : cnt p n = 0 := by
  induction n with
  | zero => rfl
  | succ n ih => rw [cnt_s, ih (fun k hk => h k (by omega)), h n (by omega)]; rfl
theorem cnt_add {p q : Nat → Bool} {n k : Nat} (hk : k < n) (hp : p k = false) (hq : q k = true) (h : ∀ j, j < n → j ≠ k → q j = p j) : cnt q n = cnt p n + 1 := by
  induction n with
  | zero => omega
  | succ n ih =>
    rw [cnt_s, cnt_s]
    by_cases e : k = n
    · subst e
      rw [cnt_congr (p := q) (q := p) (fun j hj => h j (by omega) (by omega)), hp, hq]
      simp
    · rw [ih (by omega) (fun j hj hne => h j (by omega) hne), h n (by omega) (Ne.symm e)]
      omega
theorem cnt_pos {p : Nat → Bool} {n k : Nat} (hk : k < n) (hp : p k = true) : 0 < cnt p n := by
  induction n with
  | zero => omega
  | succ n ih =>
    rw [cnt_s]
    by_cases e : k = n
    · subst e; rw [hp]; have := (cnt_nn p k).1; simp; omega
    · have := ih (by omega); split <;> omega
theorem cnt_ex {p : Nat → Bool} {n : Nat} (h : 0 < cnt p n) : ∃ k, k < n ∧ p k = true := by
  induction n with
  | zero => simp [cnt] at h
  | succ n ih =>
    rw [cnt_s] at h
    by_cases e : p n = true
    · exact ⟨n, by omega, e⟩
    · rw [if_neg e] at h
      obtain ⟨k, hk, hp⟩ := ih (by omega)
      exact ⟨k, by omega, hp⟩
def bI (p : Prop) [Decidable p] : Int := if p then 1 else 0
