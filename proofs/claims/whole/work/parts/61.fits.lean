/-! fits -/
def scX (p : Nat → Nat → Bool) (i : Int) (y : Nat) (st : Int ⊕ Int) : Nat → Int ⊕ Int
  | 0 => st
  | x + 1 => Sum.elim (fun r => Sum.inl r) (fun c => if p y x then (if c = i then Sum.inl (((100 * y + x : Nat)) : Int) else Sum.inr (c + 1)) else Sum.inr c) (scX p i y st x)
def scY (p : Nat → Nat → Bool) (i : Int) (L : Nat) : Nat → Int ⊕ Int
  | 0 => Sum.inr 0
  | y + 1 => scX p i y (scY p i L y) L
theorem scX_inl {p : Nat → Nat → Bool} {i : Int} {y : Nat} {st : Int ⊕ Int} {r : Int} {x : Nat} (h : scX p i y st x = .inl r) : ∀ d, scX p i y st (x + d) = .inl r
  | 0 => h
  | d + 1 => by
    show Sum.elim _ _ (scX p i y st (x + d)) = _
    rw [scX_inl h d]; rfl
theorem scY_inl {p : Nat → Nat → Bool} {i : Int} {L : Nat} {r : Int} {y : Nat} (h : scY p i L y = .inl r) : ∀ d, scY p i L (y + d) = .inl r
  | 0 => h
  | d + 1 => by
    show scX p i (y + d) (scY p i L (y + d)) L = _
    rw [scY_inl h d]
    have := scX_inl (p := p) (i := i) (y := y + d) (st := Sum.inl r) (x := 0) rfl L
    rw [Nat.zero_add] at this
    exact this
theorem scX_skip {p : Nat → Nat → Bool} {i : Int} {y : Nat} {st : Int ⊕ Int} : ∀ {n : Nat}, (∀ x, x < n → p y x = false) → scX p i y st n = st
  | 0, _ => rfl
  | n + 1, h => by
    show Sum.elim _ _ (scX p i y st n) = _
    rw [scX_skip (n := n) (fun x hx => h x (by omega))]
    rcases st with r | c
    · rfl
    · show (if p y n = true then _ else _) = _
      rw [if_neg (by rw [h n (by omega)]; decide)]
theorem scX_b {p : Nat → Nat → Bool} {i : Int} {y : Nat} {a : Int} : ∀ {n : Nat} {c : Int}, scX p i y (.inr a) n = .inr c → a ≤ c ∧ c ≤ a + n
  | 0, c, h => by cases h; omega
  | n + 1, c, h => by
    have h' : Sum.elim (fun r => Sum.inl r) (fun c => if p y n then (if c = i then Sum.inl (((100 * y + n : Nat)) : Int) else Sum.inr (c + 1)) else Sum.inr c) (scX p i y (.inr a) n) = (Sum.inr c : Int ⊕ Int) := h
    cases e : scX p i y (.inr a) n with
    | inl r => rw [e] at h'; cases h'
    | inr c' =>
      rw [e] at h'
      have ih := scX_b e
      dsimp only [Sum.elim_inr] at h'
      by_cases g : p y n = true
      · rw [if_pos g] at h'
        by_cases g2 : c' = i
        · rw [if_pos g2] at h'; cases h'
        · rw [if_neg g2] at h'; cases h'; omega
      · rw [if_neg g] at h'; cases h'; omega
theorem scY_b {p : Nat → Nat → Bool} {i : Int} {L : Nat} : ∀ {n : Nat} {c : Int}, scY p i L n = .inr c → 0 ≤ c ∧ c ≤ L * n
  | 0, c, h => by cases h; omega
  | n + 1, c, h => by
    have h' : scX p i n (scY p i L n) L = .inr c := h
    cases e : scY p i L n with
    | inl r =>
      rw [e] at h'
      have := scX_inl (p := p) (i := i) (y := n) (st := Sum.inl r) (x := 0) rfl L
      rw [Nat.zero_add, h'] at this
      cases this
    | inr c' =>
      rw [e] at h'
      have ih := scY_b e
      have := scX_b h'
      have e3 : (L : Int) * ((n + 1 : Nat) : Int) = (L : Int) * (n : Int) + (L : Int) := by
        rw [Int.natCast_add, Int.mul_add]; simp
      rw [e3]
      omega
/-- heights as told -/
def toldP (H : Nat → Int) (I : MI) (k : Nat) : Prop := ∀ i, i < k → H (I 242 i).toNat = I 243 i
def toldR (H : Nat → Int) (I : MI) (k y : Nat) : Prop := ∀ i, i < k → (I 242 i).toNat / 12 = y → H (I 242 i).toNat = I 243 i
theorem so_eq {F k y : Nat} (hF : 1000000 ≤ F) {I : MI} (hk : k ≤ 20) (hc : ∀ i, i < k → 0 ≤ I 242 i ∧ I 242 i < 96) : ∃ v : Int, f_X_isKnownSo F (k : Int) (y : Int) I = some v ∧ (v ≠ 0 ↔ toldR (I 57) I k y) := by
  have key := wpo_iter (step := fun q : Int => f_X_isKnownSo_L2 F (k : Int) (y : Int) q I) (Q := fun e => (e = .inl () ∧ ¬ toldR (I 57) I k y) ∨ (e = .inr () ∧ toldR (I 57) I k y)) (fun q => ∃ i : Nat, i ≤ k ∧ q = (i : Int) ∧ ∀ i', i' < i → (I 242 i').toNat / 12 = y → I 57 (I 242 i').toNat = I 243 i') (fun q => k - q.toNat) ?_ (F := F) (s := (0 : Int)) (by omega) ⟨0, by omega, rfl, fun i' hi' => absurd hi' (by omega)⟩
  · obtain ⟨e, ex, he⟩ := key
    unfold f_X_isKnownSo
    rw [ex, Option.bind_some]
    rcases he with ⟨h, h'⟩ | ⟨h, h'⟩
    · rw [h]; exact ⟨0, rfl, fun g => absurd rfl g, fun g => absurd g h'⟩
    · rw [h]; exact ⟨1, rfl, fun _ => h', fun _ => by decide⟩
  rintro q ⟨i, h1, h2, h3⟩
  subst h2
  unfold f_X_isKnownSo_L2
  refine wpo_i (fun hc1 => wpo_s (Or.inr ⟨rfl, fun i' hi' => h3 i' (by omega)⟩)) (fun hc1 => wpo_n (by omega) (wpo_g (by omega) ?_))
  have hci := hc i (by omega)
  rw [Int.toNat_natCast, w32i (by omega) (by omega), div32_eq (by omega) (by omega) (by omega) (by omega)]
  have next : ((I 242 i).toNat / 12 = y → I 57 (I 242 i).toNat = I 243 i) → ∀ i', i' < i + 1 → (I 242 i').toNat / 12 = y → I 57 (I 242 i').toNat = I 243 i' := fun g i' hi' hy => by
    by_cases e : i' = i
    · subst e; exact g hy
    · exact h3 i' (by omega) hy
  refine wpo_i (fun hc2 => wpo_s ⟨⟨i + 1, by omega, by omega, next (fun h => absurd h (by omega))⟩, by omega⟩) (fun hc2 => wpo_g (by omega) ?_)
  refine wpo_i (fun hc3 => wpo_s ⟨⟨i + 1, by omega, by omega, next (fun _ => hc3)⟩, by omega⟩) (fun hc3 => wpo_s (Or.inl ⟨rfl, fun h => hc3 (h i (by omega) (by omega))⟩))
theorem of_eq {F k y : Nat} (hF : 1000000 ≤ F) {I : MI} (hk : k ≤ 20) (hc : ∀ i, i < k → 0 ≤ I 242 i ∧ I 242 i < 96) : ∃ v : Int, f_X_isKnownOf F (k : Int) (y : Int) I = some v ∧ (v = 0 → ∀ i, i < k → (I 242 i).toNat / 12 ≠ y) := by
  have key := wpo_iter (step := fun q : Int => f_X_isKnownOf_L2 F (k : Int) (y : Int) q I) (Q := fun e => e = .inl () ∨ (e = .inr () ∧ ∀ i, i < k → (I 242 i).toNat / 12 ≠ y)) (fun q => ∃ i : Nat, i ≤ k ∧ q = (i : Int) ∧ ∀ i', i' < i → (I 242 i').toNat / 12 ≠ y) (fun q => k - q.toNat) ?_ (F := F) (s := (0 : Int)) (by omega) ⟨0, by omega, rfl, fun i' hi' => absurd hi' (by omega)⟩
  · obtain ⟨e, ex, he⟩ := key
    unfold f_X_isKnownOf
    rw [ex, Option.bind_some]
    rcases he with h | ⟨h, h'⟩
    · rw [h]; exact ⟨1, rfl, fun g => absurd g (by decide)⟩
    · rw [h]; exact ⟨0, rfl, fun _ => h'⟩
  rintro q ⟨i, h1, h2, h3⟩
  subst h2
  unfold f_X_isKnownOf_L2
  refine wpo_i (fun hc1 => wpo_s (Or.inr ⟨rfl, fun i' hi' => h3 i' (by omega)⟩)) (fun hc1 => wpo_n (by omega) (wpo_g (by omega) ?_))
  have hci := hc i (by omega)
  rw [Int.toNat_natCast, w32i (by omega) (by omega), div32_eq (by omega) (by omega) (by omega) (by omega)]
  refine wpo_i (fun hc2 => wpo_s ⟨⟨i + 1, by omega, by omega, fun i' hi' => ?_⟩, by omega⟩) (fun hc2 => wpo_s (Or.inl rfl))
  by_cases e : i' = i
  · rw [e]; omega
  · exact h3 i' (by omega)
/-- the stone at (x, y), and the days -/
def trl (ρ : RIV) (s : BSt) (m n x y : Nat) : BSt := daysA ρ 0 (aW ρ).toNat n (thrA ρ m x y (9 * m + (thA s m).toNat) s)
noncomputable def fitP (ρ : RIV) (s : BSt) (I : MI) (m n k : Nat) (y x : Nat) : Bool := @decide (toldP (trl ρ s m n x y).2 I k) (Classical.propDecidable _)
noncomputable def wrgP (ρ : RIV) (s : BSt) (I : MI) (n k : Nat) (y : Nat) : Bool := @decide (¬ toldR (daysA ρ 0 (aW ρ).toNat n s).2 I k y) (Classical.propDecidable _)
theorem fitP_iff {ρ : RIV} {s : BSt} {I : MI} {m n k y x : Nat} : fitP ρ s I m n k y x = true ↔ toldP (trl ρ s m n x y).2 I k := by
  unfold fitP; exact @decide_eq_true_iff _ (Classical.propDecidable _)
theorem wrgP_iff {ρ : RIV} {s : BSt} {I : MI} {n k y : Nat} : wrgP ρ s I n k y = true ↔ ¬ toldR (daysA ρ 0 (aW ρ).toNat n s).2 I k y := by
  unfold wrgP; exact @decide_eq_true_iff _ (Classical.propDecidable _)
theorem fit_rows {ρ : RIV} {s : BSt} {I : MI} {m n k y x : Nat} (hρ : RivOK ρ) (hm : (m : Int) < aN ρ) (hx : (x : Int) < aL ρ) (hy : (y : Int) < aW ρ) (hst : 9 * m + (thA s m).toNat < 72) (hc : ∀ i, i < k → I 242 i < 96 ∧ ((((I 242 i).toNat / 12 : Nat)) : Int) < aW ρ) : fitP ρ s I m n k y x = true ↔ toldR (daysA ρ y 1 n (thrA ρ m x y (9 * m + (thA s m).toNat) s)).2 I k y ∧ ∀ y', y' < (aW ρ).toNat → y' ≠ y → wrgP ρ s I n k y' = false := by
  have hW := hρ.2.1
  have own := days_one hρ hy (s := thrA ρ m x y (9 * m + (thA s m).toNat) s) srow_refl n
  have oth : ∀ y', y' ≠ y → SRow y' (trl ρ s m n x y) (daysA ρ 0 (aW ρ).toNat n s) := fun y' h => days_same hρ (thr_other hρ hm hx hy hst (Ne.symm h)) n
  rw [fitP_iff]
  constructor
  · intro h
    refine ⟨fun i hi hiy => ?_, fun y' hy' hne => ?_⟩
    · have := (own.2 (I 242 i).toNat (by have := hc i hi; omega) hiy).1
      rw [← this]
      exact h i hi
    · rw [← Bool.not_eq_true, wrgP_iff]
      refine fun g => g (fun i hi hiy => ?_)
      rw [← ((oth y' hne).2 (I 242 i).toNat (by have := hc i hi; omega) hiy).1]
      exact h i hi
  · rintro ⟨h1, h2⟩ i hi
    have hci := hc i hi
    by_cases e : (I 242 i).toNat / 12 = y
    · have := (own.2 (I 242 i).toNat (by omega) e).1
      have t : (trl ρ s m n x y).2 (I 242 i).toNat = _ := this
      rw [t]
      exact h1 i hi e
    · have g := h2 ((I 242 i).toNat / 12) (by omega) e
      rw [← Bool.not_eq_true, wrgP_iff] at g
      have g' : toldR (daysA ρ 0 (aW ρ).toNat n s).2 I k ((I 242 i).toNat / 12) := Classical.byContradiction g
      rw [((oth _ e).2 (I 242 i).toNat (by omega) rfl).1]
      exact g' i hi rfl
