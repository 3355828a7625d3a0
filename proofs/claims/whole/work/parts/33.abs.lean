/-! what both halves picture: the river, stones by place and level -/
abbrev RIV : Type := (Nat → Nat → Int) × LawT × LawT
def aL (ρ : RIV) : Int := ρ.1 0 0
def aW (ρ : RIV) : Int := ρ.1 0 1
def aJ (ρ : RIV) : Int := ρ.1 0 2
def aN (ρ : RIV) : Int := ρ.1 0 3
def aF (ρ : RIV) : Int := ρ.1 0 4
def dep (ρ : RIV) (c : Nat) : Int := ρ.1 1 c
def flo (ρ : RIV) (y : Nat) : Int := ρ.1 2 y
def fsd (ρ : RIV) (m : Nat) : Int := ρ.1 3 m
def siz (ρ : RIV) (m : Nat) : Int := ρ.1 4 m
def man (ρ : RIV) (m : Nat) : Int := ρ.1 5 m
def gri (ρ : RIV) (m : Nat) : Int := ρ.1 6 m
def fld (ρ : RIV) (f : Nat) : Int := ρ.1 7 f
def frc (ρ : RIV) (f : Nat) : Int := ρ.1 8 f
def RivOK (ρ : RIV) : Prop := (1 ≤ aL ρ ∧ aL ρ ≤ 12) ∧ (1 ≤ aW ρ ∧ aW ρ ≤ 8) ∧ (1 ≤ aJ ρ ∧ aJ ρ ≤ 4) ∧ (0 ≤ aN ρ ∧ aN ρ ≤ 8) ∧ (0 ≤ aF ρ ∧ aF ρ ≤ 8) ∧ (∀ c, c < 96 → 0 ≤ dep ρ c ∧ dep ρ c ≤ 9) ∧ (∀ y, y < 8 → 0 ≤ flo ρ y ∧ flo ρ y ≤ 9) ∧ (∀ m : Nat, (m : Int) < aN ρ → (0 ≤ fsd ρ m ∧ fsd ρ m ≤ 99) ∧ (1 ≤ siz ρ m ∧ siz ρ m ≤ 9) ∧ (1 ≤ man ρ m ∧ man ρ m ≤ 9) ∧ (0 ≤ gri ρ m ∧ gri ρ m ≤ 99)) ∧ (∀ f : Nat, (f : Int) < aF ρ → (0 ≤ fld ρ f ∧ fld ρ f ≤ 199) ∧ (1 ≤ frc ρ f ∧ frc ρ f ≤ 12)) ∧ LawB ρ.2.1 ∧ LawB ρ.2.2
/-- v: as the model's vector (0 .. 71 places, 72 .. 143 levels, 144 .. 239 moss, 240 the day), h: how high the cells are -/
abbrev BSt : Type := (Nat → Int) × (Nat → Int)
def clA (w most : Int) : Int := if w < 0 then 0 else if most < w then most else w
def carA (ρ : RIV) (c : Nat) (n force : Int) (s : BSt) : BSt :=
  let low := s.2 c - n
  let to : Int := if ((c % 12 : Nat) : Int) + force < aL ρ then (c : Int) + force else -2
  (fun k => if k < 72 then (if s.1 k = (c : Int) ∧ low ≤ s.1 (72 + k) then to else s.1 k)
    else if k < 144 then (if 0 ≤ to ∧ s.1 (k - 72) = (c : Int) ∧ low ≤ s.1 k then s.1 k + (s.2 to.toNat - low) else s.1 k)
    else if k = 144 + c ∨ (0 ≤ to ∧ k = 144 + to.toNat) then 0 else s.1 k,
   fun x => if 0 ≤ to ∧ x = to.toNat then s.2 x + n else if x = c then low else s.2 x)
def teA (ρ : RIV) (Λ : LawT) (c : Nat) (force : Int) (s : BSt) : Int := evalL (seeL (s.2 c) (dep ρ c) force (s.1 (144 + c)) ((c / 12 : Nat) : Int) ((c % 12 : Nat) : Int)) Λ.1 Λ.2
def cellA (ρ : RIV) (force : Int) (c : Nat) (s : BSt) : BSt :=
  if 0 < clA (teA ρ ρ.2.1 c force s) (s.2 c) then carA ρ c (clA (teA ρ ρ.2.1 c force s) (s.2 c)) force s else s
def rowA (ρ : RIV) (force : Int) (y : Nat) : Nat → BSt → BSt
  | 0, s => s
  | x + 1, s => rowA ρ force y x (cellA ρ force (12 * y + x) s)
def rowsA (ρ : RIV) (force : Int) (a : Nat) : Nat → BSt → BSt
  | 0, s => s
  | n + 1, s => rowA ρ force (a + n) (aL ρ).toNat (rowsA ρ force a n s)
def fldA (ρ : RIV) (a w : Nat) : Nat → BSt → BSt
  | 0, s => s
  | f + 1, s => if fld ρ f = s.1 240 then rowsA ρ (frc ρ f) a w (fldA ρ a w f s) else fldA ρ a w f s
def mosA (s : BSt) : BSt := (fun k => if 144 ≤ k ∧ k < 240 ∧ 0 < s.2 (k - 144) ∧ s.1 k < 99 then s.1 k + 1 else s.1 k, s.2)
def dayA (ρ : RIV) (a w : Nat) (s : BSt) : BSt := (fun k => if k = 240 then s.1 240 + 1 else (fldA ρ a w (aF ρ).toNat (mosA s)).1 k, (fldA ρ a w (aF ρ).toNat (mosA s)).2)
def daysA (ρ : RIV) (a w : Nat) : Nat → BSt → BSt
  | 0, s => s
  | n + 1, s => dayA ρ a w (daysA ρ a w n s)
def thrA (ρ : RIV) (m x y stone : Nat) (s : BSt) : BSt :=
  let to : Int := (x : Int) + flo ρ y / siz ρ m
  if aL ρ ≤ to then (fun k => if k = stone then -2 else s.1 k, s.2)
  else (fun k => if k = stone then 12 * (y : Int) + to else if k = 72 + stone then s.2 (12 * y + to.toNat) else if k = 144 + (12 * y + to.toNat) then 0 else s.1 k,
        fun c => if c = 12 * y + to.toNat then s.2 c + 1 else s.2 c)
def VOK (ρ : RIV) (s : BSt) : Prop :=
  (∀ k, k < 72 → s.1 k = -1 ∨ s.1 k = -2 ∨ (0 ≤ s.1 k ∧ s.1 k < 96 ∧ s.1 k % 12 < aL ρ ∧ s.1 k / 12 < aW ρ ∧ 0 ≤ s.1 (72 + k) ∧ s.1 (72 + k) < s.2 (s.1 k).toNat)) ∧
  (∀ j k, j < 72 → k < 72 → 0 ≤ s.1 j → s.1 j = s.1 k → s.1 (72 + j) = s.1 (72 + k) → j = k) ∧
  (∀ (c : Nat) (l : Int), c < 96 → 0 ≤ l → l < s.2 c → ∃ k, k < 72 ∧ s.1 k = (c : Int) ∧ s.1 (72 + k) = l) ∧
  (∀ c, c < 96 → 0 ≤ s.2 c ∧ (s.2 c = 0 → s.1 (144 + c) = 0) ∧ 0 ≤ s.1 (144 + c) ∧ s.1 (144 + c) ≤ 99) ∧
  (∀ m j : Nat, m < 8 → j < 9 → s.1 (9 * m + j) ≠ -1 → (m : Int) < aN ρ ∧ (j : Int) < man ρ m ∧ ∀ i, i < j → s.1 (9 * m + i) ≠ -1) ∧
  0 ≤ s.1 240
def hcn (v : Nat → Int) : Nat → Int := fun c => cnt (fun k => decide (v k = (c : Int))) 72
/-- levels 0 .. h - 1 are each one's own: there are h -/
theorem cnt_levels {p : Nat → Bool} {lv : Nat → Int} {N : Nat} (hinj : ∀ j k, j < N → k < N → p j = true → p k = true → lv j = lv k → j = k) : ∀ (h : Nat), (∀ k, k < N → p k = true → 0 ≤ lv k ∧ lv k < h) → (∀ l : Nat, l < h → ∃ k, k < N ∧ p k = true ∧ lv k = l) → cnt p N = h := by
  intro h
  induction h generalizing p with
  | zero => intro h1 _; exact cnt_none (fun k hk => by cases hp : p k with | false => rfl | true => have := h1 k hk hp; omega)
  | succ h ih =>
    intro h1 h2
    obtain ⟨k, hk, hp, hl⟩ := h2 h (by omega)
    have e : cnt p N = cnt (fun j => p j && decide (j ≠ k)) N + 1 := cnt_add hk (by simp) hp (fun j hj hne => by simp [hne])
    rw [e, ih]
    · simp
    · intro i j hi hj pi pj
      simp only [Bool.and_eq_true] at pi pj
      exact hinj i j hi hj pi.1 pj.1
    · intro j hj pj
      simp only [Bool.and_eq_true, decide_eq_true_eq] at pj
      have := h1 j hj pj.1
      refine ⟨this.1, ?_⟩
      by_cases e2 : lv j = h
      · exact absurd (hinj j k hj hk pj.1 hp (by rw [e2, hl])) pj.2
      · omega
    · intro l hl2
      obtain ⟨j, hj, pj, e3⟩ := h2 l (by omega)
      refine ⟨j, hj, ?_, e3⟩
      simp only [Bool.and_eq_true, decide_eq_true_eq]
      refine ⟨pj, fun e4 => ?_⟩
      subst e4
      omega
theorem vok_h {ρ : RIV} {s : BSt} (h : VOK ρ s) : ∀ c, c < 96 → hcn s.1 c = s.2 c := by
  intro c hc
  obtain ⟨h1, h2, h3, h4, h5, h6⟩ := h
  have h0 := (h4 c hc).1
  unfold hcn
  have e : s.2 c = ((s.2 c).toNat : Int) := by omega
  rw [e]
  refine cnt_levels (lv := fun k => s.1 (72 + k)) ?_ _ ?_ ?_
  · intro j k hj hk pj pk e
    simp only [decide_eq_true_eq] at pj pk
    exact h2 j k hj hk (by omega) (by omega) e
  · intro k hk pk
    simp only [decide_eq_true_eq] at pk
    rcases h1 k hk with a | a | a
    · omega
    · omega
    · have e2 : (s.1 k).toNat = c := by omega
      rw [e2] at a
      omega
  · intro l hl
    obtain ⟨k, hk, a, b⟩ := h3 c l hc (by omega) (by omega)
    exact ⟨k, hk, by simp [a], b⟩
