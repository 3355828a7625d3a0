/-! ways: costs to the far bank -/
def adx (a b : Nat) : Int := if b ≤ a then (a : Int) - (b : Int) else (b : Int) - (a : Int)
def dst (a b : Nat) : Int := adx (a % 12) (b % 12) + adx (a / 12) (b / 12)
/-- a leap from a cell (96: the near bank) to another -/
def lpB (ρ : RIV) (k to : Nat) : Bool := if k = 96 then decide (((to / 12 : Nat) : Int) + 1 ≤ aJ ρ) else decide (k ≠ to ∧ dst k to ≤ aJ ρ)
/-- a leap to the far bank -/
def enB (ρ : RIV) (k : Nat) : Bool := if k = 96 then decide (aW ρ + 1 ≤ aJ ρ) else decide (aW ρ - ((k / 12 : Nat) : Int) ≤ aJ ρ)
theorem dst_comm (a b : Nat) : dst a b = dst b a := by
  unfold dst adx
  split <;> split <;> split <;> split <;> omega
theorem lpB_comm {ρ : RIV} {a b : Nat} (ha : a < 96) (hb : b < 96) : lpB ρ a b = lpB ρ b a := by
  unfold lpB
  rw [if_neg (by omega), if_neg (by omega), dst_comm a b]
  apply decide_eq_decide.mpr
  omega
def gok (w : Nat → Int) (k : Nat) : Prop := k = 96 ∨ (k < 96 ∧ 0 ≤ w k)
/-- the costs: e for a leap, c for a cell -/
def Sol (ρ : RIV) (w : Nat → Int) (e : Int) (c : Nat → Int) (inf : Int) (D : Nat → Int) : Prop :=
  ∀ k, gok w k → 0 < D k ∧ D k ≤ inf ∧ (enB ρ k = true → D k ≤ e) ∧ (∀ to, to < 96 → 0 ≤ w to → lpB ρ k to = true → D to < inf → D k ≤ D to + e + c to) ∧ (D k = inf ∨ (enB ρ k = true ∧ D k = e) ∨ ∃ to, to < 96 ∧ 0 ≤ w to ∧ lpB ρ k to = true ∧ D to < inf ∧ D k = D to + e + c to)
theorem sol_le {ρ : RIV} {w : Nat → Int} {e inf : Int} {c D1 D2 : Nat → Int} (he : 0 < e) (hc : ∀ k, k < 96 → 0 ≤ w k → 0 ≤ c k) (h1 : Sol ρ w e c inf D1) (h2 : Sol ρ w e c inf D2) : ∀ (n k : Nat), gok w k → D1 k = (n : Int) → D1 k < inf → D2 k ≤ D1 k := by
  intro n
  induction n using Nat.strongRecOn with
  | _ n ih =>
  intro k hk hn hlt
  obtain ⟨a1, a2, a3, a4, a5⟩ := h1 k hk
  obtain ⟨b1, b2, b3, b4, b5⟩ := h2 k hk
  rcases a5 with h | ⟨h, h'⟩ | ⟨to, t1, t2, t3, t4, t5⟩
  · omega
  · have := b3 h
    omega
  · have hct := hc to t1 t2
    have p1 := (h1 to (Or.inr ⟨t1, t2⟩)).1
    have := ih (D1 to).toNat (by omega) to (Or.inr ⟨t1, t2⟩) (by omega) t4
    have := b4 to t1 t2 t3 (by omega)
    omega
theorem sol_uniq {ρ : RIV} {w : Nat → Int} {e inf : Int} {c D1 D2 : Nat → Int} (he : 0 < e) (hc : ∀ k, k < 96 → 0 ≤ w k → 0 ≤ c k) (h1 : Sol ρ w e c inf D1) (h2 : Sol ρ w e c inf D2) (k : Nat) (hk : gok w k) : D1 k = D2 k := by
  have p1 := h1 k hk
  have p2 := h2 k hk
  have l1 := sol_le he hc h1 h2 (D1 k).toNat k hk (by omega)
  have l2 := sol_le he hc h2 h1 (D2 k).toNat k hk (by omega)
  by_cases g1 : D1 k < inf
  · by_cases g2 : D2 k < inf
    · have := l1 g1; have := l2 g2; omega
    · have := l1 g1; omega
  · by_cases g2 : D2 k < inf
    · have := l2 g2; omega
    · omega
/-- how many cells cost less -/
def rkD (w D : Nat → Int) (k : Nat) : Int := cnt (fun j => decide (0 ≤ w j ∧ D j < D k)) 96
theorem rkD_nn {w D : Nat → Int} {k : Nat} : 0 ≤ rkD w D k ∧ rkD w D k ≤ 96 := cnt_nn _ 96
theorem cnt_mono {p q : Nat → Bool} {n : Nat} (h : ∀ k, k < n → p k = true → q k = true) : cnt p n ≤ cnt q n := by
  induction n with
  | zero => exact Int.le_refl _
  | succ n ih =>
    have := ih (fun k hk => h k (by omega))
    have h2 := h n (by omega)
    rw [cnt_s, cnt_s]
    by_cases e : p n = true
    · rw [if_pos e, if_pos (h2 e)]; omega
    · rw [if_neg e]; split <;> omega
theorem cnt_lt {p q : Nat → Bool} {n k : Nat} (h : ∀ j, j < n → p j = true → q j = true) (hk : k < n) (hp : p k = false) (hq : q k = true) : cnt p n + 1 ≤ cnt q n := by
  have h1 : cnt (fun j => p j || decide (j = k)) n = cnt p n + 1 := cnt_add hk hp (by simp) (fun j hj hne => by simp [hne])
  have h2 : cnt (fun j => p j || decide (j = k)) n ≤ cnt q n := cnt_mono (fun j hj e => by
    simp only [Bool.or_eq_true, decide_eq_true_eq] at e
    rcases e with e | e
    · exact h j hj e
    · rw [e]; exact hq)
  omega
theorem rkD_lt {w D : Nat → Int} {k to : Nat} (ht : to < 96) (hw : 0 ≤ w to) (hlt : D to < D k) : rkD w D to + 1 ≤ rkD w D k := by
  unfold rkD
  refine cnt_lt (k := to) (fun j hj e => ?_) ht (by simp) (by simp; omega)
  simp only [decide_eq_true_eq] at e ⊢
  omega
/-- the first of n places -/
def fstP (p : Nat → Bool) : Nat → Nat → Option Nat
  | 0, _ => none
  | n + 1, a => if p a then some a else fstP p n (a + 1)
theorem fstP_some {p : Nat → Bool} : ∀ {n a b : Nat}, fstP p n a = some b → a ≤ b ∧ b < a + n ∧ p b = true ∧ ∀ j, a ≤ j → j < b → p j = false
  | 0, a, b, h => by cases h
  | n + 1, a, b, h => by
    unfold fstP at h
    by_cases e : p a = true
    · rw [if_pos e] at h; cases h; exact ⟨Nat.le_refl _, by omega, e, fun j h1 h2 => by omega⟩
    · rw [if_neg e] at h
      obtain ⟨h1, h2, h3, h4⟩ := fstP_some h
      refine ⟨by omega, by omega, h3, fun j h5 h6 => ?_⟩
      by_cases e2 : j = a
      · rw [e2]; simpa using e
      · exact h4 j (by omega) h6
theorem fstP_ex {p : Nat → Bool} : ∀ {n a k : Nat}, a ≤ k → k < a + n → p k = true → ∃ b, fstP p n a = some b
  | 0, a, k, h1, h2, _ => by omega
  | n + 1, a, k, h1, h2, h3 => by
    unfold fstP
    by_cases e : p a = true
    · exact ⟨a, by rw [if_pos e]⟩
    · rw [if_neg e]
      have : k ≠ a := by intro e2; rw [e2] at h3; exact e h3
      exact fstP_ex (k := k) (by omega) (by omega) h3
theorem fstP_congr {p q : Nat → Bool} : ∀ {n a : Nat}, (∀ j, a ≤ j → j < a + n → p j = q j) → fstP p n a = fstP q n a
  | 0, a, _ => rfl
  | n + 1, a, h => by
    unfold fstP
    rw [h a (by omega) (by omega), fstP_congr (fun j h1 h2 => h j (by omega) (by omega))]
/-- the next cell of the line: the first from which the rest costs what is left -/
def nxP (ρ : RIV) (w : Nat → Int) (e : Int) (c D : Nat → Int) (inf : Int) (k to : Nat) : Bool := decide (0 ≤ w to) && lpB ρ k to && decide (D to < inf ∧ D to + e + c to = D k)
def nxt (ρ : RIV) (w : Nat → Int) (e : Int) (c D : Nat → Int) (inf : Int) (k : Nat) : Nat := (fstP (nxP ρ w e c D inf k) 96 0).getD 0
def itn (ρ : RIV) (w : Nat → Int) (e : Int) (c D : Nat → Int) (inf : Int) : Nat → Nat
  | 0 => 96
  | n + 1 => nxt ρ w e c D inf (itn ρ w e c D inf n)
theorem nxt_spec {ρ : RIV} {w : Nat → Int} {e inf : Int} {c D : Nat → Int} (h : Sol ρ w e c inf D) (he : 0 < e) {k : Nat} (hk : gok w k) (hlt : D k < inf) (hne : D k ≠ e) : fstP (nxP ρ w e c D inf k) 96 0 = some (nxt ρ w e c D inf k) ∧ nxt ρ w e c D inf k < 96 ∧ 0 ≤ w (nxt ρ w e c D inf k) ∧ lpB ρ k (nxt ρ w e c D inf k) = true ∧ D (nxt ρ w e c D inf k) < inf ∧ D (nxt ρ w e c D inf k) + e + c (nxt ρ w e c D inf k) = D k := by
  obtain ⟨a1, a2, a3, a4, a5⟩ := h k hk
  rcases a5 with h' | ⟨_, h'⟩ | ⟨to, t1, t2, t3, t4, t5⟩
  · omega
  · exact absurd h' hne
  · obtain ⟨b, hb⟩ := fstP_ex (p := nxP ρ w e c D inf k) (n := 96) (a := 0) (k := to) (by omega) (by omega) (by unfold nxP; simp [t2, t3, t4]; omega)
    have hn : nxt ρ w e c D inf k = b := by unfold nxt; rw [hb]; rfl
    obtain ⟨b1, b2, b3, b4⟩ := fstP_some hb
    rw [hn]
    unfold nxP at b3
    simp only [Bool.and_eq_true, decide_eq_true_eq] at b3
    exact ⟨hb, by omega, b3.1.1, b3.1.2, b3.2.1, b3.2.2⟩
def FBx (inf2 x : Int) (b : Bool) (y : Int) : Int := if b then y else inf2

def FB0 (x : Int) : Int := x / 10000 * 100000 + x % 10000
theorem form0 {ρ : RIV} {w : Nat → Int} {e inf : Int} {c D h l : Nat → Int} {he le : Int} (hs : Sol ρ w e c inf D) (e1 : e = 10000 * he + le) (e2 : 0 ≤ he ∧ he ≤ 1) (e3 : 0 ≤ le ∧ le ≤ 1 ∧ 1 ≤ he + le) (hc : ∀ k, k < 96 → 0 ≤ w k → c k = 10000 * h k + l k ∧ 0 ≤ h k ∧ h k ≤ 100 ∧ 0 ≤ l k ∧ he + h k ≤ 101 ∧ le + l k ≤ 100) (hm : le ≤ 100) : ∀ (n k : Nat), gok w k → D k = (n : Int) → D k < inf → ∃ H L : Int, D k = 10000 * H + L ∧ 0 ≤ H ∧ 0 ≤ L ∧ L ≤ 100 * (1 + rkD w D k) ∧ H ≤ 101 * (1 + rkD w D k) := by
  intro n
  induction n using Nat.strongRecOn with
  | _ n ih =>
  intro k hk hn hlt
  obtain ⟨a1, a2, a3, a4, a5⟩ := hs k hk
  have hr := rkD_nn (w := w) (D := D) (k := k)
  rcases a5 with h' | ⟨_, h'⟩ | ⟨to, t1, t2, t3, t4, t5⟩
  · omega
  · exact ⟨he, le, by omega, by omega, by omega, by omega, by omega⟩
  · obtain ⟨c1, c2, c3, c4, c5, c6⟩ := hc to t1 t2
    have p1 := (hs to (Or.inr ⟨t1, t2⟩)).1
    obtain ⟨H, L, q1, q2, q3, q4, q5⟩ := ih (D to).toNat (by omega) to (Or.inr ⟨t1, t2⟩) (by omega) t4
    have := rkD_lt (w := w) (D := D) (k := k) t1 t2 (by omega)
    exact ⟨H + he + h to, L + le + l to, by omega, by omega, by omega, by omega, by omega⟩
/-- the same costs in the model's base -/
theorem conv0 {ρ : RIV} {w : Nat → Int} {e inf : Int} {c D h l : Nat → Int} {he le : Int} (hs : Sol ρ w e c inf D) (e1 : e = 10000 * he + le) (e2 : 0 ≤ he ∧ he ≤ 1) (e3 : 0 ≤ le ∧ le ≤ 1 ∧ 1 ≤ he + le) (hc : ∀ k, k < 96 → 0 ≤ w k → c k = 10000 * h k + l k ∧ 0 ≤ h k ∧ h k ≤ 100 ∧ 0 ≤ l k ∧ he + h k ≤ 101 ∧ le + l k ≤ 100) (hm : le ≤ 100) (hinf : inf = 1073741824) : Sol ρ w (100000 * he + le) (fun k => 100000 * h k + l k) 2000000000 (fun k => if D k < inf then FB0 (D k) else 2000000000) := by
  have hf : ∀ k, gok w k → D k < inf → ∃ H L : Int, D k = 10000 * H + L ∧ 0 ≤ H ∧ 0 ≤ L ∧ L ≤ 100 * (1 + rkD w D k) ∧ H ≤ 101 * (1 + rkD w D k) := fun k hk hlt => form0 hs e1 e2 e3 hc hm (D k).toNat k hk (by have := (hs k hk).1; omega) hlt
  intro k hk
  obtain ⟨a1, a2, a3, a4, a5⟩ := hs k hk
  have hr := rkD_nn (w := w) (D := D) (k := k)
  by_cases hlt : D k < inf
  · obtain ⟨H, L, q1, q2, q3, q4, q5⟩ := hf k hk hlt
    have v1 : FB0 (D k) = 100000 * H + L := by unfold FB0; omega
    simp only [if_pos hlt]
    refine ⟨by omega, by omega, fun h' => ?_, fun to t1 t2 t3 t4 => ?_, ?_⟩
    · have := a3 h'; omega
    · by_cases g : D to < inf
      · obtain ⟨c1, c2, c3, c4, c5, c6⟩ := hc to t1 t2
        obtain ⟨H2, L2, r1, r2, r3, r4, r5⟩ := hf to (Or.inr ⟨t1, t2⟩) g
        have hr2 := rkD_nn (w := w) (D := D) (k := to)
        have v2 : FB0 (D to) = 100000 * H2 + L2 := by unfold FB0; omega
        have := a4 to t1 t2 t3 g
        rw [if_pos g, v1, v2]
        omega
      · rw [if_neg g] at t4; omega
    · rcases a5 with h' | ⟨h1', h'⟩ | ⟨to, t1, t2, t3, t4, t5⟩
      · omega
      · exact Or.inr (Or.inl ⟨h1', by omega⟩)
      · refine Or.inr (Or.inr ⟨to, t1, t2, t3, ?_, ?_⟩)
        · obtain ⟨H2, L2, r1, r2, r3, r4, r5⟩ := hf to (Or.inr ⟨t1, t2⟩) t4
          have hr2 := rkD_nn (w := w) (D := D) (k := to)
          have v2 : FB0 (D to) = 100000 * H2 + L2 := by unfold FB0; omega
          rw [if_pos t4, v2]; omega
        · obtain ⟨c1, c2, c3, c4, c5, c6⟩ := hc to t1 t2
          obtain ⟨H2, L2, r1, r2, r3, r4, r5⟩ := hf to (Or.inr ⟨t1, t2⟩) t4
          have hr2 := rkD_nn (w := w) (D := D) (k := to)
          have v2 : FB0 (D to) = 100000 * H2 + L2 := by unfold FB0; omega
          rw [if_pos t4, v1, v2]; omega
  · simp only [if_neg hlt]
    refine ⟨by omega, by omega, fun h' => ?_, fun to t1 t2 t3 t4 => ?_, Or.inl trivial⟩
    · have h0 := a3 h'
      omega
    · by_cases g : D to < inf
      · obtain ⟨c1, c2, c3, c4, c5, c6⟩ := hc to t1 t2
        obtain ⟨H2, L2, r1, r2, r3, r4, r5⟩ := hf to (Or.inr ⟨t1, t2⟩) g
        have hr2 := rkD_nn (w := w) (D := D) (k := to)
        have := a4 to t1 t2 t3 g
        omega
      · rw [if_neg g] at t4; omega

def FB1 (x : Int) : Int := x / 1000 * 100000 + x % 1000
theorem form1 {ρ : RIV} {w : Nat → Int} {e inf : Int} {c D h l : Nat → Int} {he le : Int} (hs : Sol ρ w e c inf D) (e1 : e = 1000 * he + le) (e2 : 0 ≤ he ∧ he ≤ 1) (e3 : 0 ≤ le ∧ le ≤ 1 ∧ 1 ≤ he + le) (hc : ∀ k, k < 96 → 0 ≤ w k → c k = 1000 * h k + l k ∧ 0 ≤ h k ∧ h k ≤ 100 ∧ 0 ≤ l k ∧ he + h k ≤ 101 ∧ le + l k ≤ 1) (hm : le ≤ 1) : ∀ (n k : Nat), gok w k → D k = (n : Int) → D k < inf → ∃ H L : Int, D k = 1000 * H + L ∧ 0 ≤ H ∧ 0 ≤ L ∧ L ≤ 1 * (1 + rkD w D k) ∧ H ≤ 101 * (1 + rkD w D k) := by
  intro n
  induction n using Nat.strongRecOn with
  | _ n ih =>
  intro k hk hn hlt
  obtain ⟨a1, a2, a3, a4, a5⟩ := hs k hk
  have hr := rkD_nn (w := w) (D := D) (k := k)
  rcases a5 with h' | ⟨_, h'⟩ | ⟨to, t1, t2, t3, t4, t5⟩
  · omega
  · exact ⟨he, le, by omega, by omega, by omega, by omega, by omega⟩
  · obtain ⟨c1, c2, c3, c4, c5, c6⟩ := hc to t1 t2
    have p1 := (hs to (Or.inr ⟨t1, t2⟩)).1
    obtain ⟨H, L, q1, q2, q3, q4, q5⟩ := ih (D to).toNat (by omega) to (Or.inr ⟨t1, t2⟩) (by omega) t4
    have := rkD_lt (w := w) (D := D) (k := k) t1 t2 (by omega)
    exact ⟨H + he + h to, L + le + l to, by omega, by omega, by omega, by omega, by omega⟩
/-- the same costs in the model's base -/
theorem conv1 {ρ : RIV} {w : Nat → Int} {e inf : Int} {c D h l : Nat → Int} {he le : Int} (hs : Sol ρ w e c inf D) (e1 : e = 1000 * he + le) (e2 : 0 ≤ he ∧ he ≤ 1) (e3 : 0 ≤ le ∧ le ≤ 1 ∧ 1 ≤ he + le) (hc : ∀ k, k < 96 → 0 ≤ w k → c k = 1000 * h k + l k ∧ 0 ≤ h k ∧ h k ≤ 100 ∧ 0 ≤ l k ∧ he + h k ≤ 101 ∧ le + l k ≤ 1) (hm : le ≤ 1) (hinf : inf = 1073741824) : Sol ρ w (100000 * he + le) (fun k => 100000 * h k + l k) 2000000000 (fun k => if D k < inf then FB1 (D k) else 2000000000) := by
  have hf : ∀ k, gok w k → D k < inf → ∃ H L : Int, D k = 1000 * H + L ∧ 0 ≤ H ∧ 0 ≤ L ∧ L ≤ 1 * (1 + rkD w D k) ∧ H ≤ 101 * (1 + rkD w D k) := fun k hk hlt => form1 hs e1 e2 e3 hc hm (D k).toNat k hk (by have := (hs k hk).1; omega) hlt
  intro k hk
  obtain ⟨a1, a2, a3, a4, a5⟩ := hs k hk
  have hr := rkD_nn (w := w) (D := D) (k := k)
  by_cases hlt : D k < inf
  · obtain ⟨H, L, q1, q2, q3, q4, q5⟩ := hf k hk hlt
    have v1 : FB1 (D k) = 100000 * H + L := by unfold FB1; omega
    simp only [if_pos hlt]
    refine ⟨by omega, by omega, fun h' => ?_, fun to t1 t2 t3 t4 => ?_, ?_⟩
    · have := a3 h'; omega
    · by_cases g : D to < inf
      · obtain ⟨c1, c2, c3, c4, c5, c6⟩ := hc to t1 t2
        obtain ⟨H2, L2, r1, r2, r3, r4, r5⟩ := hf to (Or.inr ⟨t1, t2⟩) g
        have hr2 := rkD_nn (w := w) (D := D) (k := to)
        have v2 : FB1 (D to) = 100000 * H2 + L2 := by unfold FB1; omega
        have := a4 to t1 t2 t3 g
        rw [if_pos g, v1, v2]
        omega
      · rw [if_neg g] at t4; omega
    · rcases a5 with h' | ⟨h1', h'⟩ | ⟨to, t1, t2, t3, t4, t5⟩
      · omega
      · exact Or.inr (Or.inl ⟨h1', by omega⟩)
      · refine Or.inr (Or.inr ⟨to, t1, t2, t3, ?_, ?_⟩)
        · obtain ⟨H2, L2, r1, r2, r3, r4, r5⟩ := hf to (Or.inr ⟨t1, t2⟩) t4
          have hr2 := rkD_nn (w := w) (D := D) (k := to)
          have v2 : FB1 (D to) = 100000 * H2 + L2 := by unfold FB1; omega
          rw [if_pos t4, v2]; omega
        · obtain ⟨c1, c2, c3, c4, c5, c6⟩ := hc to t1 t2
          obtain ⟨H2, L2, r1, r2, r3, r4, r5⟩ := hf to (Or.inr ⟨t1, t2⟩) t4
          have hr2 := rkD_nn (w := w) (D := D) (k := to)
          have v2 : FB1 (D to) = 100000 * H2 + L2 := by unfold FB1; omega
          rw [if_pos t4, v1, v2]; omega
  · simp only [if_neg hlt]
    refine ⟨by omega, by omega, fun h' => ?_, fun to t1 t2 t3 t4 => ?_, Or.inl trivial⟩
    · have h0 := a3 h'
      omega
    · by_cases g : D to < inf
      · obtain ⟨c1, c2, c3, c4, c5, c6⟩ := hc to t1 t2
        obtain ⟨H2, L2, r1, r2, r3, r4, r5⟩ := hf to (Or.inr ⟨t1, t2⟩) g
        have hr2 := rkD_nn (w := w) (D := D) (k := to)
        have := a4 to t1 t2 t3 g
        omega
      · rw [if_neg g] at t4; omega
