/-! count -/
theorem cnt_app {p : Nat → Bool} {a : Nat} : ∀ {n : Nat}, cnt p (a + n) = cnt p a + cnt (fun i => p (a + i)) n
  | 0 => by simp [cnt]
  | n + 1 => by
    rw [show a + (n + 1) = (a + n) + 1 by omega, cnt_s, cnt_s, cnt_app]
    omega
theorem lying_eq {F b : Nat} (hF : 1000000 ≤ F) {I : MI} {ρ : RIV} {s : BSt} (hv : VOK ρ s) {dm : Int} (hb : BedX I b dm s) : f_B_countLying F b I = some (cnt (fun k => decide (0 ≤ s.1 k)) 72) := by
  unfold f_B_countLying
  rw [iter_eq (e := cnt (fun k => decide (0 ≤ s.1 k)) 72) (fun q => ∃ m : Nat, m ≤ 8 ∧ q.2 = (m : Int) ∧ q.1 = cnt (fun k => decide (0 ≤ s.1 k)) (9 * m)) (fun q => 8 - q.2.toNat) ?_ (by dsimp only; omega) ⟨0, by omega, rfl, rfl⟩]
  · rfl
  rintro ⟨x, i⟩ ⟨m, h1, h2, h3⟩
  dsimp only at h2 h3 ⊢
  subst h2
  unfold f_B_countLying_L4
  refine wpo_i (fun hc => wpo_s ?_) (fun hc => wpo_g (by omega) (wpo_s ?_))
  · have : m = 8 := by omega
    subst this
    exact h3
  have hth := hb.2.2.2.2.2.2.1 m (by omega)
  have hlo := hb.2.2.2.2.2.2.2 m (by omega)
  have hsp := thA_split hv (m := m) (by omega)
  unfold thA at hsp
  have nn := cnt_nn (fun k => decide (0 ≤ s.1 k)) (9 * m)
  have n1 := cnt_nn (fun j => decide (0 ≤ s.1 (9 * m + j))) 9
  have n2 := cnt_nn (fun j => decide (s.1 (9 * m + j) = -2)) 9
  rw [Int.toNat_natCast, hth, hlo, hsp, w32i (x := (m : Int) + 1) (by omega) (by omega), w32i (x := cnt (fun j => decide (0 ≤ s.1 (9 * m + j))) 9 + cnt (fun j => decide (s.1 (9 * m + j) = -2)) 9 - cnt (fun j => decide (s.1 (9 * m + j) = -2)) 9) (by omega) (by omega), w32i (by omega) (by omega)]
  refine ⟨⟨m + 1, by omega, by dsimp only; omega, ?_⟩, by dsimp only; omega⟩
  dsimp only
  rw [show 9 * (m + 1) = 9 * m + 9 by omega, cnt_app, ← h3]
  omega
theorem lost_eq {F b : Nat} (hF : 1000000 ≤ F) {I : MI} {s : BSt} {dm : Int} (hb : BedX I b dm s) : f_B_countLost F b I = some (cnt (fun k => decide (s.1 k = -2)) 72) := by
  unfold f_B_countLost
  rw [iter_eq (e := cnt (fun k => decide (s.1 k = -2)) 72) (fun q => ∃ m : Nat, m ≤ 8 ∧ q.2 = (m : Int) ∧ q.1 = cnt (fun k => decide (s.1 k = -2)) (9 * m)) (fun q => 8 - q.2.toNat) ?_ (by dsimp only; omega) ⟨0, by omega, rfl, rfl⟩]
  · rfl
  rintro ⟨x, i⟩ ⟨m, h1, h2, h3⟩
  dsimp only at h2 h3 ⊢
  subst h2
  unfold f_B_countLost_L4
  refine wpo_i (fun hc => wpo_s ?_) (fun hc => wpo_g (by omega) (wpo_s ?_))
  · have : m = 8 := by omega
    subst this
    exact h3
  have hlo := hb.2.2.2.2.2.2.2 m (by omega)
  have nn := cnt_nn (fun k => decide (s.1 k = -2)) (9 * m)
  have n2 := cnt_nn (fun j => decide (s.1 (9 * m + j) = -2)) 9
  rw [Int.toNat_natCast, hlo, w32i (x := (m : Int) + 1) (by omega) (by omega), w32i (by omega) (by omega)]
  refine ⟨⟨m + 1, by omega, by dsimp only; omega, ?_⟩, by dsimp only; omega⟩
  dsimp only
  rw [show 9 * (m + 1) = 9 * m + 9 by omega, cnt_app, ← h3]
/-- a cell of the river -/
def inRv (ρ : RIV) (c : Nat) : Bool := decide (((c % 12 : Nat) : Int) < aL ρ ∧ ((c / 12 : Nat) : Int) < aW ρ)
def isSt (ρ : RIV) (h : Nat → Int) (c : Nat) : Bool := inRv ρ c && decide (dep ρ c ≤ h c)
theorem has_c {F rv c : Nat} {I : MI} {ρ : RIV} (hr : RivX I rv ρ) (hc : c < 96) : f_R_has F rv (rem32 (c : Int) 12) (div32 (c : Int) 12) I = some (if inRv ρ c = true then 1 else 0) := by
  rw [rem32_eq (by omega) (by omega) (by omega) (by omega), div32_eq (by omega) (by omega) (by omega) (by omega), has_eq, hr.1, hr.2.1]
  unfold inRv
  congr 1
  by_cases h : ((c % 12 : Nat) : Int) < aL ρ ∧ ((c / 12 : Nat) : Int) < aW ρ
  · rw [if_pos (by omega), if_pos (by simpa using h)]
  · rw [if_neg (by omega), if_neg (by simpa using h)]
theorem M_isCellc {F lv c : Nat} {I J : MI} {ρ : RIV} (hρ : RivOK ρ) (hr : RivM I lv ρ) (hl : I 296 18 = (lv : Int)) (hc : c < 96) : f_M_isCell F (rem32 (c : Int) 12) (div32 (c : Int) 12) I J = some (if inRv ρ c = true then 1 else 0) := by
  rw [rem32_eq (by omega) (by omega) (by omega) (by omega), div32_eq (by omega) (by omega) (by omega) (by omega), M_isCell hρ hr hl]
  unfold inRv
  congr 1
  by_cases h : ((c % 12 : Nat) : Int) < aL ρ ∧ ((c / 12 : Nat) : Int) < aW ρ
  · rw [if_pos (by omega), if_pos (by simpa using h)]
  · rw [if_neg (by omega), if_neg (by simpa using h)]
theorem steps_eq {F b rv : Nat} (hF : 1000000 ≤ F) {I : MI} {ρ : RIV} {s : BSt} (hr : RivX I rv ρ) {dm : Int} (hb : BedX I b dm s) : f_B_countSteps F b rv I = some (cnt (isSt ρ s.2) 96) := by
  unfold f_B_countSteps
  rw [iter_eq (e := cnt (isSt ρ s.2) 96) (fun q => ∃ c : Nat, c ≤ 96 ∧ q.2 = (c : Int) ∧ q.1 = cnt (isSt ρ s.2) c) (fun q => 96 - q.2.toNat) ?_ (by dsimp only; omega) ⟨0, by omega, rfl, rfl⟩]
  · rfl
  rintro ⟨x, i⟩ ⟨c, h1, h2, h3⟩
  dsimp only at h2 h3 ⊢
  subst h2
  unfold f_B_countSteps_L4
  refine wpo_i (fun hc => wpo_s ?_) (fun hc => ?_)
  · have : c = 96 := by omega
    subst this
    exact h3
  have nn := cnt_nn (isSt ρ s.2) c
  rw [has_c hr (by omega), Option.bind_some, isStep_eq hr (hb.1 c (by omega)) (by omega), w32i (x := (c : Int) + 1) (by omega) (by omega), w32i (x := x + 1) (by omega) (by omega)]
  by_cases g : inRv ρ c = true
  · rw [if_pos g]
    refine wpo_n (by decide) ?_
    rw [Option.bind_some]
    by_cases g2 : s.2 c < dep ρ c
    · rw [if_pos g2]
      refine wpo_g rfl (wpo_s ⟨⟨c + 1, by omega, by dsimp only; omega, ?_⟩, by dsimp only; omega⟩)
      dsimp only
      rw [cnt_s, ← h3, if_neg (by unfold isSt; simp [g]; omega)]; omega
    · rw [if_neg g2]
      refine wpo_n (by decide) (wpo_s ⟨⟨c + 1, by omega, by dsimp only; omega, ?_⟩, by dsimp only; omega⟩)
      dsimp only
      rw [cnt_s, ← h3, if_pos (by unfold isSt; simp [g]; omega)]
  · rw [if_neg g]
    refine wpo_g rfl (wpo_s ⟨⟨c + 1, by omega, by dsimp only; omega, ?_⟩, by dsimp only; omega⟩)
    dsimp only
    rw [cnt_s, ← h3, if_neg (by unfold isSt; simp [g])]; omega
theorem M_steps {F lv : Nat} (hF : 1000000 ≤ F) {I J : MI} {ρ : RIV} {s : BSt} (hρ : RivOK ρ) (hr : RivM I lv ρ) (hl : I 296 18 = (lv : Int)) (hs : MSt I s) : iter (fun q : Int × Int => f_M_count_L189 F q.1 q.2 I J) F (0, 0) = some (cnt (isSt ρ s.2) 96) := by
  refine iter_eq (fun q => ∃ c : Nat, c ≤ 96 ∧ q.2 = (c : Int) ∧ q.1 = cnt (isSt ρ s.2) c) (fun q => 96 - q.2.toNat) ?_ (by dsimp only; omega) ⟨0, by omega, rfl, rfl⟩
  rintro ⟨x, i⟩ ⟨c, h1, h2, h3⟩
  dsimp only at h2 h3 ⊢
  subst h2
  unfold f_M_count_L189
  refine wpo_i (fun hc => wpo_s ?_) (fun hc => ?_)
  · have : c = 96 := by omega
    subst this
    exact h3
  have nn := cnt_nn (isSt ρ s.2) c
  rw [M_isCellc hρ hr hl (by omega), Option.bind_some, M_isStep hr hl (hs.2 c (by omega)) (by omega), w32i (x := (c : Int) + 1) (by omega) (by omega), w32i (x := x + 1) (by omega) (by omega)]
  by_cases g : inRv ρ c = true
  · rw [if_pos g]
    refine wpo_n (by decide) ?_
    rw [Option.bind_some]
    by_cases g2 : s.2 c < dep ρ c
    · rw [if_pos g2]
      refine wpo_g rfl (wpo_s ⟨⟨c + 1, by omega, by dsimp only; omega, ?_⟩, by dsimp only; omega⟩)
      dsimp only
      rw [cnt_s, ← h3, if_neg (by unfold isSt; simp [g]; omega)]; omega
    · rw [if_neg g2]
      refine wpo_n (by decide) (wpo_s ⟨⟨c + 1, by omega, by dsimp only; omega, ?_⟩, by dsimp only; omega⟩)
      dsimp only
      rw [cnt_s, ← h3, if_pos (by unfold isSt; simp [g]; omega)]
  · rw [if_neg g]
    refine wpo_g rfl (wpo_s ⟨⟨c + 1, by omega, by dsimp only; omega, ?_⟩, by dsimp only; omega⟩)
    dsimp only
    rw [cnt_s, ← h3, if_neg (by unfold isSt; simp [g])]; omega
def hldC (I : MI) : Int := (if I 352 0 = 0 then 0 else 1) + (if I 352 1 = 0 then 0 else 1) + (if I 352 2 = 0 then 0 else 1)
theorem X_held {F : Nat} (hF : 1000000 ≤ F) {I : MI} (h0 : I 241 0 = I 352 0) (h1 : I 241 1 = I 352 1) (h2 : I 241 2 = I 352 2) : f_X_countHeld F I = some (hldC I) := by
  unfold f_X_countHeld
  obtain ⟨G, rfl⟩ : ∃ G, F = G + 4 := ⟨F - 4, by omega⟩
  have st : ∀ (x : Int) (i : Nat) (v : Int), i < 3 → I 241 i = v → -10 ≤ x ∧ x ≤ 10 → f_X_countHeld_L4 (G + 4) x (i : Int) I = some (.inr (x + (if v = 0 then 0 else 1), (i : Int) + 1)) := by
    intro x i v hi hv hx
    unfold f_X_countHeld_L4
    rw [if_neg (by omega), if_pos (by omega), Int.toNat_natCast, hv, w32i (x := (i : Int) + 1) (by omega) (by omega)]
    by_cases g : v = 0
    · rw [if_pos g, if_pos g, Int.add_zero]
    · rw [if_neg g, if_neg g, w32i (by omega) (by omega)]
  have e0 : ∀ v : Int, -1 ≤ (if v = 0 then (0 : Int) else 1) ∧ (if v = 0 then (0 : Int) else 1) ≤ 1 := by intro v; split <;> omega
  have q0 := e0 (I 352 0)
  have q1 := e0 (I 352 1)
  rw [iter_s (s' := (0 + (if I 352 0 = 0 then 0 else 1), 1)) (st 0 0 _ (by omega) h0 (by omega)), iter_s (s' := (0 + (if I 352 0 = 0 then 0 else 1) + (if I 352 1 = 0 then 0 else 1), 2)) (st _ 1 _ (by omega) h1 (by omega)), iter_s (s' := (0 + (if I 352 0 = 0 then 0 else 1) + (if I 352 1 = 0 then 0 else 1) + (if I 352 2 = 0 then 0 else 1), 3)) (st _ 2 _ (by omega) h2 (by omega)), iter_e (e := 0 + (if I 352 0 = 0 then 0 else 1) + (if I 352 1 = 0 then 0 else 1) + (if I 352 2 = 0 then 0 else 1)) (by dsimp only; unfold f_X_countHeld_L4; rw [if_pos (by omega)])]
  unfold hldC
  rw [Option.bind_some, Int.zero_add]
theorem ag_count (j : Nat) (hj : j < 512) : ag_25 (InvQ j) (InvQ (j + 1)) := by
  intro I J rv sp x1 hrr hss hI _
  have hF := FU_big
  have hI0 := hI
  obtain ⟨ρ, s, lv, hp, hρ, hx, hm, hl, hb, hn, hd, ht, hpl, hpa, hs, htl, hk⟩ := hI
  have hlv2 := hm.1
  obtain ⟨N, c1, c2, c3⟩ := M_copyq (F := FU) (I := I) (J := J) hF hb.1 hn
  have hmN : RivM N lv ρ := rivm_congr hm (fun a b1 b2 => c3 a (by omega) (by omega))
  have g296 : N 296 = I 296 := c3 296 (by decide) (by decide)
  have hlN : N 296 18 = (lv : Int) := by rw [g296]; exact hl
  obtain ⟨n, n1, n2, n3, n4⟩ := ht
  obtain ⟨u, nx, hu, hnx, p1, p2, p3, p4⟩ := hpa
  obtain ⟨td, q1, q2, q3, q4⟩ := htl
  have hloop : iter (fun q : Int × Int × Int => f_M_count_L11 FU x1 q.1 q.2.1 q.2.2 N J) FU (0, 0, 0) = some (cnt (fun k => decide (0 ≤ s.1 k)) 72, cnt (fun k => decide (s.1 k = -2)) 72) := by
    refine iter_eq (fun q => ∃ i : Nat, i ≤ 72 ∧ q.2.2 = (i : Int) ∧ q.1 = cnt (fun k => decide (0 ≤ s.1 k)) i ∧ q.2.1 = cnt (fun k => decide (s.1 k = -2)) i) (fun q => 72 - q.2.2.toNat) ?_ (by dsimp only; omega) ⟨0, by omega, rfl, rfl, rfl⟩
    rintro ⟨a, b, c⟩ ⟨i, h1, h2, h3, h4⟩
    dsimp only at h2 h3 h4 ⊢
    subst h2
    unfold f_M_count_L11
    refine wpo_i (fun hc => wpo_s ?_) (fun hc => ?_)
    · have : i = 72 := by omega
      subst this
      show (a, b) = _
      rw [h3, h4]
    have hi9 : i < 72 := by omega
    have nA := cnt_nn (fun k => decide (0 ≤ s.1 k)) i
    have nB := cnt_nn (fun k => decide (s.1 k = -2)) i
    refine wpo_g (by omega) ?_
    unfold f_M_count_b31in11
    rw [Int.toNat_natCast, c2.1 i (by omega), w32i (x := a + 1) (by omega) (by omega), w32i (x := b + 1) (by omega) (by omega), w32i (x := (i : Int) + 1) (by omega) (by omega)]
    rcases hb.1.1 i (by omega) with h | h | h
    · rw [if_pos (by omega), if_pos (by omega), if_pos (by omega)]
      refine wpo_s ⟨⟨i + 1, by omega, by dsimp only; omega, ?_, ?_⟩, by dsimp only; omega⟩ <;> dsimp only
      · rw [cnt_s, ← h3, if_neg (by simp; omega)]; omega
      · rw [cnt_s, ← h4, if_neg (by simp; omega)]; omega
    · rw [if_pos (by omega), if_pos (by omega), if_neg (by omega)]
      refine wpo_s ⟨⟨i + 1, by omega, by dsimp only; omega, ?_, ?_⟩, by dsimp only; omega⟩ <;> dsimp only
      · rw [cnt_s, ← h3, if_neg (by simp; omega)]; omega
      · rw [cnt_s, ← h4, if_pos (by simp; omega)]
    · rw [if_neg (by omega), if_pos (by omega), if_pos (by omega)]
      refine wpo_s ⟨⟨i + 1, by omega, by dsimp only; omega, ?_, ?_⟩, by dsimp only; omega⟩ <;> dsimp only
      · rw [cnt_s, ← h3, if_pos (by simp; omega)]
      · rw [cnt_s, ← h4, if_neg (by simp; omega)]; omega
  have fin : ∀ r, f_X_count FU x1 rv I = some r → f_M_count FU x1 I J = some (r, N) → ∃ rx rm, f_X_count FU x1 rv I = some rx ∧ f_M_count FU x1 I J = some rm ∧ rx = rm.1 ∧ InvQ (j + 1) rm.2 J rv sp ∧ isRiv rv ∧ isRiv sp := fun r e1 e2 => ag_mk2 (V := fun M => InvQ (j + 1) M J rv sp) e1 e2 (invq_keep hI0 frX_refl (fr32_Q c3)) hrr hss
  have em : f_M_count FU x1 I J = (if x1 = 0 then some (aL ρ, N) else if x1 = 1 then some (aW ρ, N) else if x1 = 2 then some (aJ ρ, N) else if x1 = 3 then some (aN ρ, N) else if x1 = 4 then some (aF ρ, N) else if x1 = 5 then some (s.1 240, N) else if x1 = 6 then some (cnt (fun k => decide (0 ≤ s.1 k)) 72, N) else if x1 = 7 then some (cnt (fun k => decide (s.1 k = -2)) 72, N) else if x1 = 8 then some (cnt (isSt ρ s.2) 96, N) else if x1 = 9 then some ((n : Int), N) else if x1 = 10 then some ((u : Int), N) else if x1 = 11 then some ((td : Int), N) else if x1 = 12 then some (hldC I, N) else some (-1, N)) := by
    have e12 : (if (N 352 0) = 0 then (f_M_count_b263 FU 0 N J) else (f_M_count_b263 FU 1 N J)) = some (hldC I, N) := by
      unfold f_M_count_b263 f_M_count_b277 hldC
      rw [c3 352 (by decide) (by decide)]
      by_cases g0 : I 352 0 = 0 <;> by_cases g1 : I 352 1 = 0 <;> by_cases g2 : I 352 2 = 0 <;> simp only [g0, g1, g2, if_true, if_false] <;> rfl
    unfold f_M_count
    rw [c1, Option.bind_some, hloop, Option.bind_some, M_steps hF hρ hmN hlN c2, e12, c2.1 240 (by omega), g296, hl, n3, p3, q3, if_pos (show (0 : Int) ≤ (lv : Int) ∧ (lv : Int) < 2 by omega), if_pos (show (0 : Int) ≤ (lv : Int) ∧ (lv : Int) < 2 by omega), if_pos (show (0 : Int) ≤ (lv : Int) ∧ (lv : Int) < 2 by omega), if_pos (show (0 : Int) ≤ (lv : Int) ∧ (lv : Int) < 2 by omega), if_pos (show (0 : Int) ≤ (lv : Int) ∧ (lv : Int) < 2 by omega), Int.toNat_natCast, hmN.2.1, hmN.2.2.1, hmN.2.2.2.1, hmN.2.2.2.2.1, hmN.2.2.2.2.2.1]
    rfl
  have ex : f_X_count FU x1 rv I = (if x1 = 0 then some (aL ρ) else if x1 = 1 then some (aW ρ) else if x1 = 2 then some (aJ ρ) else if x1 = 3 then some (aN ρ) else if x1 = 4 then some (aF ρ) else if x1 = 5 then some (s.1 240) else if x1 = 6 then some (cnt (fun k => decide (0 ≤ s.1 k)) 72) else if x1 = 7 then some (cnt (fun k => decide (s.1 k = -2)) 72) else if x1 = 8 then some (cnt (isSt ρ s.2) 96) else if x1 = 9 then some (n : Int) else if x1 = 10 then some (u : Int) else if x1 = 11 then some (td : Int) else if x1 = 12 then some (hldC I) else some (-1)) := by
    unfold f_X_count
    rw [lying_eq hF hb.1 hb.2.1, lost_eq hF hb.2.1, steps_eq hF hx hb.2.1, X_held hF (hs 0 (by omega)).1 (hs 1 (by omega)).1 (hs 2 (by omega)).1, hx.1, hx.2.1, hx.2.2.1, hx.2.2.2.1, hx.2.2.2.2.1, hb.2.2, n2, p2, q2]
    rfl
  by_cases g0 : x1 = 0
  · rw [if_pos g0] at ex em
    exact fin _ ex em
  rw [if_neg g0] at ex em
  by_cases g1 : x1 = 1
  · rw [if_pos g1] at ex em
    exact fin _ ex em
  rw [if_neg g1] at ex em
  by_cases g2 : x1 = 2
  · rw [if_pos g2] at ex em
    exact fin _ ex em
  rw [if_neg g2] at ex em
  by_cases g3 : x1 = 3
  · rw [if_pos g3] at ex em
    exact fin _ ex em
  rw [if_neg g3] at ex em
  by_cases g4 : x1 = 4
  · rw [if_pos g4] at ex em
    exact fin _ ex em
  rw [if_neg g4] at ex em
  by_cases g5 : x1 = 5
  · rw [if_pos g5] at ex em
    exact fin _ ex em
  rw [if_neg g5] at ex em
  by_cases g6 : x1 = 6
  · rw [if_pos g6] at ex em
    exact fin _ ex em
  rw [if_neg g6] at ex em
  by_cases g7 : x1 = 7
  · rw [if_pos g7] at ex em
    exact fin _ ex em
  rw [if_neg g7] at ex em
  by_cases g8 : x1 = 8
  · rw [if_pos g8] at ex em
    exact fin _ ex em
  rw [if_neg g8] at ex em
  by_cases g9 : x1 = 9
  · rw [if_pos g9] at ex em
    exact fin _ ex em
  rw [if_neg g9] at ex em
  by_cases g10 : x1 = 10
  · rw [if_pos g10] at ex em
    exact fin _ ex em
  rw [if_neg g10] at ex em
  by_cases g11 : x1 = 11
  · rw [if_pos g11] at ex em
    exact fin _ ex em
  rw [if_neg g11] at ex em
  by_cases g12 : x1 = 12
  · rw [if_pos g12] at ex em
    exact fin _ ex em
  rw [if_neg g12] at ex em
  exact fin _ ex em
