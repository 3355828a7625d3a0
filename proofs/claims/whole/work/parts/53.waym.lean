/-! the model's ways -/
theorem FU_huge : 1000000000000000 ≤ FU := by decide +kernel
theorem M_leaps {F lv k to : Nat} {I J : MI} {ρ : RIV} (hρ : RivOK ρ) (hr : RivM I lv ρ) (hl : I 296 18 = (lv : Int)) (hk : k ≤ 96) (ht : to < 96) : f_M_leaps F (k : Int) (to : Int) I J = some (if I 335 to ≠ 0 ∧ lpB ρ k to = true then 1 else 0) := by
  have hlv := hr.1
  have hJ := hρ.2.2.1
  have last : ∀ a b : Int, 0 ≤ a ∧ a ≤ 20 → 0 ≤ b ∧ b ≤ 20 → f_M_leaps_b80 F a b I J = some (if a + b ≤ aJ ρ then 1 else 0) := by
    intro a b ha hb
    unfold f_M_leaps_b80
    rw [hl, if_pos (by omega), Int.toNat_natCast, hr.2.2.2.1, w32i (by omega) (by omega)]
    by_cases g : aJ ρ < a + b
    · rw [if_pos g, if_neg (by omega)]
    · rw [if_neg g, if_pos (by omega)]
  have mid : ∀ dy dx : Int, -20 ≤ dy ∧ dy ≤ 20 → -20 ≤ dx ∧ dx ≤ 20 → f_M_leaps_b55 F dy dx I J = some (if (if 0 ≤ dx then dx else -dx) + (if 0 ≤ dy then dy else -dy) ≤ aJ ρ then 1 else 0) := by
    intro dy dx h1 h2
    unfold f_M_leaps_b55 f_M_leaps_b70
    rw [w32i (x := -dx) (by omega) (by omega), w32i (x := -dy) (by omega) (by omega)]
    by_cases g1 : 0 ≤ dx <;> by_cases g2 : 0 ≤ dy <;> simp only [g1, g2, if_true, if_false]
    · exact last _ _ (by omega) (by omega)
    · exact last _ _ (by omega) (by omega)
    · exact last _ _ (by omega) (by omega)
    · exact last _ _ (by omega) (by omega)
  unfold f_M_leaps
  by_cases e : k = to
  · rw [if_pos (by omega), if_neg]
    rintro ⟨_, h⟩
    unfold lpB at h
    rw [if_neg (by omega), decide_eq_true_eq] at h
    exact h.1 e
  rw [if_neg (by omega), if_pos (by omega), Int.toNat_natCast]
  by_cases hm : I 335 to = 0
  · rw [if_neg (by omega), if_neg (by omega)]
  rw [if_pos hm]
  unfold f_M_leaps_b34
  simp only [div32_eq (x := (to : Int)) (y := 12) (by omega) (by omega) (by omega) (by omega), rem32_eq (x := (to : Int)) (y := 12) (by omega) (by omega) (by omega) (by omega), div32_eq (x := (k : Int)) (y := 12) (by omega) (by omega) (by omega) (by omega), rem32_eq (x := (k : Int)) (y := 12) (by omega) (by omega) (by omega) (by omega)]
  by_cases h96 : k = 96
  · rw [if_neg (by omega), if_neg (by omega), w32i (by omega) (by omega), mid _ _ (by omega) (by omega)]
    congr 1
    unfold lpB
    rw [if_pos h96]
    by_cases g : ((to / 12 : Nat) : Int) + 1 ≤ aJ ρ
    · rw [if_pos (by rw [if_pos (by omega), if_pos (by omega)]; omega), if_pos ⟨hm, by simpa using g⟩]
    · rw [if_neg (by rw [if_pos (by omega), if_pos (by omega)]; omega), if_neg (by intro h; exact g (by simpa using h.2))]
  · rw [if_pos (by omega), if_pos (by omega), w32i (x := (to : Int) / 12 - (k : Int) / 12) (by omega) (by omega), w32i (by omega) (by omega), mid _ _ (by omega) (by omega)]
    congr 1
    have ed : (if 0 ≤ (to : Int) % 12 - (k : Int) % 12 then (to : Int) % 12 - (k : Int) % 12 else -((to : Int) % 12 - (k : Int) % 12)) + (if 0 ≤ (to : Int) / 12 - (k : Int) / 12 then (to : Int) / 12 - (k : Int) / 12 else -((to : Int) / 12 - (k : Int) / 12)) = dst k to := by
      unfold dst adx
      split <;> split <;> split <;> split <;> omega
    rw [ed]
    unfold lpB
    rw [if_neg h96]
    by_cases g : dst k to ≤ aJ ρ
    · rw [if_pos g, if_pos ⟨hm, by simp [e, g]⟩]
    · rw [if_neg g, if_neg (by intro h; simp at h; exact g h.2.2)]
theorem M_ends {F lv k : Nat} {I J : MI} {ρ : RIV} (hρ : RivOK ρ) (hr : RivM I lv ρ) (hl : I 296 18 = (lv : Int)) (hk : k ≤ 96) : f_M_ends F (k : Int) I J = some (if enB ρ k = true then 1 else 0) := by
  have hlv := hr.1
  have hW := hρ.2.1
  have last : ∀ y : Int, -1 ≤ y ∧ y ≤ 8 → f_M_ends_b14 F y I J = some (if aW ρ - y ≤ aJ ρ then 1 else 0) := by
    intro y hy
    unfold f_M_ends_b14
    rw [hl, if_pos (by omega), Int.toNat_natCast, hr.2.2.2.1, hr.2.2.1, w32i (by omega) (by omega)]
    by_cases g : aJ ρ < aW ρ - y
    · rw [if_pos g, if_neg (by omega)]
    · rw [if_neg g, if_pos (by omega)]
  unfold f_M_ends enB
  by_cases h96 : k = 96
  · rw [if_neg (by omega), last _ (by omega), if_pos h96]
    congr 1
    by_cases g : aW ρ + 1 ≤ aJ ρ
    · rw [if_pos (by omega), if_pos (by simpa using g)]
    · rw [if_neg (by omega), if_neg (by simpa using g)]
  · rw [if_pos (by omega), div32_eq (by omega) (by omega) (by omega) (by omega), last _ (by omega), if_neg h96]
    congr 1
    by_cases g : aW ρ - ((k / 12 : Nat) : Int) ≤ aJ ρ
    · rw [if_pos (by omega), if_pos (by simpa using g)]
    · rw [if_neg (by omega), if_neg (by simpa using g)]
def sumN (f : Nat → Int) : Nat → Int
  | 0 => 0
  | n + 1 => sumN f n + f n
theorem sumN_congr {f g : Nat → Int} {n : Nat} (h : ∀ k, k < n → f k = g k) : sumN f n = sumN g n := by
  induction n with
  | zero => rfl
  | succ n ih => show sumN f n + f n = sumN g n + g n; rw [ih (fun k hk => h k (by omega)), h n (by omega)]
theorem sumN_upd {f g : Nat → Int} {n k : Nat} (hk : k < n) (h : ∀ j, j < n → j ≠ k → g j = f j) : sumN g n = sumN f n + (g k - f k) := by
  induction n with
  | zero => omega
  | succ n ih =>
    show sumN g n + g n = sumN f n + f n + (g k - f k)
    by_cases e : k = n
    · subst e
      rw [sumN_congr (f := g) (g := f) (fun j hj => h j (by omega) (by omega))]; omega
    · rw [ih (by omega) (fun j hj hne => h j (by omega) hne), h n (by omega) (Ne.symm e)]; omega
theorem sumN_bd {f : Nat → Int} {n : Nat} {b : Int} (h : ∀ k, k < n → 0 ≤ f k ∧ f k ≤ b) : 0 ≤ sumN f n ∧ sumN f n ≤ b * n := by
  induction n with
  | zero => simp [sumN]
  | succ n ih =>
    have h1 := ih (fun k hk => h k (by omega))
    have h2 := h n (by omega)
    show 0 ≤ sumN f n + f n ∧ sumN f n + f n ≤ b * ((n + 1 : Nat) : Int)
    rw [Int.natCast_add, Int.mul_add]
    simp only [Int.natCast_one, Int.mul_one]
    omega
/-- the model's costs, on the way -/
def WIv (ρ : RIV) (w : Nat → Int) (e : Int) (c D : Nat → Int) : Prop :=
  (∀ k, k ≤ 96 → 0 < D k ∧ D k ≤ 2000000000 ∧ (¬ gok w k → D k = 2000000000)) ∧
  (∀ k, gok w k → D k = 2000000000 ∨ (enB ρ k = true ∧ D k = e) ∨ ∃ to, to < 96 ∧ 0 ≤ w to ∧ lpB ρ k to = true ∧ D to < 2000000000 ∧ D to + e + c to ≤ D k) ∧
  (∀ k, k ≤ 96 → D k < 2000000000 → D k ≤ 10100000 * cnt (fun j => decide (D j < 2000000000)) 97)
def WB (ρ : RIV) (w : Nat → Int) (e : Int) (c D : Nat → Int) (k : Nat) : Prop := (enB ρ k = true → D k ≤ e) ∧ ∀ to, to < 96 → 0 ≤ w to → lpB ρ k to = true → D to < 2000000000 → D k ≤ D to + e + c to
theorem wiv_sol {ρ : RIV} {w : Nat → Int} {e : Int} {c D : Nat → Int} (h : WIv ρ w e c D) (hb : ∀ k, gok w k → WB ρ w e c D k) : Sol ρ w e c 2000000000 D := by
  intro k hk
  have hk9 : k ≤ 96 := by rcases hk with h | h <;> omega
  obtain ⟨a1, a2, a3⟩ := h.1 k hk9
  obtain ⟨b1, b2⟩ := hb k hk
  refine ⟨a1, a2, b1, b2, ?_⟩
  rcases h.2.1 k hk with r | r | ⟨to, t1, t2, t3, t4, t5⟩
  · exact Or.inl r
  · exact Or.inr (Or.inl r)
  · exact Or.inr (Or.inr ⟨to, t1, t2, t3, t4, by have := b2 to t1 t2 t3 t4; omega⟩)
theorem wiv_step {ρ : RIV} {w : Nat → Int} {e : Int} {c D D' : Nat → Int} {k : Nat} {v : Int} (h : WIv ρ w e c D) (he : 1 ≤ e ∧ e ≤ 100000) (hc : ∀ j, j < 96 → 0 ≤ w j → 0 ≤ c j ∧ c j ≤ 10000000) (hk : gok w k) (hD : ∀ j, j ≤ 96 → D' j = if j = k then v else D j) (hv0 : 0 < v) (hv : v < D k) (hs : (enB ρ k = true ∧ v = e) ∨ ∃ to, to < 96 ∧ 0 ≤ w to ∧ lpB ρ k to = true ∧ D to < 2000000000 ∧ v = D to + e + c to) : WIv ρ w e c D' := by
  have hk9 : k ≤ 96 := by rcases hk with h | h <;> omega
  obtain ⟨a, b, d⟩ := h
  have hak := a k hk9
  have hle : ∀ j, j ≤ 96 → D' j ≤ D j := fun j hj => by
    rw [hD j hj]
    by_cases q : j = k
    · rw [if_pos q, q]; omega
    · rw [if_neg q]; exact Int.le_refl _
  refine ⟨fun j hj => ?_, fun j hj => ?_, fun j hj hlt => ?_⟩
  · obtain ⟨a1, a2, a3⟩ := a j hj
    rw [hD j hj]
    by_cases q : j = k
    · rw [if_pos q]
      exact ⟨hv0, by omega, fun hn => absurd hk (by rw [← q]; exact hn)⟩
    · rw [if_neg q]; exact ⟨a1, a2, a3⟩
  · have hj9 : j ≤ 96 := by rcases hj with h | h <;> omega
    rw [hD j hj9]
    by_cases q : j = k
    · rw [if_pos q, q]
      rcases hs with r | ⟨to, t1, t2, t3, t4, t5⟩
      · exact Or.inr (Or.inl r)
      · have := hle to (by omega)
        exact Or.inr (Or.inr ⟨to, t1, t2, t3, by omega, by omega⟩)
    · rw [if_neg q]
      rcases b j hj with r | r | ⟨to, t1, t2, t3, t4, t5⟩
      · exact Or.inl r
      · exact Or.inr (Or.inl r)
      · have := hle to (by omega)
        exact Or.inr (Or.inr ⟨to, t1, t2, t3, by omega, by omega⟩)
  · have nn := cnt_nn (fun j => decide (D j < 2000000000)) 97
    have nn' := cnt_nn (fun j => decide (D' j < 2000000000)) 97
    by_cases g : D k < 2000000000
    · have ec : cnt (fun j => decide (D' j < 2000000000)) 97 = cnt (fun j => decide (D j < 2000000000)) 97 := cnt_congr (fun j hj => by
        apply decide_eq_decide.mpr
        rw [hD j (by omega)]
        by_cases q : j = k
        · rw [if_pos q, q]; omega
        · rw [if_neg q])
      rw [ec]
      have hdk := d k hk9 g
      rw [hD j hj] at hlt ⊢
      by_cases q : j = k
      · rw [if_pos q]; omega
      · rw [if_neg q] at hlt ⊢; exact d j hj hlt
    · have ec : cnt (fun j => decide (D' j < 2000000000)) 97 = cnt (fun j => decide (D j < 2000000000)) 97 + 1 := cnt_add (k := k) (by omega) (by simp; omega) (by rw [decide_eq_true_eq, hD k hk9, if_pos rfl]; omega) (fun j hj hne => by
        apply decide_eq_decide.mpr
        rw [hD j (by omega), if_neg hne])
      rw [ec]
      rw [hD j hj] at hlt ⊢
      by_cases q : j = k
      · rw [if_pos q]
        rcases hs with ⟨_, r⟩ | ⟨to, t1, t2, t3, t4, t5⟩
        · omega
        · have := d to (by omega) t4
          have := hc to t1 t2
          omega
      · rw [if_neg q] at hlt ⊢
        have := d j hj hlt
        omega
theorem M_inner {F lv k : Nat} (hF : 1000000 ≤ F) {e x2 v0 : Int} {I J : MI} {ρ : RIV} {w c : Nat → Int} (hρ : RivOK ρ) (hr : RivM I lv ρ) (hl : I 296 18 = (lv : Int)) (hmay : ∀ j, j < 96 → (I 335 j ≠ 0 ↔ 0 ≤ w j)) (hcost : ∀ j, j < 96 → 0 ≤ w j → I 336 j = c j) (he : 1 ≤ e ∧ e ≤ 100000) (hc : ∀ j, j < 96 → 0 ≤ w j → 0 ≤ c j ∧ c j ≤ 10000000) (hD : ∀ j, j ≤ 96 → 0 < I 337 j ∧ (I 337 j < 2000000000 → I 337 j ≤ 1000000000)) (hk : k ≤ 96) (hv : 0 < v0 ∧ v0 ≤ 2000000000) : ∃ v, iter (fun q : Int × Int => f_M_fillsWays_L76 F e x2 (k : Int) q.1 q.2 I J) F (v0, 0) = some v ∧ 0 < v ∧ v ≤ v0 ∧ (∀ to, to < 96 → 0 ≤ w to → lpB ρ k to = true → I 337 to < 2000000000 → v ≤ I 337 to + e + c to) ∧ (v = v0 ∨ ∃ to, to < 96 ∧ 0 ≤ w to ∧ lpB ρ k to = true ∧ I 337 to < 2000000000 ∧ v = I 337 to + e + c to) := by
  refine wpo_iter (Q := fun v => 0 < v ∧ v ≤ v0 ∧ (∀ to, to < 96 → 0 ≤ w to → lpB ρ k to = true → I 337 to < 2000000000 → v ≤ I 337 to + e + c to) ∧ (v = v0 ∨ ∃ to, to < 96 ∧ 0 ≤ w to ∧ lpB ρ k to = true ∧ I 337 to < 2000000000 ∧ v = I 337 to + e + c to)) (fun q => ∃ i : Nat, i ≤ 96 ∧ q.2 = (i : Int) ∧ 0 < q.1 ∧ q.1 ≤ v0 ∧ (∀ to, to < i → 0 ≤ w to → lpB ρ k to = true → I 337 to < 2000000000 → q.1 ≤ I 337 to + e + c to) ∧ (q.1 = v0 ∨ ∃ to, to < i ∧ 0 ≤ w to ∧ lpB ρ k to = true ∧ I 337 to < 2000000000 ∧ q.1 = I 337 to + e + c to)) (fun q => 96 - q.2.toNat) ?_ (by dsimp only; omega) ⟨0, by omega, rfl, hv.1, Int.le_refl _, fun to ht => absurd ht (by omega), Or.inl rfl⟩
  rintro ⟨v, x⟩ ⟨i, h1, h2, h3, h4, h5, h6⟩
  dsimp only at h2 h3 h4 h5 h6 ⊢
  subst h2
  unfold f_M_fillsWays_L76
  refine wpo_i (fun hc => wpo_s ?_) (fun hc' => ?_)
  · have : i = 96 := by omega
    subst this
    exact ⟨h3, h4, h5, h6⟩
  have hi : i < 96 := by omega
  have hDi := hD i (by omega)
  have ew : w32 ((i : Int) + 1) = (i : Int) + 1 := w32i (by omega) (by omega)
  refine wpo_g (by omega) ?_
  rw [Int.toNat_natCast, ew]
  have keep : (0 ≤ w i → lpB ρ k i = true → I 337 i < 2000000000 → v ≤ I 337 i + e + c i) → ((∃ i' : Nat, i' ≤ 96 ∧ (i : Int) + 1 = (i' : Int) ∧ 0 < v ∧ v ≤ v0 ∧ (∀ to, to < i' → 0 ≤ w to → lpB ρ k to = true → I 337 to < 2000000000 → v ≤ I 337 to + e + c to) ∧ (v = v0 ∨ ∃ to, to < i' ∧ 0 ≤ w to ∧ lpB ρ k to = true ∧ I 337 to < 2000000000 ∧ v = I 337 to + e + c to)) ∧ 96 - ((i : Int) + 1).toNat < 96 - ((i : Int)).toNat) := by
    intro hno
    refine ⟨⟨i + 1, by omega, by omega, h3, h4, fun to ht => ?_, ?_⟩, by omega⟩
    · by_cases q : to = i
      · rw [q]; exact hno
      · exact h5 to (by omega)
    · rcases h6 with q | ⟨to, t1, t2, t3, t4, t5⟩
      · exact Or.inl q
      · exact Or.inr ⟨to, by omega, t2, t3, t4, t5⟩
  refine wpo_i (fun hc2 => wpo_s (keep (fun _ _ h => absurd h (Int.not_lt.mpr hc2)))) (fun hc2 => ?_)
  rw [M_leaps hρ hr hl hk hi, Option.bind_some]
  by_cases g : I 335 i ≠ 0 ∧ lpB ρ k i = true
  · rw [if_pos g]
    have hwi := (hmay i hi).mp g.1
    have hci := hc i hi hwi
    refine wpo_n (by decide) (wpo_g (by clear keep; omega) ?_)
    have e1 : w32 (w32 (I 337 i + e) + I 336 i) = I 337 i + e + c i := by
      clear keep
      rw [hcost i hi hwi, w32i (x := I 337 i + e) (by omega) (by omega), w32i (by omega) (by omega)]
    rw [e1]
    refine wpo_i (fun hc3 => wpo_s (keep (fun _ _ _ => hc3))) (fun hc3 => wpo_s ?_)
    clear keep
    refine ⟨⟨i + 1, by omega, rfl, by dsimp only; omega, by dsimp only; omega, fun to ht h7 h8 h9 => ?_, ?_⟩, by dsimp only; omega⟩ <;> dsimp only
    · by_cases q : to = i
      · rw [q]; exact Int.le_refl _
      · have := h5 to (by omega) h7 h8 h9; omega
    · exact Or.inr ⟨i, by omega, hwi, g.2, by omega, rfl⟩
  · rw [if_neg g]
    refine wpo_g rfl (wpo_s (keep (fun h7 h8 _ => ?_)))
    exact absurd ⟨(hmay i hi).mpr h7, h8⟩ g
theorem M_sweep {F lv : Nat} (hF : 1000000 ≤ F) {e : Int} {I J : MI} {ρ : RIV} {w c : Nat → Int} (hρ : RivOK ρ) (hr : RivM I lv ρ) (hl : I 296 18 = (lv : Int)) (hmay : ∀ j, j < 96 → (I 335 j ≠ 0 ↔ 0 ≤ w j)) (hcost : ∀ j, j < 96 → 0 ≤ w j → I 336 j = c j) (he : 1 ≤ e ∧ e ≤ 100000) (hc : ∀ j, j < 96 → 0 ≤ w j → 0 ≤ c j ∧ c j ≤ 10000000) (hW : WIv ρ w e c (I 337)) : ∃ (sm : Int) (I' : MI), iter (fun q : Int × Int × MI => f_M_fillsWays_L34 F e q.1 q.2.1 q.2.2 J) F (0, 96, I) = some (sm, I') ∧ (sm = 0 ∨ sm = 1) ∧ WIv ρ w e c (I' 337) ∧ (sm = 0 → ∀ k, gok w k → WB ρ w e c (I' 337) k) ∧ sumN (I' 337) 97 ≤ sumN (I 337) 97 ∧ (sm = 1 → sumN (I' 337) 97 < sumN (I 337) 97) ∧ ∀ r, r ≠ 337 → I' r = I r := by
  have key := wpo_iter (step := fun q : Int × Int × MI => f_M_fillsWays_L34 F e q.1 q.2.1 q.2.2 J) (Q := fun r => (r.1 = 0 ∨ r.1 = 1) ∧ WIv ρ w e c (r.2 337) ∧ (r.1 = 0 → ∀ k, gok w k → WB ρ w e c (r.2 337) k) ∧ sumN (r.2 337) 97 ≤ sumN (I 337) 97 ∧ (r.1 = 1 → sumN (r.2 337) 97 < sumN (I 337) 97) ∧ ∀ a, a ≠ 337 → r.2 a = I a) (fun q => ∃ n : Nat, n ≤ 97 ∧ q.2.1 = (n : Int) - 1 ∧ (q.1 = 0 ∨ q.1 = 1) ∧ WIv ρ w e c (q.2.2 337) ∧ (q.1 = 0 → ∀ k, n ≤ k → gok w k → WB ρ w e c (q.2.2 337) k) ∧ sumN (q.2.2 337) 97 ≤ sumN (I 337) 97 ∧ (q.1 = 1 → sumN (q.2.2 337) 97 < sumN (I 337) 97) ∧ ∀ a, a ≠ 337 → q.2.2 a = I a) (fun q => (q.2.1 + 1).toNat) ?_ (F := F) (s := ((0 : Int), (96 : Int), I)) (by dsimp only; omega) ⟨97, by omega, rfl, Or.inl rfl, hW, fun _ k hk hg => absurd hg (by intro h; rcases h with h | h <;> omega), Int.le_refl _, fun h => absurd h (by simp), fun _ _ => rfl⟩
  · obtain ⟨⟨sm, I'⟩, e1, q⟩ := key
    exact ⟨sm, I', e1, q⟩
  rintro ⟨sm, x, N⟩ ⟨n, h1, h2, h3, h4, h5, h6, h7, h8⟩
  dsimp only at h2 h3 h4 h5 h6 h7 h8 ⊢
  subst h2
  unfold f_M_fillsWays_L34
  match n with
  | 0 =>
    refine wpo_g (by omega) (wpo_s ⟨h3, h4, fun h k hk => h5 h k (by omega) hk, h6, h7, h8⟩)
  | k + 1 =>
    rw [show ((k + 1 : Nat) : Int) - 1 = (k : Int) by omega]
    refine wpo_n (by omega) ?_
    have hrN : RivM N lv ρ := rivm_congr hr (fun a b1 b2 => h8 a (by omega))
    have hlN : N 296 18 = (lv : Int) := by rw [h8 296 (by decide)]; exact hl
    have hmayN : ∀ j, j < 96 → (N 335 j ≠ 0 ↔ 0 ≤ w j) := fun j hj => by rw [h8 335 (by decide)]; exact hmay j hj
    have hcostN : ∀ j, j < 96 → 0 ≤ w j → N 336 j = c j := fun j hj => by rw [h8 336 (by decide)]; exact hcost j hj
    have hDN : ∀ j, j ≤ 96 → 0 < N 337 j ∧ (N 337 j < 2000000000 → N 337 j ≤ 1000000000) := fun j hj => ⟨(h4.1 j hj).1, fun hlt => by
      have := h4.2.2 j hj hlt
      have nn := cnt_nn (fun j => decide (N 337 j < 2000000000)) 97
      omega⟩
    have ew : w32 ((k : Int) + (-1)) = ((k : Nat) : Int) - 1 := by rw [w32i (by omega) (by omega)]; omega
    -- a node that is looked at
    have node : gok w k → wpo (f_M_fillsWays_b56in34 F e sm (k : Int) N J) (fun r => Sum.elim (fun r : Int × MI => (r.1 = 0 ∨ r.1 = 1) ∧ WIv ρ w e c (r.2 337) ∧ (r.1 = 0 → ∀ k, gok w k → WB ρ w e c (r.2 337) k) ∧ sumN (r.2 337) 97 ≤ sumN (I 337) 97 ∧ (r.1 = 1 → sumN (r.2 337) 97 < sumN (I 337) 97) ∧ ∀ a, a ≠ 337 → r.2 a = I a) (fun s' : Int × Int × MI => (∃ n : Nat, n ≤ 97 ∧ s'.2.1 = (n : Int) - 1 ∧ (s'.1 = 0 ∨ s'.1 = 1) ∧ WIv ρ w e c (s'.2.2 337) ∧ (s'.1 = 0 → ∀ k, n ≤ k → gok w k → WB ρ w e c (s'.2.2 337) k) ∧ sumN (s'.2.2 337) 97 ≤ sumN (I 337) 97 ∧ (s'.1 = 1 → sumN (s'.2.2 337) 97 < sumN (I 337) 97) ∧ ∀ a, a ≠ 337 → s'.2.2 a = I a) ∧ (s'.2.1 + 1).toNat < ((k : Int) + 1).toNat) r) := by
      intro hg
      unfold f_M_fillsWays_b56in34
      rw [M_ends hρ hrN hlN (by omega), Option.bind_some]
      have run : ∀ v0 : Int, 0 < v0 ∧ v0 ≤ 2000000000 → (enB ρ k = true → v0 = e) → (enB ρ k ≠ true → v0 = 2000000000) → wpo (f_M_fillsWays_b71in34 F e sm (k : Int) v0 N J) (fun r => Sum.elim (fun r : Int × MI => (r.1 = 0 ∨ r.1 = 1) ∧ WIv ρ w e c (r.2 337) ∧ (r.1 = 0 → ∀ k, gok w k → WB ρ w e c (r.2 337) k) ∧ sumN (r.2 337) 97 ≤ sumN (I 337) 97 ∧ (r.1 = 1 → sumN (r.2 337) 97 < sumN (I 337) 97) ∧ ∀ a, a ≠ 337 → r.2 a = I a) (fun s' : Int × Int × MI => (∃ n : Nat, n ≤ 97 ∧ s'.2.1 = (n : Int) - 1 ∧ (s'.1 = 0 ∨ s'.1 = 1) ∧ WIv ρ w e c (s'.2.2 337) ∧ (s'.1 = 0 → ∀ k, n ≤ k → gok w k → WB ρ w e c (s'.2.2 337) k) ∧ sumN (s'.2.2 337) 97 ≤ sumN (I 337) 97 ∧ (s'.1 = 1 → sumN (s'.2.2 337) 97 < sumN (I 337) 97) ∧ ∀ a, a ≠ 337 → s'.2.2 a = I a) ∧ (s'.2.1 + 1).toNat < ((k : Int) + 1).toNat) r) := by
        intro v0 hv0 hen hnen
        obtain ⟨v, ev, v1, v2, v3, v4⟩ := M_inner (F := F) (J := J) (k := k) (x2 := sm) (v0 := v0) hF hρ hrN hlN hmayN hcostN he hc hDN (by omega) hv0
        unfold f_M_fillsWays_b71in34
        rw [ev, Option.bind_some]
        refine wpo_g (by omega) ?_
        rw [Int.toNat_natCast, ew]
        refine wpo_i (fun hlt => wpo_s ?_) (fun hge => wpo_s ?_)
        · have hsrc : (enB ρ k = true ∧ v = e) ∨ ∃ to, to < 96 ∧ 0 ≤ w to ∧ lpB ρ k to = true ∧ N 337 to < 2000000000 ∧ v = N 337 to + e + c to := by
            rcases v4 with q | q
            · by_cases g : enB ρ k = true
              · exact Or.inl ⟨g, q.trans (hen g)⟩
              · have := hnen g
                have := (h4.1 k (by omega)).2.1
                omega
            · exact Or.inr q
          have hD' : ∀ j, j ≤ 96 → up2 N 337 k v 337 j = if j = k then v else N 337 j := fun j hj => by unfold up2; simp
          have hsum := sumN_upd (f := N 337) (g := up2 N 337 k v 337) (n := 97) (k := k) (by omega) (fun j hj hne => up2_k hne)
          rw [up2_same] at hsum
          refine ⟨⟨k, by omega, rfl, Or.inr rfl, wiv_step h4 he hc hg hD' v1 hlt hsrc, fun h => absurd h (by simp), ?_, fun _ => ?_, fun a ha => ?_⟩, by dsimp only; omega⟩ <;> dsimp only
          · omega
          · omega
          · rw [up2_off ha]; exact h8 a ha
        · refine ⟨⟨k, by omega, rfl, h3, h4, fun h0 k' hk' hg' => ?_, h6, h7, h8⟩, by dsimp only; omega⟩
          by_cases q : k' = k
          · rw [q]
            refine ⟨fun hen' => ?_, fun to t1 t2 t3 t4 => ?_⟩
            · have := hen hen'; dsimp only; omega
            · have := v3 to t1 t2 t3 t4; dsimp only; omega
          · exact h5 h0 k' (by omega) hg'
      by_cases g : enB ρ k = true
      · rw [if_pos g]
        exact wpo_n (by decide) (run e (by omega) (fun _ => rfl) (fun h => absurd g h))
      · rw [if_neg g]
        exact wpo_g rfl (run 2000000000 (by omega) (fun h => absurd h g) (fun _ => rfl))
    by_cases h96 : 96 ≤ (k : Int)
    · exact wpo_g h96 (node (Or.inl (by omega)))
    · refine wpo_n h96 (wpo_g (by omega) ?_)
      rw [Int.toNat_natCast]
      by_cases hm : N 335 k = 0
      · refine wpo_n (fun h => h hm) (wpo_s ?_)
        rw [ew]
        refine ⟨⟨k, by omega, rfl, h3, h4, fun h0 k' hk' hg' => ?_, h6, h7, h8⟩, by dsimp only; omega⟩
        by_cases q : k' = k
        · subst q
          rcases hg' with hg' | ⟨_, hg'⟩
          · omega
          · exact absurd hm ((hmayN k' (by omega)).mpr hg')
        · exact h5 h0 k' (by omega) hg'
      · exact wpo_g hm (node (Or.inr ⟨by omega, (hmayN k (by omega)).mp hm⟩))
theorem M_ways {F lv : Nat} (hF : 1000000000000000 ≤ F) {e : Int} {I J : MI} {ρ : RIV} {w c : Nat → Int} (hρ : RivOK ρ) (hr : RivM I lv ρ) (hl : I 296 18 = (lv : Int)) (hmay : ∀ j, j < 96 → (I 335 j ≠ 0 ↔ 0 ≤ w j)) (hcost : ∀ j, j < 96 → 0 ≤ w j → I 336 j = c j) (he : 1 ≤ e ∧ e ≤ 100000) (hc : ∀ j, j < 96 → 0 ≤ w j → 0 ≤ c j ∧ c j ≤ 10000000) : ∃ I', f_M_fillsWays F e I J = some I' ∧ Sol ρ w e c 2000000000 (I' 337) ∧ ∀ r, r ≠ 337 → I' r = I r := by
  unfold f_M_fillsWays
  rw [fill_loop 337 0 97 (fun _ => 2000000000) (by omega) (fun N => by dsimp only; unfold f_M_fillsWays_L2; rw [if_pos (by omega)]) (fun j hj => by
    dsimp only
    unfold f_M_fillsWays_L2
    rw [if_neg (by omega), if_pos (by omega), w32i (by omega) (by omega)]
    simp)]
  rw [Option.bind_some]
  generalize hM : fillR I 337 0 97 (fun _ => 2000000000) = M
  have m1 : ∀ k, k ≤ 96 → M 337 k = 2000000000 := fun k hk => by rw [← hM, fillR_in0 (by omega)]
  have m2 : ∀ r, r ≠ 337 → M r = I r := fun r hr => by rw [← hM, fillR_r hr]
  have hW0 : WIv ρ w e c (M 337) := by
    refine ⟨fun k hk => ?_, fun k hk => ?_, fun k hk hlt => ?_⟩
    · rw [m1 k hk]; exact ⟨by omega, by omega, fun _ => rfl⟩
    · rw [m1 k (by rcases hk with h | h <;> omega)]; exact Or.inl rfl
    · rw [m1 k hk] at hlt; omega
  have key := wpo_iter (step := fun q : Int × MI => f_M_fillsWays_L25 F e q.1 q.2 J) (Q := fun N => Sol ρ w e c 2000000000 (N 337) ∧ ∀ r, r ≠ 337 → N r = I r) (fun q => (q.1 = 0 ∨ q.1 = 1) ∧ WIv ρ w e c (q.2 337) ∧ (q.1 = 0 → ∀ k, gok w k → WB ρ w e c (q.2 337) k) ∧ ∀ r, r ≠ 337 → q.2 r = I r) (fun q => (2 * sumN (q.2 337) 97 + q.1).toNat) ?_ (F := F) (s := ((1 : Int), M)) ?_ ⟨Or.inr rfl, hW0, fun h => absurd h (by simp), m2⟩
  · obtain ⟨N, e1, q⟩ := key
    exact ⟨N, by rw [e1]; rfl, q⟩
  · rintro ⟨sm, N⟩ ⟨h1, h2, h3, h4⟩
    dsimp only at h1 h2 h3 h4 ⊢
    unfold f_M_fillsWays_L25
    refine wpo_i (fun hc2 => wpo_s ⟨wiv_sol h2 (h3 hc2), h4⟩) (fun hc2 => ?_)
    obtain ⟨sm', N', e1, q1, q2, q3, q4, q5, q6⟩ := M_sweep (F := F) (J := J) (I := N) (by omega) hρ (rivm_congr hr (fun a b1 b2 => h4 a (by omega))) (by rw [h4 296 (by decide)]; exact hl) (fun j hj => by rw [h4 335 (by decide)]; exact hmay j hj) (fun j hj => by rw [h4 336 (by decide)]; exact hcost j hj) he hc h2
    rw [e1, Option.bind_some]
    have hb := sumN_bd (f := N' 337) (n := 97) (b := 2000000000) (fun k hk => by have := q2.1 k (by omega); omega)
    refine wpo_s ⟨⟨q1, q2, q3, fun r hr2 => (q6 r hr2).trans (h4 r hr2)⟩, ?_⟩
    dsimp only
    rcases q1 with q | q
    · omega
    · have := q5 q; omega
  · have hb := sumN_bd (f := M 337) (n := 97) (b := 2000000000) (fun k hk => by rw [m1 k (by omega)]; omega)
    dsimp only
    omega
theorem M_line {F lv : Nat} (hF : 1000000 ≤ F) {e : Int} {I J : MI} {ρ : RIV} {w c : Nat → Int} (hρ : RivOK ρ) (hr : RivM I lv ρ) (hl : I 296 18 = (lv : Int)) (hmay : ∀ j, j < 96 → (I 335 j ≠ 0 ↔ 0 ≤ w j)) (hcost : ∀ j, j < 96 → 0 ≤ w j → I 336 j = c j) (he : 1 ≤ e ∧ e ≤ 100000) (hc : ∀ j, j < 96 → 0 ≤ w j → 0 ≤ c j ∧ c j ≤ 10000000) (hS : Sol ρ w e c 2000000000 (I 337)) (hbd : ∀ j, j < 96 → 0 ≤ w j → I 337 j < 2000000000 → I 337 j ≤ 1000000000) (hfin : I 337 96 < 2000000000) : ∃ (I' : MI) (n : Nat), f_M_fillsLine F e I J = some I' ∧ n ≤ 96 ∧ isLen (I 337) (fun _ => 0) (itn ρ w e c (I 337) 2000000000) e n ∧ I' 296 60 = (n : Int) ∧ (∀ k, k < n → I' 338 k = ((itn ρ w e c (I 337) 2000000000 (k + 1) : Nat) : Int)) ∧ (∀ r, r ≠ 296 → r ≠ 338 → I' r = I r) ∧ ∀ k, k ≠ 60 → I' 296 k = I 296 k := by
  have hc0 : ∀ k, k < 96 → 0 ≤ w k → 0 ≤ c k := fun k hk hwk => (hc k hk hwk).1
  generalize hDd : I 337 = D at hS hbd hfin ⊢
  have hok := fun n hn => itn_ok hS (by omega) hc0 hfin n hn
  unfold f_M_fillsLine
  have key := wpo_iter (step := fun s : Int × MI => f_M_fillsLine_L8 F e s.1 s.2 J) (Q := fun I' => ∃ n : Nat, n ≤ 96 ∧ isLen D (fun _ => 0) (itn ρ w e c D 2000000000) e n ∧ I' 296 60 = (n : Int) ∧ (∀ k, k < n → I' 338 k = ((itn ρ w e c D 2000000000 (k + 1) : Nat) : Int)) ∧ (∀ r, r ≠ 296 → r ≠ 338 → I' r = I r) ∧ ∀ k, k ≠ 60 → I' 296 k = I 296 k) (fun q => ∃ i : Nat, i ≤ 96 ∧ (∀ j, j < i → D (itn ρ w e c D 2000000000 j) ≠ e) ∧ q.1 = ((itn ρ w e c D 2000000000 i : Nat) : Int) ∧ q.2 296 60 = (i : Int) ∧ (∀ k, k < i → q.2 338 k = ((itn ρ w e c D 2000000000 (k + 1) : Nat) : Int)) ∧ (∀ r, r ≠ 296 → r ≠ 338 → q.2 r = I r) ∧ ∀ k, k ≠ 60 → q.2 296 k = I 296 k) (fun q => 96 - (q.2 296 60).toNat) ?_ (F := F) (s := ((96 : Int), up2 I 296 60 0)) (by dsimp only; omega) ⟨0, by omega, fun j hj => absurd hj (by omega), rfl, (by dsimp only; exact up2_same), fun k hk => absurd hk (by omega), fun r r1 r2 => up2_off r1, fun k hk => up2_k hk⟩
  · obtain ⟨I', e1, n, q⟩ := key
    exact ⟨I', n, by rw [e1]; rfl, q⟩
  rintro ⟨x, N⟩ ⟨i, h1, h3, h4, h5, h6, h7, h8⟩
  dsimp only at h4 h5 h6 h7 h8 ⊢
  subst h4
  obtain ⟨o1, o2, o3, o4⟩ := hok i h3
  have hrn := rkD_nn (w := w) (D := D) (k := itn ρ w e c D 2000000000 i)
  have hi9 : itn ρ w e c D 2000000000 i ≤ 96 := by rcases o1 with h | h <;> omega
  have hN337 : N 337 = D := by rw [h7 337 (by decide) (by decide), hDd]
  have hrN : RivM N lv ρ := rivm_congr hr (fun a b1 b2 => h7 a (by omega) (by omega))
  have hlN : N 296 18 = (lv : Int) := by rw [h8 18 (by decide)]; exact hl
  unfold f_M_fillsLine_L8
  rw [M_ends hρ hrN hlN hi9, Option.bind_some]
  by_cases hpe : D (itn ρ w e c D 2000000000 i) = e
  · have hen : enB ρ (itn ρ w e c D 2000000000 i) = true := by
      obtain ⟨a1, a2, a3, a4, a5⟩ := hS _ o1
      rcases a5 with r | ⟨r, _⟩ | ⟨to, t1, t2, t3, t4, t5⟩
      · omega
      · exact r
      · have := (hS to (Or.inr ⟨t1, t2⟩)).1
        have := hc0 to t1 t2
        omega
    rw [if_pos hen]
    refine wpo_n (by decide) (wpo_g (by omega) ?_)
    rw [Int.toNat_natCast, hN337]
    exact wpo_g hpe (wpo_s ⟨i, h1, ⟨h3, hpe⟩, h5, h6, h7, h8⟩)
  · obtain ⟨b1, b2, b3, b4, b5, b6⟩ := nxt_spec hS (by omega) o1 o2 hpe
    have hcn := hc _ b2 b3
    have hr2 := rkD_lt (w := w) (D := D) (k := itn ρ w e c D 2000000000 i) b2 b3 (by omega)
    have hrn2 := rkD_nn (w := w) (D := D) (k := nxt ρ w e c D 2000000000 (itn ρ w e c D 2000000000 i))
    obtain ⟨f1, f2, f3, f4⟩ := fstP_some b1
    have hin : itn ρ w e c D 2000000000 (i + 1) = nxt ρ w e c D 2000000000 (itn ρ w e c D 2000000000 i) := rfl
    have hloop : iter (fun s : Int => f_M_fillsLine_L28 F e ((itn ρ w e c D 2000000000 i : Nat) : Int) s N J) F 0 = some ((nxt ρ w e c D 2000000000 (itn ρ w e c D 2000000000 i) : Nat) : Int) := by
      refine iter_eq (s := (0 : Int)) (fun q => ∃ j : Nat, q = (j : Int) ∧ j ≤ nxt ρ w e c D 2000000000 (itn ρ w e c D 2000000000 i)) (fun q => 96 - q.toNat) ?_ (by omega) ⟨0, rfl, by omega⟩
      rintro q ⟨j, hq, hj⟩
      subst hq
      unfold f_M_fillsLine_L28
      have hj9 : j < 96 := by omega
      refine wpo_g (by omega) ?_
      rw [Int.toNat_natCast, hN337, w32i (x := (j : Int) + 1) (by omega) (by omega)]
      have next : nxP ρ w e c D 2000000000 (itn ρ w e c D 2000000000 i) j ≠ true → (∃ j' : Nat, (j : Int) + 1 = (j' : Int) ∧ j' ≤ nxt ρ w e c D 2000000000 (itn ρ w e c D 2000000000 i)) ∧ 96 - ((j : Int) + 1).toNat < 96 - ((j : Int)).toNat := by
        intro hn
        have : j ≠ nxt ρ w e c D 2000000000 (itn ρ w e c D 2000000000 i) := by intro e2; rw [e2] at hn; exact hn f3
        exact ⟨⟨j + 1, by omega, by omega⟩, by omega⟩
      have hjs := fun (hw : 0 ≤ w j) => (hS j (Or.inr ⟨hj9, hw⟩)).1
      refine wpo_i (fun hc2 => wpo_s (next (fun h => ?_))) (fun hc2 => ?_)
      · unfold nxP at h
        simp only [Bool.and_eq_true, decide_eq_true_eq] at h
        omega
      rw [M_leaps hρ hrN hlN hi9 hj9, h7 335 (by decide) (by decide), Option.bind_some]
      by_cases g : I 335 j ≠ 0 ∧ lpB ρ (itn ρ w e c D 2000000000 i) j = true
      · rw [if_pos g]
        have hwj := (hmay j hj9).mp g.1
        have hcj := hc j hj9 hwj
        have hbj := hbd j hj9 hwj (by omega)
        have hpj := hjs hwj
        have ev : w32 (w32 (D j + e) + N 336 j) = D j + e + c j := by
          rw [h7 336 (by decide) (by decide), hcost j hj9 hwj, w32i (x := D j + e) (by omega) (by omega), w32i (by omega) (by omega)]
        refine wpo_n (by decide) (wpo_g (by omega) (wpo_g (by omega) ?_))
        rw [Int.toNat_natCast, ev]
        refine wpo_i (fun hc3 => wpo_s ?_) (fun hc3 => wpo_s (next (fun h => ?_)))
        · have hp : nxP ρ w e c D 2000000000 (itn ρ w e c D 2000000000 i) j = true := by
            unfold nxP
            simp only [Bool.and_eq_true, decide_eq_true_eq]
            exact ⟨⟨hwj, g.2⟩, by omega, hc3⟩
          have : j = nxt ρ w e c D 2000000000 (itn ρ w e c D 2000000000 i) := by
            by_cases e2 : j < nxt ρ w e c D 2000000000 (itn ρ w e c D 2000000000 i)
            · have := f4 j (by omega) e2; rw [hp] at this; cases this
            · omega
          show (j : Int) = _
          rw [← this]
        · unfold nxP at h
          simp only [Bool.and_eq_true, decide_eq_true_eq] at h
          exact hc3 h.2.2
      · rw [if_neg g]
        refine wpo_g rfl (wpo_s (next (fun h => ?_)))
        unfold nxP at h
        simp only [Bool.and_eq_true, decide_eq_true_eq] at h
        exact g ⟨(hmay j hj9).mpr h.1.1, h.1.2⟩
    have go : wpo (f_M_fillsLine_b26in8 F e ((itn ρ w e c D 2000000000 i : Nat) : Int) N J) (fun r => Sum.elim (fun I' : MI => ∃ n : Nat, n ≤ 96 ∧ isLen D (fun _ => 0) (itn ρ w e c D 2000000000) e n ∧ I' 296 60 = (n : Int) ∧ (∀ k, k < n → I' 338 k = ((itn ρ w e c D 2000000000 (k + 1) : Nat) : Int)) ∧ (∀ r, r ≠ 296 → r ≠ 338 → I' r = I r) ∧ ∀ k, k ≠ 60 → I' 296 k = I 296 k) (fun s' : Int × MI => (∃ i : Nat, i ≤ 96 ∧ (∀ j, j < i → D (itn ρ w e c D 2000000000 j) ≠ e) ∧ s'.1 = ((itn ρ w e c D 2000000000 i : Nat) : Int) ∧ s'.2 296 60 = (i : Int) ∧ (∀ k, k < i → s'.2 338 k = ((itn ρ w e c D 2000000000 (k + 1) : Nat) : Int)) ∧ (∀ r, r ≠ 296 → r ≠ 338 → s'.2 r = I r) ∧ ∀ k, k ≠ 60 → s'.2 296 k = I 296 k) ∧ 96 - (s'.2 296 60).toNat < 96 - (N 296 60).toNat) r) := by
      unfold f_M_fillsLine_b26in8
      rw [hloop, Option.bind_some, h5]
      refine wpo_g (by omega) (wpo_s ?_)
      rw [Int.toNat_natCast, up2_r (by decide), h5, w32i (by omega) (by omega)]
      refine ⟨⟨i + 1, by omega, fun j hj => ?_, ?_, ?_, fun k hk => ?_, fun r r1 r2 => ?_, fun k hk => ?_⟩, ?_⟩ <;> try dsimp only
      · by_cases q : j = i
        · rw [q]; exact hpe
        · exact h3 j (by omega)
      · rw [hin]
      · rw [up2_same]; omega
      · rw [up2_r (by decide)]
        by_cases q : k = i
        · rw [q, up2_same, hin]
        · rw [up2_k q]; exact h6 k (by omega)
      · rw [up2_off r1, up2_off r2]; exact h7 r r1 r2
      · rw [up2_k hk, up2_r (by decide)]; exact h8 k hk
      · rw [up2_same]; omega
    by_cases g : enB ρ (itn ρ w e c D 2000000000 i) = true
    · rw [if_pos g]
      refine wpo_n (by decide) (wpo_g (by omega) ?_)
      rw [Int.toNat_natCast, hN337]
      exact wpo_n hpe go
    · rw [if_neg g]
      exact wpo_g rfl go
