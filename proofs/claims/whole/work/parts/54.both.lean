/-! both ways held against each other -/

theorem nxP0 {ρ : RIV} {w : Nat → Int} {e inf : Int} {c D Dm h l : Nat → Int} {he le : Int} (hs : Sol ρ w e c inf D) (e1 : e = 10000 * he + le) (e2 : 0 ≤ he ∧ he ≤ 1) (e3 : 0 ≤ le ∧ le ≤ 1 ∧ 1 ≤ he + le) (hc : ∀ k, k < 96 → 0 ≤ w k → c k = 10000 * h k + l k ∧ 0 ≤ h k ∧ h k ≤ 100 ∧ 0 ≤ l k ∧ he + h k ≤ 101 ∧ le + l k ≤ 100) (hm : le ≤ 100) (hDm : ∀ k, gok w k → Dm k = if D k < inf then FB0 (D k) else 2000000000) {k : Nat} (hk : gok w k) (hlt : D k < inf) : (D k = e ↔ Dm k = 100000 * he + le) ∧ ∀ to, to < 96 → nxP ρ w e c D inf k to = nxP ρ w (100000 * he + le) (fun k => 100000 * h k + l k) Dm 2000000000 k to := by
  have hf : ∀ k, gok w k → D k < inf → ∃ H L : Int, D k = 10000 * H + L ∧ 0 ≤ H ∧ 0 ≤ L ∧ L ≤ 100 * (1 + rkD w D k) ∧ H ≤ 101 * (1 + rkD w D k) := fun k hk hlt => form0 hs e1 e2 e3 hc hm (D k).toNat k hk (by have := (hs k hk).1; omega) hlt
  obtain ⟨H, L, q1, q2, q3, q4, q5⟩ := hf k hk hlt
  have hr := rkD_nn (w := w) (D := D) (k := k)
  have v1 : FB0 (D k) = 100000 * H + L := by unfold FB0; omega
  have vm := hDm k hk
  rw [if_pos hlt, v1] at vm
  refine ⟨by omega, fun to ht => ?_⟩
  unfold nxP
  by_cases g : 0 ≤ w to
  · obtain ⟨c1, c2, c3, c4, c5, c6⟩ := hc to ht g
    have vt := hDm to (Or.inr ⟨ht, g⟩)
    have pt := (hs to (Or.inr ⟨ht, g⟩)).1
    congr 1
    apply decide_eq_decide.mpr
    dsimp only
    by_cases g2 : D to < inf
    · obtain ⟨H2, L2, r1, r2, r3, r4, r5⟩ := hf to (Or.inr ⟨ht, g⟩) g2
      have hr2 := rkD_nn (w := w) (D := D) (k := to)
      have v2 : FB0 (D to) = 100000 * H2 + L2 := by unfold FB0; omega
      rw [if_pos g2, v2] at vt
      omega
    · rw [if_neg g2] at vt
      omega
  · simp [g]
theorem itn0 {ρ : RIV} {w : Nat → Int} {e inf : Int} {c D Dm h l : Nat → Int} {he le : Int} (hs : Sol ρ w e c inf D) (e1 : e = 10000 * he + le) (e2 : 0 ≤ he ∧ he ≤ 1) (e3 : 0 ≤ le ∧ le ≤ 1 ∧ 1 ≤ he + le) (hc : ∀ k, k < 96 → 0 ≤ w k → c k = 10000 * h k + l k ∧ 0 ≤ h k ∧ h k ≤ 100 ∧ 0 ≤ l k ∧ he + h k ≤ 101 ∧ le + l k ≤ 100) (hm : le ≤ 100) (hDm : ∀ k, gok w k → Dm k = if D k < inf then FB0 (D k) else 2000000000) (hfin : D 96 < inf) : ∀ n, (∀ j, j < n → D (itn ρ w e c D inf j) ≠ e) → itn ρ w e c D inf n = itn ρ w (100000 * he + le) (fun k => 100000 * h k + l k) Dm 2000000000 n
  | 0, _ => rfl
  | n + 1, hn => by
    have ih := itn0 hs e1 e2 e3 hc hm hDm hfin n (fun j hj => hn j (by omega))
    have ok := itn_ok hs (by omega) (fun k hk hw => by obtain ⟨c1, c2, c3, c4, c5, c6⟩ := hc k hk hw; omega) hfin n (fun j hj => hn j (by omega))
    show nxt ρ w e c D inf _ = nxt ρ w _ _ Dm 2000000000 _
    rw [← ih]
    unfold nxt
    rw [fstP_congr (fun j _ hj => (nxP0 hs e1 e2 e3 hc hm hDm ok.1 ok.2.1).2 j (by omega))]
theorem both0 {ρ : RIV} {w : Nat → Int} {e inf : Int} {c D Dm h l : Nat → Int} {he le : Int} {n m : Nat} (hs : Sol ρ w e c inf D) (e1 : e = 10000 * he + le) (e2 : 0 ≤ he ∧ he ≤ 1) (e3 : 0 ≤ le ∧ le ≤ 1 ∧ 1 ≤ he + le) (hc : ∀ k, k < 96 → 0 ≤ w k → c k = 10000 * h k + l k ∧ 0 ≤ h k ∧ h k ≤ 100 ∧ 0 ≤ l k ∧ he + h k ≤ 101 ∧ le + l k ≤ 100) (hm : le ≤ 100) (hinf : inf = 1073741824) (hsm : Sol ρ w (100000 * he + le) (fun k => 100000 * h k + l k) 2000000000 Dm) (hfin : D 96 < inf) (hn : isLen D (fun _ => 0) (itn ρ w e c D inf) e n) (hm2 : isLen Dm (fun _ => 0) (itn ρ w (100000 * he + le) (fun k => 100000 * h k + l k) Dm 2000000000) (100000 * he + le) m) : n = m ∧ ∀ k, k ≤ n → itn ρ w e c D inf k = itn ρ w (100000 * he + le) (fun k => 100000 * h k + l k) Dm 2000000000 k := by
  have hcv := conv0 hs e1 e2 e3 hc hm hinf
  have hDm : ∀ k, gok w k → Dm k = if D k < inf then FB0 (D k) else 2000000000 := fun k hk => sol_uniq (by omega) (fun k hk hw => by obtain ⟨c1, c2, c3, c4, c5, c6⟩ := hc k hk hw; first | omega | (dsimp only; omega)) hsm hcv k hk
  have hit : ∀ k, k ≤ n → itn ρ w e c D inf k = itn ρ w (100000 * he + le) (fun k => 100000 * h k + l k) Dm 2000000000 k := fun k hk => itn0 hs e1 e2 e3 hc hm hDm hfin k (fun j hj => hn.1 j (by omega))
  have hiff : ∀ k, k ≤ n → (D (itn ρ w e c D inf k) = e ↔ Dm (itn ρ w (100000 * he + le) (fun k => 100000 * h k + l k) Dm 2000000000 k) = 100000 * he + le) := fun k hk => by
    have ok := itn_ok hs (by omega) (fun k hk hw => by obtain ⟨c1, c2, c3, c4, c5, c6⟩ := hc k hk hw; omega) hfin k (fun j hj => hn.1 j (by omega))
    rw [← hit k hk]
    exact (nxP0 hs e1 e2 e3 hc hm hDm ok.1 ok.2.1).1
  refine ⟨?_, hit⟩
  by_cases g : n < m
  · exact absurd ((hiff n (Nat.le_refl _)).mp hn.2) (hm2.1 n g)
  · by_cases g2 : m < n
    · exact absurd ((hiff m (by omega)).mpr hm2.2) (hn.1 m g2)
    · omega
theorem fin0 {ρ : RIV} {w : Nat → Int} {e inf : Int} {c D Dm h l : Nat → Int} {he le : Int} (hs : Sol ρ w e c inf D) (e1 : e = 10000 * he + le) (e2 : 0 ≤ he ∧ he ≤ 1) (e3 : 0 ≤ le ∧ le ≤ 1 ∧ 1 ≤ he + le) (hc : ∀ k, k < 96 → 0 ≤ w k → c k = 10000 * h k + l k ∧ 0 ≤ h k ∧ h k ≤ 100 ∧ 0 ≤ l k ∧ he + h k ≤ 101 ∧ le + l k ≤ 100) (hm : le ≤ 100) (hinf : inf = 1073741824) (hsm : Sol ρ w (100000 * he + le) (fun k => 100000 * h k + l k) 2000000000 Dm) : (D 96 < inf ↔ Dm 96 < 2000000000) ∧ ∀ k, gok w k → Dm k < 2000000000 → Dm k ≤ 1000000000 := by
  have hcv := conv0 hs e1 e2 e3 hc hm hinf
  have hDm : ∀ k, gok w k → Dm k = if D k < inf then FB0 (D k) else 2000000000 := fun k hk => sol_uniq (by omega) (fun k hk hw => by obtain ⟨c1, c2, c3, c4, c5, c6⟩ := hc k hk hw; first | omega | (dsimp only; omega)) hsm hcv k hk
  have hb : ∀ k, gok w k → D k < inf → Dm k ≤ 1000000000 := fun k hk hlt => by
    obtain ⟨H, L, q1, q2, q3, q4, q5⟩ := form0 hs e1 e2 e3 hc hm (D k).toNat k hk (by have := (hs k hk).1; omega) hlt
    have hr := rkD_nn (w := w) (D := D) (k := k)
    have v1 : FB0 (D k) = 100000 * H + L := by unfold FB0; omega
    rw [hDm k hk, if_pos hlt, v1]
    omega
  refine ⟨?_, fun k hk hlt => ?_⟩
  · by_cases g : D 96 < inf
    · have := hb 96 (Or.inl rfl) g
      exact ⟨fun _ => by omega, fun _ => g⟩
    · have := hDm 96 (Or.inl rfl)
      rw [if_neg g] at this
      exact ⟨fun h => absurd h g, fun h => by omega⟩
  · by_cases g : D k < inf
    · exact hb k hk g
    · have := hDm k hk
      rw [if_neg g] at this
      omega

theorem nxP1 {ρ : RIV} {w : Nat → Int} {e inf : Int} {c D Dm h l : Nat → Int} {he le : Int} (hs : Sol ρ w e c inf D) (e1 : e = 1000 * he + le) (e2 : 0 ≤ he ∧ he ≤ 1) (e3 : 0 ≤ le ∧ le ≤ 1 ∧ 1 ≤ he + le) (hc : ∀ k, k < 96 → 0 ≤ w k → c k = 1000 * h k + l k ∧ 0 ≤ h k ∧ h k ≤ 100 ∧ 0 ≤ l k ∧ he + h k ≤ 101 ∧ le + l k ≤ 1) (hm : le ≤ 1) (hDm : ∀ k, gok w k → Dm k = if D k < inf then FB1 (D k) else 2000000000) {k : Nat} (hk : gok w k) (hlt : D k < inf) : (D k = e ↔ Dm k = 100000 * he + le) ∧ ∀ to, to < 96 → nxP ρ w e c D inf k to = nxP ρ w (100000 * he + le) (fun k => 100000 * h k + l k) Dm 2000000000 k to := by
  have hf : ∀ k, gok w k → D k < inf → ∃ H L : Int, D k = 1000 * H + L ∧ 0 ≤ H ∧ 0 ≤ L ∧ L ≤ 1 * (1 + rkD w D k) ∧ H ≤ 101 * (1 + rkD w D k) := fun k hk hlt => form1 hs e1 e2 e3 hc hm (D k).toNat k hk (by have := (hs k hk).1; omega) hlt
  obtain ⟨H, L, q1, q2, q3, q4, q5⟩ := hf k hk hlt
  have hr := rkD_nn (w := w) (D := D) (k := k)
  have v1 : FB1 (D k) = 100000 * H + L := by unfold FB1; omega
  have vm := hDm k hk
  rw [if_pos hlt, v1] at vm
  refine ⟨by omega, fun to ht => ?_⟩
  unfold nxP
  by_cases g : 0 ≤ w to
  · obtain ⟨c1, c2, c3, c4, c5, c6⟩ := hc to ht g
    have vt := hDm to (Or.inr ⟨ht, g⟩)
    have pt := (hs to (Or.inr ⟨ht, g⟩)).1
    congr 1
    apply decide_eq_decide.mpr
    dsimp only
    by_cases g2 : D to < inf
    · obtain ⟨H2, L2, r1, r2, r3, r4, r5⟩ := hf to (Or.inr ⟨ht, g⟩) g2
      have hr2 := rkD_nn (w := w) (D := D) (k := to)
      have v2 : FB1 (D to) = 100000 * H2 + L2 := by unfold FB1; omega
      rw [if_pos g2, v2] at vt
      omega
    · rw [if_neg g2] at vt
      omega
  · simp [g]
theorem itn1 {ρ : RIV} {w : Nat → Int} {e inf : Int} {c D Dm h l : Nat → Int} {he le : Int} (hs : Sol ρ w e c inf D) (e1 : e = 1000 * he + le) (e2 : 0 ≤ he ∧ he ≤ 1) (e3 : 0 ≤ le ∧ le ≤ 1 ∧ 1 ≤ he + le) (hc : ∀ k, k < 96 → 0 ≤ w k → c k = 1000 * h k + l k ∧ 0 ≤ h k ∧ h k ≤ 100 ∧ 0 ≤ l k ∧ he + h k ≤ 101 ∧ le + l k ≤ 1) (hm : le ≤ 1) (hDm : ∀ k, gok w k → Dm k = if D k < inf then FB1 (D k) else 2000000000) (hfin : D 96 < inf) : ∀ n, (∀ j, j < n → D (itn ρ w e c D inf j) ≠ e) → itn ρ w e c D inf n = itn ρ w (100000 * he + le) (fun k => 100000 * h k + l k) Dm 2000000000 n
  | 0, _ => rfl
  | n + 1, hn => by
    have ih := itn1 hs e1 e2 e3 hc hm hDm hfin n (fun j hj => hn j (by omega))
    have ok := itn_ok hs (by omega) (fun k hk hw => by obtain ⟨c1, c2, c3, c4, c5, c6⟩ := hc k hk hw; omega) hfin n (fun j hj => hn j (by omega))
    show nxt ρ w e c D inf _ = nxt ρ w _ _ Dm 2000000000 _
    rw [← ih]
    unfold nxt
    rw [fstP_congr (fun j _ hj => (nxP1 hs e1 e2 e3 hc hm hDm ok.1 ok.2.1).2 j (by omega))]
theorem both1 {ρ : RIV} {w : Nat → Int} {e inf : Int} {c D Dm h l : Nat → Int} {he le : Int} {n m : Nat} (hs : Sol ρ w e c inf D) (e1 : e = 1000 * he + le) (e2 : 0 ≤ he ∧ he ≤ 1) (e3 : 0 ≤ le ∧ le ≤ 1 ∧ 1 ≤ he + le) (hc : ∀ k, k < 96 → 0 ≤ w k → c k = 1000 * h k + l k ∧ 0 ≤ h k ∧ h k ≤ 100 ∧ 0 ≤ l k ∧ he + h k ≤ 101 ∧ le + l k ≤ 1) (hm : le ≤ 1) (hinf : inf = 1073741824) (hsm : Sol ρ w (100000 * he + le) (fun k => 100000 * h k + l k) 2000000000 Dm) (hfin : D 96 < inf) (hn : isLen D (fun _ => 0) (itn ρ w e c D inf) e n) (hm2 : isLen Dm (fun _ => 0) (itn ρ w (100000 * he + le) (fun k => 100000 * h k + l k) Dm 2000000000) (100000 * he + le) m) : n = m ∧ ∀ k, k ≤ n → itn ρ w e c D inf k = itn ρ w (100000 * he + le) (fun k => 100000 * h k + l k) Dm 2000000000 k := by
  have hcv := conv1 hs e1 e2 e3 hc hm hinf
  have hDm : ∀ k, gok w k → Dm k = if D k < inf then FB1 (D k) else 2000000000 := fun k hk => sol_uniq (by omega) (fun k hk hw => by obtain ⟨c1, c2, c3, c4, c5, c6⟩ := hc k hk hw; first | omega | (dsimp only; omega)) hsm hcv k hk
  have hit : ∀ k, k ≤ n → itn ρ w e c D inf k = itn ρ w (100000 * he + le) (fun k => 100000 * h k + l k) Dm 2000000000 k := fun k hk => itn1 hs e1 e2 e3 hc hm hDm hfin k (fun j hj => hn.1 j (by omega))
  have hiff : ∀ k, k ≤ n → (D (itn ρ w e c D inf k) = e ↔ Dm (itn ρ w (100000 * he + le) (fun k => 100000 * h k + l k) Dm 2000000000 k) = 100000 * he + le) := fun k hk => by
    have ok := itn_ok hs (by omega) (fun k hk hw => by obtain ⟨c1, c2, c3, c4, c5, c6⟩ := hc k hk hw; omega) hfin k (fun j hj => hn.1 j (by omega))
    rw [← hit k hk]
    exact (nxP1 hs e1 e2 e3 hc hm hDm ok.1 ok.2.1).1
  refine ⟨?_, hit⟩
  by_cases g : n < m
  · exact absurd ((hiff n (Nat.le_refl _)).mp hn.2) (hm2.1 n g)
  · by_cases g2 : m < n
    · exact absurd ((hiff m (by omega)).mpr hm2.2) (hn.1 m g2)
    · omega
theorem fin1 {ρ : RIV} {w : Nat → Int} {e inf : Int} {c D Dm h l : Nat → Int} {he le : Int} (hs : Sol ρ w e c inf D) (e1 : e = 1000 * he + le) (e2 : 0 ≤ he ∧ he ≤ 1) (e3 : 0 ≤ le ∧ le ≤ 1 ∧ 1 ≤ he + le) (hc : ∀ k, k < 96 → 0 ≤ w k → c k = 1000 * h k + l k ∧ 0 ≤ h k ∧ h k ≤ 100 ∧ 0 ≤ l k ∧ he + h k ≤ 101 ∧ le + l k ≤ 1) (hm : le ≤ 1) (hinf : inf = 1073741824) (hsm : Sol ρ w (100000 * he + le) (fun k => 100000 * h k + l k) 2000000000 Dm) : (D 96 < inf ↔ Dm 96 < 2000000000) ∧ ∀ k, gok w k → Dm k < 2000000000 → Dm k ≤ 1000000000 := by
  have hcv := conv1 hs e1 e2 e3 hc hm hinf
  have hDm : ∀ k, gok w k → Dm k = if D k < inf then FB1 (D k) else 2000000000 := fun k hk => sol_uniq (by omega) (fun k hk hw => by obtain ⟨c1, c2, c3, c4, c5, c6⟩ := hc k hk hw; first | omega | (dsimp only; omega)) hsm hcv k hk
  have hb : ∀ k, gok w k → D k < inf → Dm k ≤ 1000000000 := fun k hk hlt => by
    obtain ⟨H, L, q1, q2, q3, q4, q5⟩ := form1 hs e1 e2 e3 hc hm (D k).toNat k hk (by have := (hs k hk).1; omega) hlt
    have hr := rkD_nn (w := w) (D := D) (k := k)
    have v1 : FB1 (D k) = 100000 * H + L := by unfold FB1; omega
    rw [hDm k hk, if_pos hlt, v1]
    omega
  refine ⟨?_, fun k hk hlt => ?_⟩
  · by_cases g : D 96 < inf
    · have := hb 96 (Or.inl rfl) g
      exact ⟨fun _ => by omega, fun _ => g⟩
    · have := hDm 96 (Or.inl rfl)
      rw [if_neg g] at this
      exact ⟨fun h => absurd h g, fun h => by omega⟩
  · by_cases g : D k < inf
    · exact hb k hk g
    · have := hDm k hk
      rw [if_neg g] at this
      omega

theorem chain_sum {ρ : RIV} {w : Nat → Int} {e inf : Int} {c D : Nat → Int} (h : Sol ρ w e c inf D) (he : 0 < e) (hc : ∀ k, k < 96 → 0 ≤ w k → 0 ≤ c k) (hfin : D 96 < inf) : ∀ n, (∀ j, j < n → D (itn ρ w e c D inf j) ≠ e) → D 96 = D (itn ρ w e c D inf n) + (n : Int) * e + sumN (fun k => c (itn ρ w e c D inf (k + 1))) n
  | 0, _ => by
    show D 96 = D 96 + ((0 : Nat) : Int) * e + 0
    simp
  | n + 1, hn => by
    have ih := chain_sum h he hc hfin n (fun j hj => hn j (by omega))
    obtain ⟨a1, a2, a3, a4⟩ := itn_ok h he hc hfin n (fun j hj => hn j (by omega))
    obtain ⟨b1, b2, b3, b4, b5, b6⟩ := nxt_spec h he a1 a2 (hn n (by omega))
    show D 96 = D (nxt ρ w e c D inf (itn ρ w e c D inf n)) + ((n + 1 : Nat) : Int) * e + (sumN (fun k => c (itn ρ w e c D inf (k + 1))) n + c (nxt ρ w e c D inf (itn ρ w e c D inf n)))
    have : ((n + 1 : Nat) : Int) * e = (n : Int) * e + e := by rw [Int.natCast_add, Int.add_mul]; simp
    rw [this]
    omega
theorem sumN_lin {f g h : Nat → Int} {a : Int} {n : Nat} (hh : ∀ k, k < n → h k = a * f k + g k) : sumN h n = a * sumN f n + sumN g n := by
  induction n with
  | zero => simp [sumN]
  | succ n ih =>
    show sumN h n + h n = a * (sumN f n + f n) + (sumN g n + g n)
    rw [ih (fun k hk => hh k (by omega)), hh n (by omega), Int.mul_add]
    omega
theorem Y_sum {F n : Nat} (hF : 1000000 ≤ F) {I : MI} {w : Nat → Int} {g : Nat → Nat} (hw : ∀ c, c < 96 → I 245 c = w c) (hn : n ≤ 96) (h2 : I 244 2 = (n : Int)) (hg : ∀ k, k < n → I 246 k = ((g k : Nat) : Int) ∧ g k < 96 ∧ 0 ≤ w (g k) ∧ w (g k) ≤ 100) : f_Y_sum F I = some (sumN (fun k => w (g k)) n) := by
  unfold f_Y_sum
  rw [iter_eq (e := sumN (fun k => w (g k)) n) (fun q => ∃ i : Nat, i ≤ n ∧ q.2 = (i : Int) ∧ q.1 = sumN (fun k => w (g k)) i) (fun q => n - q.2.toNat) ?_ (by dsimp only; omega) ⟨0, by omega, rfl, rfl⟩]
  · rfl
  rintro ⟨x, y⟩ ⟨i, h3, h4, h5⟩
  dsimp only at h4 h5 ⊢
  subst h4
  unfold f_Y_sum_L4
  rw [h2]
  refine wpo_i (fun hc => wpo_s ?_) (fun hc => ?_)
  · have : i = n := by omega
    subst this
    exact h5
  obtain ⟨g1, g2, g3, g4⟩ := hg i (by omega)
  have hb := sumN_bd (f := fun k => w (g k)) (n := i) (b := 100) (fun k hk => ⟨(hg k (by omega)).2.2.1, (hg k (by omega)).2.2.2⟩)
  refine wpo_g (by omega) ?_
  rw [Int.toNat_natCast, g1]
  refine wpo_g (by omega) (wpo_s ?_)
  rw [Int.toNat_natCast, hw _ g2, w32i (x := (i : Int) + 1) (by omega) (by omega), w32i (by omega) (by omega)]
  refine ⟨⟨i + 1, by omega, by dsimp only; omega, ?_⟩, by dsimp only; omega⟩
  dsimp only
  rw [h5]
  rfl
