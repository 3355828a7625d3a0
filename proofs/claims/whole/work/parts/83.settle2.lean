/-! givers: the class's answer -/
def fW (ρ : RIV) (s : BSt) (g : Nat → Nat) : Nat → Nat := fun k => (wLk ρ s (g k)).toNat
/-- stones by the line's cells -/
def SegC (ρ : RIV) (s : BSt) (g : Nat → Nat) (n : Nat) (cs : Nat → Nat) : Prop := ∀ k j : Nat, k < n → j < fW ρ s g k → cs (PN (fW ρ s g) k + j) = g k
theorem X_settle {rv n : Nat} (hrv : rv = 11 ∨ rv = 30) {I : MI} {ρ : RIV} {s : BSt} {S : Int} {g : Nat → Nat} (hρ : RivOK ρ) (hr : RivX I rv ρ) (hb : BedQ I 49 ρ s) (h2 : I 244 2 = (n : Int)) (hn : n ≤ 96) (h46 : ∀ k, k < n → I 246 k = ((g k : Nat) : Int)) (h45 : ∀ c, c < 96 → I 245 c = wLk ρ s c) (hg : ∀ k, k < n → g k < 96 ∧ 0 ≤ wLk ρ s (g k)) (hS : S = sumN (fun k => wLk ρ s (g k)) n) (hsum : f_Y_sum FU I = some S) : ∃ (r : Int) (I' : MI), f_V_settle FU rv 49 I = some (r, I') ∧ (∀ a, a < 255 ∨ 274 < a → I' a = I a) ∧ S = ((PN (fW ρ s g) n : Nat) : Int) ∧ ((72 < PN (fW ρ s g) n ∧ r = 0) ∨ (PN (fW ρ s g) n ≤ 72 ∧ ∃ cs, SegC ρ s g n cs ∧ (∀ i, i < PN (fW ρ s g) n → cs i < 96) ∧ ((r = 0 ∧ ∀ b, ¬ VA (aN ρ).toNat (capA ρ s) (okX (drA ρ) cs) (PN (fW ρ s g) n) (uT (PN (fW ρ s g) n)) b) ∨ (r = 1 ∧ I' 255 0 = aN ρ ∧ (∀ m : Nat, (m : Int) < aN ρ → I' 256 m = gri ρ m) ∧ ∃ a, (∀ m : Nat, (m : Int) < aN ρ → I' 269 m = cT (uT (PN (fW ρ s g) n)) (PN (fW ρ s g) n) a m) ∧ OptA (aN ρ).toNat (capA ρ s) (gri ρ) (okX (drA ρ) cs) (PN (fW ρ s g) n) (uT (PN (fW ρ s g) n)) a ∧ LexA (aN ρ).toNat (capA ρ s) (gri ρ) (okX (drA ρ) cs) (PN (fW ρ s g) n) (PN (fW ρ s g) n) a)))) := by
  have hF := FU_big
  have h8 := hρ.2.2.2.1
  have hSP : S = ((PN (fW ρ s g) n : Nat) : Int) := by rw [hS]; exact PN_sum (fun k hk => (hg k hk).2)
  unfold f_V_settle
  rw [hsum, Option.bind_some]
  by_cases h72 : 72 < PN (fW ρ s g) n
  · rw [if_neg (by omega)]
    exact ⟨0, I, rfl, fun _ _ => rfl, hSP, Or.inl ⟨h72, rfl⟩⟩
  rw [if_pos (by omega)]
  obtain ⟨I1, e1, a1, a2, a3⟩ := settle_leavers (F := FU) hF hrv hρ hr hb
  rw [e1, Option.bind_some]
  obtain ⟨I2, e2, b1, b2, b3, b4⟩ := listNeeds_eq (F := FU) (n := n) (I := I1) (w := wLk ρ s) (g := g) hF (by rw [a3 244 (by omega)]; exact h2) hn (fun k hk => by rw [a3 246 (by omega)]; exact h46 k hk) (fun c hc => by rw [a3 245 (by omega)]; exact h45 c hc) hg (by show PN (fW ρ s g) n ≤ 72; omega)
  rw [e2, Option.bind_some]
  have b1' : I2 255 5 = ((PN (fW ρ s g) n : Nat) : Int) := b1
  have b2' : ∀ k j : Nat, k < n → j < fW ρ s g k → I2 266 (PN (fW ρ s g) k + j) = ((g k : Nat) : Int) := b2
  have hcs : ∀ i, i < PN (fW ρ s g) n → (I2 266 i).toNat < 96 ∧ I2 266 i = (((I2 266 i).toNat : Nat) : Int) := fun i hi => by
    obtain ⟨k, j, h1, h2, h3⟩ := PN_seg hi
    rw [h3, b2' k j h1 h2]
    have := (hg k h1).1
    omega
  have hv : VX I2 (aN ρ).toNat (PN (fW ρ s g) n) (capA ρ s) (gri ρ) (drA ρ) (fun i => (I2 266 i).toNat) := by
    refine ⟨by omega, by omega, by rw [b4 0 (by decide), a1]; omega, b1', fun m hm => ?_, hcs⟩
    obtain ⟨c1, c2, c3, c4⟩ := a2 m (by omega)
    have := capA_bd (s := s) hρ hb.1 (m := m) (by omega)
    exact ⟨by rw [b3 256 (by decide) (by decide) (by decide)]; exact c1, by rw [b3 268 (by decide) (by decide) (by decide)]; exact c2, by omega, fun y hy => by rw [b3 _ (by omega) (by omega) (by omega)]; exact c4 y hy⟩
  obtain ⟨e, e3, q3⟩ := settle_end (F := FU) hF hv (fun m hm => ⟨by rw [b3 269 (by decide) (by decide) (by decide)]; exact (a2 m (by omega)).2.2.1, (capA_bd (s := s) hρ hb.1 (m := m) (by omega)).1⟩)
  rw [e3, Option.bind_some]
  have frA : ∀ I3, FrV I2 I3 → ∀ a, a < 255 ∨ 274 < a → I3 a = I a := fun I3 f3 a ha => by
    rw [f3 a (by omega) (by omega), b3 a (by omega) (by omega) (by omega), a3 a (by omega)]
  have hseg : SegC ρ s g n (fun i => (I2 266 i).toNat) := fun k j hk hj => by
    show (I2 266 (PN (fW ρ s g) k + j)).toNat = g k
    rw [b2' k j hk hj]; omega
  rcases q3 with ⟨I3, q1, f3, q2⟩ | ⟨M, I3, q1, q2, f3, a, q3, q4, q5⟩
  · rw [q1]
    exact ⟨0, I3, rfl, frA I3 f3, hSP, Or.inr ⟨by omega, fun i => (I2 266 i).toNat, hseg, fun i hi => (hcs i hi).1, Or.inl ⟨rfl, q2⟩⟩⟩
  · rw [q1]
    dsimp only
    rw [q2, Option.bind_some]
    refine ⟨1, I3, rfl, frA I3 f3, hSP, Or.inr ⟨by omega, fun i => (I2 266 i).toNat, hseg, fun i hi => (hcs i hi).1, Or.inr ⟨rfl, ?_, fun m hm => ?_, a, fun m hm => q3.2 m (by omega), q4, q5⟩⟩⟩
    · rw [f3 255 (by decide) (by omega), b4 0 (by decide)]; exact a1
    · rw [f3 256 (by decide) (by omega), b3 256 (by decide) (by decide) (by decide)]; exact (a2 m hm).1
/-- what all that is given sums up to -/
theorem V_sum {F N n : Nat} (hF : 1000000 ≤ F) {I : MI} {gr : Nat → Int} {T : Nat → Bool} {a : Nat → Nat} (hN : N ≤ 8) (hn : n ≤ 72) (h0 : I 255 0 = (N : Int)) (h1 : ∀ m, m < N → I 256 m = gr m ∧ 0 ≤ gr m ∧ gr m ≤ 99 ∧ I 269 m = cT T n a m) (ha : ∀ i, i < n → T i = true → a i < N) : f_V_sum F I = some (cost gr T n a) := by
  have hc : ∀ m, 0 ≤ cT T n a m ∧ cT T n a m ≤ 72 := fun m => by
    have := sumN_bd (f := fun i => if T i = true ∧ a i = m then (1 : Int) else 0) (n := n) (b := 1) (fun k _ => by split <;> omega)
    unfold cT
    omega
  have hp : ∀ m, m < N → 0 ≤ cT T n a m * gr m ∧ cT T n a m * gr m ≤ 7128 := fun m hm => by
    obtain ⟨_, g1, g2, _⟩ := h1 m hm
    obtain ⟨c1, c2⟩ := hc m
    refine ⟨Int.mul_nonneg c1 g1, ?_⟩
    have e1 : cT T n a m * gr m ≤ cT T n a m * 99 := Int.mul_le_mul_of_nonneg_left g2 c1
    omega
  unfold f_V_sum
  rw [cost_cnt ha]
  rw [iter_eq (e := sumN (fun m => cT T n a m * gr m) N) (fun q => ∃ i : Nat, i ≤ N ∧ q.2 = (i : Int) ∧ q.1 = sumN (fun m => cT T n a m * gr m) i) (fun q => N - q.2.toNat) ?_ (by dsimp only; omega) ⟨0, by omega, rfl, rfl⟩]
  · rfl
  rintro ⟨x, y⟩ ⟨i, h3, h4, h5⟩
  dsimp only at h4 h5 ⊢
  subst h4
  unfold f_V_sum_L4
  rw [h0]
  refine wpo_i (fun hc2 => wpo_s ?_) (fun hc2 => wpo_g (by omega) (wpo_s ?_))
  · have : i = N := by omega
    subst this
    exact h5
  have hi : i < N := by omega
  obtain ⟨g0, g1, g2, g3⟩ := h1 i hi
  have hb := sumN_bd (f := fun m => cT T n a m * gr m) (n := i) (b := 7128) (fun k hk => hp k (by omega))
  have hpi := hp i hi
  rw [Int.toNat_natCast, g0, g3, w32i (x := (i : Int) + 1) (by omega) (by omega), w32i (x := cT T n a i * gr i) (by omega) (by omega), w32i (by omega) (by omega)]
  refine ⟨⟨i + 1, by omega, by dsimp only; omega, ?_⟩, by dsimp only; omega⟩
  dsimp only
  rw [h5]
  rfl
