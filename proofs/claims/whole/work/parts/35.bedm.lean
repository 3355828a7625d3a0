/-! fills of one row -/
def fillR (I : MI) (r off n : Nat) (g : Nat → Int) : MI := fun a k => if a = r ∧ off ≤ k ∧ k < off + n then g (k - off) else I a k
theorem fillR_r {I : MI} {r off n a : Nat} {g : Nat → Int} (h : a ≠ r) : fillR I r off n g a = I a := by
  funext k; unfold fillR; rw [if_neg (by omega)]
theorem fillR_in {I : MI} {r off n k : Nat} {g : Nat → Int} (h1 : off ≤ k) (h2 : k < off + n) : fillR I r off n g r k = g (k - off) := by
  unfold fillR; rw [if_pos ⟨rfl, h1, h2⟩]
theorem fillR_in0 {I : MI} {r n k : Nat} {g : Nat → Int} (h2 : k < n) : fillR I r 0 n g r k = g k := by
  rw [fillR_in (by omega) (by omega)]; rfl
theorem fillR_out {I : MI} {r off n k : Nat} {g : Nat → Int} (h : k < off ∨ off + n ≤ k) : fillR I r off n g r k = I r k := by
  unfold fillR; rw [if_neg (by omega)]
theorem fillR_0 {I : MI} {r off : Nat} {g : Nat → Int} : fillR I r off 0 g = I := by
  funext a k; unfold fillR; rw [if_neg (by omega)]
theorem fillR_s {I : MI} {r off n : Nat} {g : Nat → Int} : up2 (fillR I r off n g) r (off + n) (g n) = fillR I r off (n + 1) g := by
  funext a k
  unfold fillR up2
  dsimp only
  by_cases h : a = r ∧ k = off + n
  · rw [if_pos h, if_pos (by omega)]; congr 1; omega
  · rw [if_neg h]
    by_cases h2 : a = r ∧ off ≤ k ∧ k < off + n
    · rw [if_pos h2, if_pos (by omega)]
    · rw [if_neg h2, if_neg (by omega)]
theorem fill_loop {step : Int × MI → Option (MI ⊕ (Int × MI))} {I : MI} (r off n : Nat) (g : Nat → Int) {F : Nat} (hF : n < F) (hend : ∀ M, step ((n : Int), M) = some (.inl M)) (hst : ∀ j : Nat, j < n → step ((j : Int), fillR I r off j g) = some (.inr ((j : Int) + 1, up2 (fillR I r off j g) r (off + j) (g j)))) : iter step F (0, I) = some (fillR I r off n g) := by
  refine iter_eq (fun q => ∃ j : Nat, j ≤ n ∧ q.1 = (j : Int) ∧ q.2 = fillR I r off j g) (fun q => n - q.1.toNat) ?_ (by simp; omega) ⟨0, by omega, rfl, fillR_0.symm⟩
  rintro ⟨i, M⟩ ⟨j, hj, h1, h2⟩
  dsimp only at h1 h2
  subst h1
  subst h2
  by_cases e : j = n
  · subst e
    rw [hend]
    exact wpo_s rfl
  · rw [hst j (by omega)]
    refine wpo_s ⟨⟨j + 1, by omega, by simp, fillR_s⟩, ?_⟩
    dsimp only
    omega
/-- the model's two scratch rows -/
def MSt (I : MI) (s : BSt) : Prop := (∀ k, k < 250 → I 332 k = s.1 k) ∧ (∀ c, c < 96 → I 333 c = s.2 c)
theorem M_counts {F : Nat} (hF : 1000000 ≤ F) {I J : MI} (hk : ∀ k, k < 72 → I 332 k < 96) : ∃ I', f_M_counts F I J = some I' ∧ (∀ c, c < 96 → I' 333 c = hcn (I 332) c) ∧ ∀ a, a ≠ 333 → I' a = I a := by
  unfold f_M_counts
  rw [fill_loop 333 0 96 (fun _ => 0) (by omega) (fun M => by dsimp only; unfold f_M_counts_L2; rw [if_pos (by omega)]) (fun j hj => by
    dsimp only
    unfold f_M_counts_L2
    rw [if_neg (by omega), if_pos (by omega), w32i (by omega) (by omega)]
    simp)]
  rw [Option.bind_some]
  have key := wpo_iter (step := fun s : Int × MI => f_M_counts_L23 F s.1 s.2 J) (Q := fun M => (∀ c, c < 96 → M 333 c = hcn (I 332) c) ∧ ∀ a, a ≠ 333 → M a = I a) (fun q => ∃ j : Nat, j ≤ 72 ∧ q.1 = (j : Int) ∧ (∀ c, c < 96 → q.2 333 c = cnt (fun k => decide (I 332 k = (c : Int))) j) ∧ ∀ a, a ≠ 333 → q.2 a = I a) (fun q => 72 - q.1.toNat) ?_ (F := F) (s := (0, fillR I 333 0 96 fun _ => 0)) (by simp; omega) ⟨0, by omega, rfl, fun c hc => by dsimp only; rw [fillR_in0 hc]; rfl, fun a ha => by dsimp only; rw [fillR_r ha]⟩
  · obtain ⟨M, hM, h1, h2⟩ := key
    exact ⟨M, by rw [hM]; rfl, h1, h2⟩
  rintro ⟨i, M⟩ ⟨j, hj, h1, h2, h3⟩
  dsimp only at h1 h2 h3
  subst h1
  dsimp only
  unfold f_M_counts_L23
  refine wpo_i (fun hc => wpo_s ?_) (fun hc => ?_)
  · have : j = 72 := by omega
    subst this
    exact ⟨h2, h3⟩
  have hj2 : j < 72 := by omega
  refine wpo_g (by omega) ?_
  rw [h3 332 (by decide), Int.toNat_natCast, w32i (by omega) (by omega)]
  refine wpo_i (fun hc2 => wpo_s ?_) (fun hc2 => ?_)
  · refine ⟨⟨j + 1, by omega, by simp, fun c hc3 => ?_, h3⟩, by dsimp only; omega⟩
    rw [cnt_s, ← h2 c hc3, if_neg (by simp; omega)]
    simp
  have hb := hk j hj2
  refine wpo_g (by omega) (wpo_s ?_)
  refine ⟨⟨j + 1, by omega, by simp, fun c hc3 => ?_, fun a ha => ?_⟩, by dsimp only; omega⟩
  · dsimp only
    rw [cnt_s, ← h2 c hc3]
    have hcc := cnt_nn (fun k => decide (I 332 k = (c : Int))) j
    by_cases e : c = (I 332 j).toNat
    · subst e
      rw [up2_same, if_pos (by simp; omega), w32i (by rw [h2 _ hc3]; omega) (by rw [h2 _ hc3]; omega)]
    · rw [up2_k e, if_neg (by simp; omega)]
      simp
  · dsimp only
    rw [up2_off ha, h3 a ha]
theorem hcn_congr {v w : Nat → Int} (h : ∀ k, k < 72 → v k = w k) (c : Nat) : hcn v c = hcn w c := cnt_congr (fun k hk => by rw [h k hk])
theorem M_copies {F : Nat} (hF : 1000000 ≤ F) {I J : MI} (hk : ∀ k, k < 72 → I 331 k < 96) : ∃ I', f_M_copies F I J = some I' ∧ (∀ k, k < 250 → I' 332 k = I 331 k) ∧ (∀ c, c < 96 → I' 333 c = hcn (I 331) c) ∧ ∀ a, a ≠ 332 → a ≠ 333 → I' a = I a := by
  unfold f_M_copies
  rw [fill_loop 332 0 250 (I 331) (by omega) (fun M => by dsimp only; unfold f_M_copies_L2; rw [if_pos (by omega)]) (fun j hj => by
    dsimp only
    unfold f_M_copies_L2
    rw [if_neg (by omega), if_pos (by omega), w32i (by omega) (by omega), fillR_r (by decide)]
    simp)]
  rw [Option.bind_some]
  have e : ∀ k, k < 250 → fillR I 332 0 250 (I 331) 332 k = I 331 k := fun k hk => fillR_in0 hk
  obtain ⟨I', h1, h2, h3⟩ := M_counts hF (I := fillR I 332 0 250 (I 331)) (J := J) (fun k hk' => by rw [e k (by omega)]; exact hk k hk')
  refine ⟨I', by rw [h1]; rfl, fun k hk => by rw [h3 332 (by decide), e k hk], fun c hc => ?_, fun a ha hb => by rw [h3 a hb, fillR_r ha]⟩
  rw [h2 c hc]
  exact hcn_congr (fun k hk => e k (by omega)) c
