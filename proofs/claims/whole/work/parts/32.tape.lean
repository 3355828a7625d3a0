/-! the tape: four bytes at a time, on both sides -/
def tpA (I : MI) (rl kl r len j : Nat) (bt : Nat → Int) : MI := fun a k => if a = rl ∧ k = kl then ((len + j : Nat) : Int) else if a = r ∧ len ≤ k ∧ k < len + j then bt (k - len) else I a k
theorem tpA_0 {I : MI} {rl kl r len : Nat} {bt : Nat → Int} (h : I rl kl = (len : Int)) : tpA I rl kl r len 0 bt = I := by
  funext a k
  unfold tpA
  split
  · rename_i h1; rw [h1.1, h1.2, h]; simp
  · rw [if_neg (by omega)]
theorem tpA_s {I : MI} {rl kl r len j : Nat} {bt : Nat → Int} (hr : r ≠ rl) : up2 (up2 (tpA I rl kl r len j bt) r (len + j) (bt j)) rl kl ((len + (j + 1) : Nat) : Int) = tpA I rl kl r len (j + 1) bt := by
  funext a k
  unfold tpA up2
  by_cases h1 : a = rl ∧ k = kl
  · simp [h1]
  · simp only [if_neg h1]
    by_cases h2 : a = r ∧ k = len + j
    · rw [if_pos h2, if_pos (by omega), h2.2]
      congr 1; omega
    · rw [if_neg h2]
      by_cases h3 : a = r ∧ len ≤ k ∧ k < len + j
      · rw [if_pos h3, if_pos (by omega)]
      · rw [if_neg h3, if_neg (by omega)]
theorem tpA_len {I : MI} {rl kl r len j : Nat} {bt : Nat → Int} : tpA I rl kl r len j bt rl kl = ((len + j : Nat) : Int) := by simp [tpA]
def btX (x : Int) (j : Nat) : Int := b8 (b8 (ushr32 x (24 - 8 * (j : Int))))
def btM (x : Int) (j : Nat) : Int := b8 (b8 (shr32 x (24 - 8 * (j : Int))))
theorem bt_eq (x : Int) : ∀ j, j < 4 → btX x j = btM x j := by
  have h : ∀ (y : Int32) (k : Int), k = 24 ∨ k = 16 ∨ k = 8 ∨ k = 0 → ((y.toUInt32 >>> ((Int32.ofInt k).toUInt32 &&& Int32.toUInt32 31)).toInt32).toInt8 = (y >>> (Int32.ofInt k &&& 31)).toInt8 := by
    intro y k hk
    rcases hk with rfl | rfl | rfl | rfl
    all_goals
      apply Int8.toBitVec_inj.mp
      ext i hi
      simp only [Int32.toBitVec_toInt8, UInt32.toBitVec_toInt32, UInt32.toBitVec_shiftRight, Int32.toBitVec_shiftRight]
      try simp [BitVec.getElem_signExtend, BitVec.getElem_sshiftRight]
      try rw [dif_pos (by omega), decide_eq_true (by omega), Bool.true_and, BitVec.getLsbD_eq_getElem (by omega), if_pos (by omega)]
  intro j hj
  have h2 : ∀ (k : Int), k = 24 ∨ k = 16 ∨ k = 8 ∨ k = 0 → b8 (ushr32 x k) = b8 (shr32 x k) := by
    intro k hk
    unfold b8 ushr32 shr32
    rw [Int32.ofInt_toInt, Int32.ofInt_toInt, h (Int32.ofInt x) k hk]
  unfold btX btM
  rw [h2 _ (by omega)]
theorem T_put {F : Nat} (hF : 1000000 ≤ F) {I : MI} {len : Nat} (h : I 2 1 = (len : Int)) (hl : len + 4 ≤ 2000) (x : Int) : f_T_put F x I = some (tpA I 2 1 3 len 4 (btX x)) := by
  unfold f_T_put
  rw [iter_eq (e := tpA I 2 1 3 len 4 (btX x)) (fun s => ∃ j : Nat, j ≤ 4 ∧ s.1 = 24 - 8 * (j : Int) ∧ s.2 = tpA I 2 1 3 len j (btX x)) (fun s => (s.1 + 8).toNat) ?_ (by simp; omega) ⟨0, by omega, by simp, (tpA_0 h).symm⟩]
  · rfl
  rintro ⟨a, M⟩ ⟨j, hj, h1, h2⟩
  dsimp only at h1 h2
  subst h1
  subst h2
  dsimp only
  unfold f_T_put_L3
  refine wpo_i (fun hc => wpo_s ?_) (fun hc => ?_)
  · have : j = 4 := by omega
    subst this
    rfl
  have hj3 : j < 4 := by omega
  rw [tpA_len]
  refine wpo_n (by omega) (wpo_g (by omega) (wpo_s ?_))
  refine ⟨⟨j + 1, by omega, ?_, ?_⟩, ?_⟩
  · rw [w32i (by omega) (by omega)]; simp; omega
  · show up2 (up2 _ 3 _ _) 2 1 _ = _
    rw [up2_ne (by omega), tpA_len, w32i (by omega) (by omega), Int.toNat_natCast, ← tpA_s (by decide)]
    rfl
  · show (w32 _ + 8).toNat < _
    rw [w32i (by omega) (by omega)]; omega
theorem M_put {F : Nat} (hF : 1000000 ≤ F) {I J : MI} {len : Nat} (h : I 296 2 = (len : Int)) (hl : len + 4 ≤ 2000) (x : Int) : f_M_put F x I J = some (tpA I 296 2 297 len 4 (btM x)) := by
  unfold f_M_put
  rw [iter_eq (e := tpA I 296 2 297 len 4 (btM x)) (fun s => ∃ j : Nat, j ≤ 4 ∧ s.1 = 24 - 8 * (j : Int) ∧ s.2 = tpA I 296 2 297 len j (btM x)) (fun s => (s.1 + 8).toNat) ?_ (by simp; omega) ⟨0, by omega, by simp, (tpA_0 h).symm⟩]
  · rfl
  rintro ⟨a, M⟩ ⟨j, hj, h1, h2⟩
  dsimp only at h1 h2
  subst h1
  subst h2
  dsimp only
  unfold f_M_put_L3
  refine wpo_i (fun hc => wpo_s ?_) (fun hc => ?_)
  · have : j = 4 := by omega
    subst this
    rfl
  have hj3 : j < 4 := by omega
  rw [tpA_len]
  refine wpo_g (by omega) (wpo_s ?_)
  refine ⟨⟨j + 1, by omega, ?_, ?_⟩, ?_⟩
  · rw [w32i (by omega) (by omega)]; simp; omega
  · show up2 (up2 _ 297 _ _) 296 2 _ = _
    rw [up2_ne (by omega), tpA_len, w32i (by omega) (by omega), Int.toNat_natCast, ← tpA_s (by decide)]
    rfl
  · show (w32 _ + 8).toNat < _
    rw [w32i (by omega) (by omega)]; omega
