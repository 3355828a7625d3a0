/-! BG: both objects made, the invariant holds -/
theorem M_app0 {F : Nat} {n : Int} {I J : MI} : f_M_appends F n 0 I J = some n := rfl
theorem M_app1 {F : Nat} {n a : Int} {I J : MI} (h : 0 ≤ n ∧ n ≤ 100000000000) (ha : 97 ≤ a ∧ a ≤ 122) : f_M_appends F n a I J = some (27 * n + (a - 96)) := by
  have hi : i2l (a - 97 + 1) = a - 96 := by
    have : ∀ k : Nat, k < 26 → i2l ((k : Int) + 1) = (k : Int) + 1 := by decide +kernel
    have := this (a - 97).toNat (by omega)
    rw [show (((a - 97).toNat : Nat) : Int) = a - 97 by omega] at this
    rw [this]; omega
  unfold f_M_appends
  rw [if_pos (by omega), w32i (x := a - 97) (by omega) (by omega), w32i (by omega) (by omega), hi, w64_eq (x := 27 * n) ⟨by omega, by omega⟩, w64_eq ⟨by omega, by omega⟩]
theorem M_w0 {F : Nat} {I J : MI} : f_M_word F 114 105 118 101 114 0 0 I J = some 9759276 := by
  unfold f_M_word
  rw [M_app1 (by decide) (by decide), Option.bind_some, M_app1 (by decide) (by decide), Option.bind_some, M_app1 (by decide) (by decide), Option.bind_some, M_app1 (by decide) (by decide), Option.bind_some, M_app1 (by decide) (by decide), Option.bind_some, M_app0, Option.bind_some, M_app0, Option.bind_some]
  rfl
theorem M_w1 {F : Nat} {I J : MI} : f_M_word F 100 101 112 116 104 0 0 I J = some 2236391 := by
  unfold f_M_word
  rw [M_app1 (by decide) (by decide), Option.bind_some, M_app1 (by decide) (by decide), Option.bind_some, M_app1 (by decide) (by decide), Option.bind_some, M_app1 (by decide) (by decide), Option.bind_some, M_app1 (by decide) (by decide), Option.bind_some, M_app0, Option.bind_some, M_app0, Option.bind_some]
  rfl
theorem M_w2 {F : Nat} {I J : MI} : f_M_word F 102 108 111 119 0 0 0 I J = some 127274 := by
  unfold f_M_word
  rw [M_app1 (by decide) (by decide), Option.bind_some, M_app1 (by decide) (by decide), Option.bind_some, M_app1 (by decide) (by decide), Option.bind_some, M_app1 (by decide) (by decide), Option.bind_some, M_app0, Option.bind_some, M_app0, Option.bind_some, M_app0, Option.bind_some]
  rfl
theorem M_w3 {F : Nat} {I J : MI} : f_M_word F 108 101 97 112 0 0 0 I J = some 239884 := by
  unfold f_M_word
  rw [M_app1 (by decide) (by decide), Option.bind_some, M_app1 (by decide) (by decide), Option.bind_some, M_app1 (by decide) (by decide), Option.bind_some, M_app1 (by decide) (by decide), Option.bind_some, M_app0, Option.bind_some, M_app0, Option.bind_some, M_app0, Option.bind_some]
  rfl
theorem M_w4 {F : Nat} {I J : MI} : f_M_word F 108 101 97 118 101 114 0 I J = some 174879963 := by
  unfold f_M_word
  rw [M_app1 (by decide) (by decide), Option.bind_some, M_app1 (by decide) (by decide), Option.bind_some, M_app1 (by decide) (by decide), Option.bind_some, M_app1 (by decide) (by decide), Option.bind_some, M_app1 (by decide) (by decide), Option.bind_some, M_app1 (by decide) (by decide), Option.bind_some, M_app0, Option.bind_some]
  rfl
theorem M_w5 {F : Nat} {I J : MI} : f_M_word F 102 108 111 111 100 0 0 I J = some 3436186 := by
  unfold f_M_word
  rw [M_app1 (by decide) (by decide), Option.bind_some, M_app1 (by decide) (by decide), Option.bind_some, M_app1 (by decide) (by decide), Option.bind_some, M_app1 (by decide) (by decide), Option.bind_some, M_app1 (by decide) (by decide), Option.bind_some, M_app0, Option.bind_some, M_app0, Option.bind_some]
  rfl
theorem M_w6 {F : Nat} {I J : MI} : f_M_word F 99 97 114 114 121 0 0 I J = some 1627639 := by
  unfold f_M_word
  rw [M_app1 (by decide) (by decide), Option.bind_some, M_app1 (by decide) (by decide), Option.bind_some, M_app1 (by decide) (by decide), Option.bind_some, M_app1 (by decide) (by decide), Option.bind_some, M_app1 (by decide) (by decide), Option.bind_some, M_app0, Option.bind_some, M_app0, Option.bind_some]
  rfl
theorem M_w7 {F : Nat} {I J : MI} : f_M_word F 115 108 105 112 0 0 0 I J = some 382984 := by
  unfold f_M_word
  rw [M_app1 (by decide) (by decide), Option.bind_some, M_app1 (by decide) (by decide), Option.bind_some, M_app1 (by decide) (by decide), Option.bind_some, M_app1 (by decide) (by decide), Option.bind_some, M_app0, Option.bind_some, M_app0, Option.bind_some, M_app0, Option.bind_some]
  rfl
theorem M_w8 {F : Nat} {I J : MI} : f_M_word F 105 102 0 0 0 0 0 I J = some 249 := by
  unfold f_M_word
  rw [M_app1 (by decide) (by decide), Option.bind_some, M_app1 (by decide) (by decide), Option.bind_some, M_app0, Option.bind_some, M_app0, Option.bind_some, M_app0, Option.bind_some, M_app0, Option.bind_some, M_app0, Option.bind_some]
  rfl
theorem M_w9 {F : Nat} {I J : MI} : f_M_word F 116 104 101 110 0 0 0 I J = some 399641 := by
  unfold f_M_word
  rw [M_app1 (by decide) (by decide), Option.bind_some, M_app1 (by decide) (by decide), Option.bind_some, M_app1 (by decide) (by decide), Option.bind_some, M_app1 (by decide) (by decide), Option.bind_some, M_app0, Option.bind_some, M_app0, Option.bind_some, M_app0, Option.bind_some]
  rfl
theorem M_w10 {F : Nat} {I J : MI} : f_M_word F 101 108 115 101 0 0 0 I J = some 107681 := by
  unfold f_M_word
  rw [M_app1 (by decide) (by decide), Option.bind_some, M_app1 (by decide) (by decide), Option.bind_some, M_app1 (by decide) (by decide), Option.bind_some, M_app1 (by decide) (by decide), Option.bind_some, M_app0, Option.bind_some, M_app0, Option.bind_some, M_app0, Option.bind_some]
  rfl
theorem M_w11 {F : Nat} {I J : MI} : f_M_word F 115 116 111 110 101 115 0 I J = some 283563658 := by
  unfold f_M_word
  rw [M_app1 (by decide) (by decide), Option.bind_some, M_app1 (by decide) (by decide), Option.bind_some, M_app1 (by decide) (by decide), Option.bind_some, M_app1 (by decide) (by decide), Option.bind_some, M_app1 (by decide) (by decide), Option.bind_some, M_app1 (by decide) (by decide), Option.bind_some, M_app0, Option.bind_some]
  rfl
theorem M_w12 {F : Nat} {I J : MI} : f_M_word F 100 101 101 112 0 0 0 I J = some 82528 := by
  unfold f_M_word
  rw [M_app1 (by decide) (by decide), Option.bind_some, M_app1 (by decide) (by decide), Option.bind_some, M_app1 (by decide) (by decide), Option.bind_some, M_app1 (by decide) (by decide), Option.bind_some, M_app0, Option.bind_some, M_app0, Option.bind_some, M_app0, Option.bind_some]
  rfl
theorem M_w13 {F : Nat} {I J : MI} : f_M_word F 102 111 114 99 101 0 0 I J = some 3497099 := by
  unfold f_M_word
  rw [M_app1 (by decide) (by decide), Option.bind_some, M_app1 (by decide) (by decide), Option.bind_some, M_app1 (by decide) (by decide), Option.bind_some, M_app1 (by decide) (by decide), Option.bind_some, M_app1 (by decide) (by decide), Option.bind_some, M_app0, Option.bind_some, M_app0, Option.bind_some]
  rfl
theorem M_w14 {F : Nat} {I J : MI} : f_M_word F 109 111 115 115 0 0 0 I J = some 267346 := by
  unfold f_M_word
  rw [M_app1 (by decide) (by decide), Option.bind_some, M_app1 (by decide) (by decide), Option.bind_some, M_app1 (by decide) (by decide), Option.bind_some, M_app1 (by decide) (by decide), Option.bind_some, M_app0, Option.bind_some, M_app0, Option.bind_some, M_app0, Option.bind_some]
  rfl
theorem M_w15 {F : Nat} {I J : MI} : f_M_word F 97 99 114 111 115 115 0 I J = some 16308991 := by
  unfold f_M_word
  rw [M_app1 (by decide) (by decide), Option.bind_some, M_app1 (by decide) (by decide), Option.bind_some, M_app1 (by decide) (by decide), Option.bind_some, M_app1 (by decide) (by decide), Option.bind_some, M_app1 (by decide) (by decide), Option.bind_some, M_app1 (by decide) (by decide), Option.bind_some, M_app0, Option.bind_some]
  rfl
theorem M_w16 {F : Nat} {I J : MI} : f_M_word F 97 108 111 110 103 0 0 I J = some 778957 := by
  unfold f_M_word
  rw [M_app1 (by decide) (by decide), Option.bind_some, M_app1 (by decide) (by decide), Option.bind_some, M_app1 (by decide) (by decide), Option.bind_some, M_app1 (by decide) (by decide), Option.bind_some, M_app1 (by decide) (by decide), Option.bind_some, M_app0, Option.bind_some, M_app0, Option.bind_some]
  rfl
theorem keyq_0 {J : MI} : KeyQ ((up2 (up2 (up2 (up2 (up2 (up2 (up2 (up2 (up2 (up2 (up2 (up2 (up2 (up2 (up2 (up2 (up2 J 303 0 9759276) 303 1 2236391) 303 2 127274) 303 3 239884) 303 4 174879963) 303 5 3436186) 303 6 1627639) 303 7 382984) 303 8 249) 303 9 399641) 303 10 107681) 303 11 283563658) 303 12 82528) 303 13 3497099) 303 14 267346) 303 15 16308991) 303 16 778957)) := by
  intro k hk
  have h : k = 0 ∨ k = 1 ∨ k = 2 ∨ k = 3 ∨ k = 4 ∨ k = 5 ∨ k = 6 ∨ k = 7 ∨ k = 8 ∨ k = 9 ∨ k = 10 ∨ k = 11 ∨ k = 12 ∨ k = 13 ∨ k = 14 ∨ k = 15 ∨ k = 16 := by omega
  rcases h with h | h | h | h | h | h | h | h | h | h | h | h | h | h | h | h | h <;> (subst h; simp [up2]; rfl)
theorem gx_hi : ∀ a k, 295 < a → gx_80 a k = 0 := by
  intro a k h
  sorry
