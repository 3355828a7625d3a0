/-! BG: both objects made, the invariant holds -/
theorem M_app0 {F : Nat} {n : Int} {I J : MI} : f_M_appends F n 0 I J = some n := rfl
theorem M_app1 {F : Nat} {n a : Int} {I J : MI} (h : 0 ≤ n ∧ n ≤ 100000000000) (ha : 97 ≤ a ∧ a ≤ 122) : f_M_appends F n a I J = some (27 * n + (a - 96)) := by
  have hi : i2l (a - 97 + 1) = a - 96 := by
    have : ∀ k : Nat, k < 26 → i2l ((k : Int) + 1) = (k : Int) + 1 := by decide +kernel
    have := this (a - 97).toNat (by omega)
    rw [show (((a - 97).toNat : Nat) : Int) = a - 97 by omega] at this
    rw [this]; omega
  unfold f_M_appends
  rw [if_pos (by omega), w32i (x := a - 97) (by omega) (by omega), w32i (by omega) (by omega), hi, w64_eq (x := 27 * n) ⟨by omega, by omega⟩, w64_eq ⟨by omega, by omega⟩]
theorem M_w0 {F : Nat} {I J : MI} : f_M_word F 114 105 118 101 114 0 0 I J = some 9759276 := by
  unfold f_M_word
  rw [M_app1 (by decide) (by decide), Option.bind_some, M_app1 (by decide) (by decide), Option.bind_some, M_app1 (by decide) (by decide), Option.bind_some, M_app1 (by decide) (by decide), Option.bind_some, M_app1 (by decide) (by decide), Option.bind_some, M_app0, Option.bind_some, M_app0, Option.bind_some]
  rfl
theorem M_w1 {F : Nat} {I J : MI} : f_M_word F 100 101 112 116 104 0 0 I J = some 2236391 := by
  unfold f_M_word
  rw [M_app1 (by decide) (by decide), Option.bind_some, M_app1 (by decide) (by decide), Option.bind_some, M_app1 (by decide) (by decide), Option.bind_some, M_app1 (by decide) (by decide), Option.bind_some, M_app1 (by decide) (by decide), Option.bind_some, M_app0, Option.bind_some, M_app0, Option.bind_some]
  rfl
theorem M_w2 {F : Nat} {I J : MI} : f_M_word F 102 108 111 119 0 0 0 I J = some 127274 := by
  unfold f_M_word
  rw [M_app1 (by decide) (by decide), Option.bind_some, M_app1 (by decide) (by decide), Option.bind_some, M_app1 (by decide) (by decide), Option.bind_some, M_app1 (by decide) (by decide), Option.bind_some, M_app0, Option.bind_some, M_app0, Option.bind_some, M_app0, Option.bind_some]
  rfl
theorem M_w3 {F : Nat} {I J : MI} : f_M_word F 108 101 97 112 0 0 0 I J = some 239884 := by
  unfold f_M_word
  rw [M_app1 (by decide) (by decide), Option.bind_some, M_app1 (by decide) (by decide), Option.bind_some, M_app1 (by decide) (by decide), Option.bind_some, M_app1 (by decide) (by decide), Option.bind_some, M_app0, Option.bind_some, M_app0, Option.bind_some, M_app0, Option.bind_some]
  rfl
theorem M_w4 {F : Nat} {I J : MI} : f_M_word F 108 101 97 118 101 114 0 I J = some 174879963 := by
  unfold f_M_word
  rw [M_app1 (by decide) (by decide), Option.bind_some, M_app1 (by decide) (by decide), Option.bind_some, M_app1 (by decide) (by decide), Option.bind_some, M_app1 (by decide) (by decide), Option.bind_some, M_app1 (by decide) (by decide), Option.bind_some, M_app1 (by decide) (by decide), Option.bind_some, M_app0, Option.bind_some]
  rfl
theorem M_w5 {F : Nat} {I J : MI} : f_M_word F 102 108 111 111 100 0 0 I J = some 3436186 := by
  unfold f_M_word
  rw [M_app1 (by decide) (by decide), Option.bind_some, M_app1 (by decide) (by decide), Option.bind_some, M_app1 (by decide) (by decide), Option.bind_some, M_app1 (by decide) (by decide), Option.bind_some, M_app1 (by decide) (by decide), Option.bind_some, M_app0, Option.bind_some, M_app0, Option.bind_some]
  rfl
theorem M_w6 {F : Nat} {I J : MI} : f_M_word F 99 97 114 114 121 0 0 I J = some 1627639 := by
  unfold f_M_word
  rw [M_app1 (by decide) (by decide), Option.bind_some, M_app1 (by decide) (by decide), Option.bind_some, M_app1 (by decide) (by decide), Option.bind_some, M_app1 (by decide) (by decide), Option.bind_some, M_app1 (by decide) (by decide), Option.bind_some, M_app0, Option.bind_some, M_app0, Option.bind_some]
  rfl
theorem M_w7 {F : Nat} {I J : MI} : f_M_word F 115 108 105 112 0 0 0 I J = some 382984 := by
  unfold f_M_word
  rw [M_app1 (by decide) (by decide), Option.bind_some, M_app1 (by decide) (by decide), Option.bind_some, M_app1 (by decide) (by decide), Option.bind_some, M_app1 (by decide) (by decide), Option.bind_some, M_app0, Option.bind_some, M_app0, Option.bind_some, M_app0, Option.bind_some]
  rfl
theorem M_w8 {F : Nat} {I J : MI} : f_M_word F 105 102 0 0 0 0 0 I J = some 249 := by
  unfold f_M_word
  rw [M_app1 (by decide) (by decide), Option.bind_some, M_app1 (by decide) (by decide), Option.bind_some, M_app0, Option.bind_some, M_app0, Option.bind_some, M_app0, Option.bind_some, M_app0, Option.bind_some, M_app0, Option.bind_some]
  rfl
theorem M_w9 {F : Nat} {I J : MI} : f_M_word F 116 104 101 110 0 0 0 I J = some 399641 := by
  unfold f_M_word
  rw [M_app1 (by decide) (by decide), Option.bind_some, M_app1 (by decide) (by decide), Option.bind_some, M_app1 (by decide) (by decide), Option.bind_some, M_app1 (by decide) (by decide), Option.bind_some, M_app0, Option.bind_some, M_app0, Option.bind_some, M_app0, Option.bind_some]
  rfl
theorem M_w10 {F : Nat} {I J : MI} : f_M_word F 101 108 115 101 0 0 0 I J = some 107681 := by
  unfold f_M_word
  rw [M_app1 (by decide) (by decide), Option.bind_some, M_app1 (by decide) (by decide), Option.bind_some, M_app1 (by decide) (by decide), Option.bind_some, M_app1 (by decide) (by decide), Option.bind_some, M_app0, Option.bind_some, M_app0, Option.bind_some, M_app0, Option.bind_some]
  rfl
theorem M_w11 {F : Nat} {I J : MI} : f_M_word F 115 116 111 110 101 115 0 I J = some 283563658 := by
  unfold f_M_word
  rw [M_app1 (by decide) (by decide), Option.bind_some, M_app1 (by decide) (by decide), Option.bind_some, M_app1 (by decide) (by decide), Option.bind_some, M_app1 (by decide) (by decide), Option.bind_some, M_app1 (by decide) (by decide), Option.bind_some, M_app1 (by decide) (by decide), Option.bind_some, M_app0, Option.bind_some]
  rfl
theorem M_w12 {F : Nat} {I J : MI} : f_M_word F 100 101 101 112 0 0 0 I J = some 82528 := by
  unfold f_M_word
  rw [M_app1 (by decide) (by decide), Option.bind_some, M_app1 (by decide) (by decide), Option.bind_some, M_app1 (by decide) (by decide), Option.bind_some, M_app1 (by decide) (by decide), Option.bind_some, M_app0, Option.bind_some, M_app0, Option.bind_some, M_app0, Option.bind_some]
  rfl
theorem M_w13 {F : Nat} {I J : MI} : f_M_word F 102 111 114 99 101 0 0 I J = some 3497099 := by
  unfold f_M_word
  rw [M_app1 (by decide) (by decide), Option.bind_some, M_app1 (by decide) (by decide), Option.bind_some, M_app1 (by decide) (by decide), Option.bind_some, M_app1 (by decide) (by decide), Option.bind_some, M_app1 (by decide) (by decide), Option.bind_some, M_app0, Option.bind_some, M_app0, Option.bind_some]
  rfl
theorem M_w14 {F : Nat} {I J : MI} : f_M_word F 109 111 115 115 0 0 0 I J = some 267346 := by
  unfold f_M_word
  rw [M_app1 (by decide) (by decide), Option.bind_some, M_app1 (by decide) (by decide), Option.bind_some, M_app1 (by decide) (by decide), Option.bind_some, M_app1 (by decide) (by decide), Option.bind_some, M_app0, Option.bind_some, M_app0, Option.bind_some, M_app0, Option.bind_some]
  rfl
theorem M_w15 {F : Nat} {I J : MI} : f_M_word F 97 99 114 111 115 115 0 I J = some 16308991 := by
  unfold f_M_word
  rw [M_app1 (by decide) (by decide), Option.bind_some, M_app1 (by decide) (by decide), Option.bind_some, M_app1 (by decide) (by decide), Option.bind_some, M_app1 (by decide) (by decide), Option.bind_some, M_app1 (by decide) (by decide), Option.bind_some, M_app1 (by decide) (by decide), Option.bind_some, M_app0, Option.bind_some]
  rfl
theorem M_w16 {F : Nat} {I J : MI} : f_M_word F 97 108 111 110 103 0 0 I J = some 778957 := by
  unfold f_M_word
  rw [M_app1 (by decide) (by decide), Option.bind_some, M_app1 (by decide) (by decide), Option.bind_some, M_app1 (by decide) (by decide), Option.bind_some, M_app1 (by decide) (by decide), Option.bind_some, M_app1 (by decide) (by decide), Option.bind_some, M_app0, Option.bind_some, M_app0, Option.bind_some]
  rfl
theorem keyq_0 {J : MI} : KeyQ ((up2 (up2 (up2 (up2 (up2 (up2 (up2 (up2 (up2 (up2 (up2 (up2 (up2 (up2 (up2 (up2 (up2 J 303 0 9759276) 303 1 2236391) 303 2 127274) 303 3 239884) 303 4 174879963) 303 5 3436186) 303 6 1627639) 303 7 382984) 303 8 249) 303 9 399641) 303 10 107681) 303 11 283563658) 303 12 82528) 303 13 3497099) 303 14 267346) 303 15 16308991) 303 16 778957)) := by
  intro k hk
  have h : k = 0 ∨ k = 1 ∨ k = 2 ∨ k = 3 ∨ k = 4 ∨ k = 5 ∨ k = 6 ∨ k = 7 ∨ k = 8 ∨ k = 9 ∨ k = 10 ∨ k = 11 ∨ k = 12 ∨ k = 13 ∨ k = 14 ∨ k = 15 ∨ k = 16 := by omega
  rcases h with h | h | h | h | h | h | h | h | h | h | h | h | h | h | h | h | h <;> (subst h; simp [up2]; rfl)
theorem gm_r {G : Nat → Nat → Nat} {z n x y : Nat} (h : x ≠ z) : gM G z n x y = G x y := if_neg (fun h' => h h'.1)
set_option maxRecDepth 100000 in
set_option maxHeartbeats 4000000 in
theorem gx_hi : ∀ a k, 295 < a → gx_80 a k = 0 := by
  intro a k h
  simp (disch := omega) only [gx_80, gx_79, gx_78, gx_77, gx_76, gx_75, gx_74, gx_73, gx_72, gx_71, gx_70, gx_69, gx_68, gx_67, gx_66, gx_65, gx_64, gx_63, gx_62, gx_61, gx_60, gx_59, gx_58, gx_57, gx_56, gx_55, gx_54, gx_53, gx_52, gx_51, gx_50, gx_49, gx_48, gx_47, gx_46, gx_45, gx_44, gx_43, gx_42, gx_41, gx_40, gx_39, gx_38, gx_37, gx_36, gx_35, gx_34, gx_33, gx_32, gx_31, gx_30, gx_29, gx_28, gx_27, gx_26, gx_25, gx_24, gx_23, gx_22, gx_21, gx_20, gx_19, gx_18, gx_17, gx_16, gx_15, gx_14, gx_13, gx_12, gx_11, gx_10, gx_9, gx_8, gx_7, gx_6, gx_5, gx_4, gx_3, gx_2, gx_1, gx_0, g_B, g_W, g_T, g_K, g_E, g_R, g_Y, g_F, g_V, up2_r, gm_r]
theorem X_clear {F rv : Nat} (hrv : rv = 11 ∨ rv = 30) {I : MI} : ∃ I', f_R_clear F rv I = some I' ∧ RivX I' rv riv0 ∧ ∀ a, a ≠ rv → a ≠ rv + 1 → a ≠ rv + 2 → a ≠ rv + 9 → a ≠ rv + 14 → I' a = I a := by
  refine ⟨_, rfl, ⟨?_, ?_, ?_, ?_, ?_, fun c hc => ?_, fun y hy => ?_, fun m h => absurd h (by show ¬ (m : Int) < 0; omega), fun f h => absurd h (by show ¬ (f : Int) < 0; omega), ⟨noLaw_B, Or.inl ⟨?_, rfl⟩⟩, ⟨noLaw_B, Or.inl ⟨?_, rfl⟩⟩⟩, fun a h1 h2 h3 h4 h5 => ?_⟩
  · simp [up2, fillA]; rfl
  · simp [up2, fillA]; rfl
  · simp [up2, fillA]; rfl
  · simp [up2, fillA]; rfl
  · simp [up2, fillA]; rfl
  · simp [up2, fillA, hc]; rfl
  · simp [up2, fillA, hy]; rfl
  · rw [up2_r (by omega), up2_same]
  · rw [up2_same]
  · funext k
    rw [up2_r h5, up2_r h4, up2_r h1, up2_r h1]
    unfold fillA
    rw [if_neg (fun h => h3 h.1), if_neg (fun h => h2 h.1), up2_r h1, up2_r h1, up2_r h1]
def j0 : MI := (up2 (up2 (up2 (up2 (up2 (up2 (up2 (up2 (up2 (up2 (up2 (up2 (up2 (up2 (up2 (up2 (up2 (fun _ _ => 0) 303 0 9759276) 303 1 2236391) 303 2 127274) 303 3 239884) 303 4 174879963) 303 5 3436186) 303 6 1627639) 303 7 382984) 303 8 249) 303 9 399641) 303 10 107681) 303 11 283563658) 303 12 82528) 303 13 3497099) 303 14 267346) 303 15 16308991) 303 16 778957)
theorem keyq_j0 : KeyQ j0 := keyq_0 (J := fun _ _ => 0)
theorem bg_q : BG InvQ := by
  have hF := FU_big
  obtain ⟨I0, e0, r0, f0⟩ := X_clear (F := FU) (rv := 11) (Or.inl rfl) (I := up2 (fun _ _ => 0) 1 2 (-1))
  obtain ⟨I1, e1, b1, b2, b3, b4, b5, b6, b7⟩ := X_begin (F := FU) (rv := 11) (I := I0) (ρ := riv0) hF
  have z1 : ∀ a, (a < 49 ∨ 55 < a) → a ≠ 63 → a ≠ 1 → a ≠ 241 → a ≠ 11 → a ≠ 12 → a ≠ 13 → a ≠ 20 → a ≠ 25 → ∀ k, I1 a k = 0 := fun a h1 h2 h3 h4 h5 h6 h7 h8 h9 k => by
    rw [b7 a h1 h2 h3 h4, f0 a h5 h6 h7 h8 h9, up2_r h3]
  obtain ⟨q0, e2, r2, f2⟩ := M_plain (F := FU) (lv := 0) hF (by omega) (I := up2 I1 296 17 (-1)) (J := fun _ _ => 0)
  obtain ⟨q, e3, n3, f3⟩ := M_begin (F := FU) hF (I := q0) (J := j0)
  have g1 : ∀ a, a ≠ 331 → a ≠ 296 → (a < 305 ∨ 320 < a) → q a = I1 a := fun a h1 h2 h3 => by
    rw [f3 a h1, f2 a h3]
    funext k
    rw [up2_r h2]
  have g296 : ∀ k, k ≠ 17 → q 296 k = 0 := fun k hk => by
    rw [f3 296 (by decide), f2 296 (by omega), up2_k hk]
    exact z1 296 (by omega) (by omega) (by omega) (by omega) (by omega) (by omega) (by omega) (by omega) (by omega) k
  have inv : InvQ 0 q j0 11 30 := by
   refine ⟨riv0, bs0, 0, Or.inl ⟨rfl, rfl⟩, riv0_ok, ?_, ?_, ?_, ?_, n3, ?_, ?_, ?_, ?_, ?_, ?_, keyq_j0⟩
   · refine rivx_congr r0 (fun a h1 h2 h3 h4 => ?_)
     rw [g1 a (by omega) (by omega) (by omega), b7 a (by omega) (by omega) (by omega) (by omega)]
   · exact rivm_congr r2 (fun a h1 h2 => f3 a (by omega))
   · exact g296 18 (by decide)
   · exact bedq_congr b1 (fun a h1 h2 => g1 a (by omega) (by omega) (by omega))
   · show bs0.1 240 ≤ 100 * ((0 : Nat) : Int)
     decide
   · refine ⟨0, by omega, ?_, g296 2 (by decide), fun k hk => absurd hk (by omega)⟩
     rw [g1 2 (by omega) (by omega) (by omega)]
     exact z1 2 (by omega) (by omega) (by omega) (by omega) (by omega) (by omega) (by omega) (by omega) (by omega) 1
   · show q 1 2 = q 296 17
     rw [g1 1 (by omega) (by omega) (by omega), b5 2 (by decide), f0 1 (by omega) (by omega) (by omega) (by omega) (by omega), up2_same, f3 296 (by decide), f2 296 (by omega), up2_same]
   · refine ⟨0, 0, by omega, by omega, ?_, ?_, g296 55 (by decide), fun i hi => absurd hi (by omega)⟩
     · rw [g1 63 (by omega) (by omega) (by omega), b3 1 (by decide), f0 63 (by omega) (by omega) (by omega) (by omega) (by omega), up2_r (by decide)]; rfl
     · rw [g1 63 (by omega) (by omega) (by omega), b2]; rfl
   · intro i hi
     have h1 : q 241 i = 0 := by rw [g1 241 (by omega) (by omega) (by omega)]; exact b6 i hi
     have h2 : q 352 i = 0 := by
       rw [g1 352 (by omega) (by omega) (by omega)]
       exact z1 352 (by omega) (by omega) (by omega) (by omega) (by omega) (by omega) (by omega) (by omega) (by omega) i
     exact ⟨by rw [h1, h2], Or.inl h1, fun h => by rw [h1] at h; exact absurd h (by decide)⟩
   · refine ⟨0, by omega, ?_, g296 76 (by decide), fun i hi => absurd hi (by omega)⟩
     rw [g1 1 (by omega) (by omega) (by omega), b4]; rfl
  refine ⟨I1, (q, j0), ?_, fun a k ha => ⟨z1 a (by omega) (by omega) (by omega) (by omega) (by omega) (by omega) (by omega) (by omega) (by omega) k, rfl, gx_hi a k ha⟩, ?_, inv⟩
  · unfold f_X_init
    rw [e0, Option.bind_some, e1]
  · show f_M_init FU I1 (fun _ _ => 0) = some (q, j0)
    unfold f_M_init
    rw [show f_M_plain FU 0 (up2 I1 296 17 (-1)) (fun _ _ => 0) = some q0 from e2, Option.bind_some, M_w0, Option.bind_some, M_w1, Option.bind_some, M_w2, Option.bind_some, M_w3, Option.bind_some, M_w4, Option.bind_some, M_w5, Option.bind_some, M_w6, Option.bind_some, M_w7, Option.bind_some, M_w8, Option.bind_some, M_w9, Option.bind_some, M_w10, Option.bind_some, M_w11, Option.bind_some, M_w12, Option.bind_some, M_w13, Option.bind_some, M_w14, Option.bind_some, M_w15, Option.bind_some, M_w16, Option.bind_some]
    have e3' : f_M_begins FU q0 (up2 (up2 (up2 (up2 (up2 (up2 (up2 (up2 (up2 (up2 (up2 (up2 (up2 (up2 (up2 (up2 (up2 (fun _ _ => 0) 303 0 9759276) 303 1 2236391) 303 2 127274) 303 3 239884) 303 4 174879963) 303 5 3436186) 303 6 1627639) 303 7 382984) 303 8 249) 303 9 399641) 303 10 107681) 303 11 283563658) 303 12 82528) 303 13 3497099) 303 14 267346) 303 15 16308991) 303 16 778957) = some q := e3
    rw [e3', Option.bind_some]
    rfl
