theorem wArB : Cond.arrayClass .byte ∈ lw_g := tin1 44 (by rfl) rfl
theorem wArI : Cond.arrayClass .int ∈ lw_g := tin1 74 (by rfl) rfl
theorem wOvobject : Cond.arrayOver (.object "FarewellStones$Bed") ∈ lw_n := nin2 6 (by rfl) rfl
theorem wArZ : Cond.arrayClass .boolean ∈ lw_g := tin2 50 (by rfl) rfl
theorem wOvarray : Cond.arrayOver (.array .int) ∈ lw_n := nin2 80 (by rfl) rfl
theorem wArL : Cond.arrayClass .long ∈ lw_g := tin6 180 (by rfl) rfl
theorem wOi : Cond.instanceMethod objectInit ∈ lw_g := tin1 27 (by rfl) rfl
theorem wOc : Cond.code objectInit ⟨#[0xb1]⟩ 1 none ∈ lw_g := tin1 28 (by rfl) rfl
theorem wIns0 : Cond.instantiable RX0 7 ∈ lw_g := tin1 208 (by rfl) rfl
theorem wDf0 : ∀ j, j < 7 → defaultValue (tyX0 j) = if FK 0 j = true then .null else vI 0 := by
  intro j hj
  match j, hj with
  | 0, _ => rfl
  | 1, _ => rfl
  | 2, _ => rfl
  | 3, _ => rfl
  | 4, _ => rfl
  | 5, _ => rfl
  | 6, _ => rfl
  | n + 7, h => exact absurd h (by omega)
theorem mw_B_init : MW yX0_init cX0_init 1 none 0 := ⟨tin1 211 (by rfl) rfl, ⟨nh_0.1, nh_0.2, by decide +kernel⟩, ini_0, by decide, pn_0⟩
theorem im_B_init : Cond.instanceMethod yX0_init ∈ lw_g := tin1 210 (by rfl) rfl
theorem wIns1 : Cond.instantiable RX1 5 ∈ lw_g := tin2 52 (by rfl) rfl
theorem wDf1 : ∀ j, j < 5 → defaultValue (tyX1 j) = if FK 1 j = true then .null else vI 0 := by
  intro j hj
  match j, hj with
  | 0, _ => rfl
  | 1, _ => rfl
  | 2, _ => rfl
  | 3, _ => rfl
  | 4, _ => rfl
  | n + 5, h => exact absurd h (by omega)
theorem mw_F_init : MW yX1_init cX1_init 1 none 0 := ⟨tin2 55 (by rfl) rfl, ⟨nh_1.1, nh_1.2, by decide +kernel⟩, ini_1, by decide, pn_1⟩
theorem im_F_init : Cond.instanceMethod yX1_init ∈ lw_g := tin2 54 (by rfl) rfl
theorem wIns2 : Cond.instantiable RX2 13 ∈ lw_g := tin2 74 (by rfl) rfl
theorem wDf2 : ∀ j, j < 13 → defaultValue (tyX2 j) = if FK 2 j = true then .null else vI 0 := by
  intro j hj
  match j, hj with
  | 0, _ => rfl
  | 1, _ => rfl
  | 2, _ => rfl
  | 3, _ => rfl
  | 4, _ => rfl
  | 5, _ => rfl
  | 6, _ => rfl
  | 7, _ => rfl
  | 8, _ => rfl
  | 9, _ => rfl
  | 10, _ => rfl
  | 11, _ => rfl
  | 12, _ => rfl
  | n + 13, h => exact absurd h (by omega)
theorem mw_V_init : MW yX2_init cX2_init 1 none 0 := ⟨tin2 77 (by rfl) rfl, ⟨nh_2.1, nh_2.2, by decide +kernel⟩, ini_2, by decide, pn_2⟩
theorem im_V_init : Cond.instanceMethod yX2_init ∈ lw_g := tin2 76 (by rfl) rfl
theorem wIns3 : Cond.instantiable RX3 5 ∈ lw_g := tin1 107 (by rfl) rfl
theorem wDf3 : ∀ j, j < 5 → defaultValue (tyX3 j) = if FK 3 j = true then .null else vI 0 := by
  intro j hj
  match j, hj with
  | 0, _ => rfl
  | 1, _ => rfl
  | 2, _ => rfl
  | 3, _ => rfl
  | 4, _ => rfl
  | n + 5, h => exact absurd h (by omega)
theorem mw_W_init : MW yX3_init cX3_init 1 none 0 := ⟨tin1 110 (by rfl) rfl, ⟨nh_3.1, nh_3.2, by decide +kernel⟩, ini_3, by decide, pn_3⟩
theorem im_W_init : Cond.instanceMethod yX3_init ∈ lw_g := tin1 109 (by rfl) rfl
theorem wIns4 : Cond.instantiable RX4 3 ∈ lw_g := tin2 0 (by rfl) rfl
theorem wDf4 : ∀ j, j < 3 → defaultValue (tyX4 j) = if FK 4 j = true then .null else vI 0 := by
  intro j hj
  match j, hj with
  | 0, _ => rfl
  | 1, _ => rfl
  | 2, _ => rfl
  | n + 3, h => exact absurd h (by omega)
theorem mw_P_init : MW yX4_init cX4_init 2 none 0 := ⟨tin2 3 (by rfl) rfl, ⟨nh_4.1, nh_4.2, by decide +kernel⟩, ini_4, by decide, pn_4⟩
theorem im_P_init : Cond.instanceMethod yX4_init ∈ lw_g := tin2 2 (by rfl) rfl
theorem wIns5 : Cond.instantiable RX5 8 ∈ lw_g := tin1 46 (by rfl) rfl
theorem wDf5 : ∀ j, j < 8 → defaultValue (tyX5 j) = if FK 5 j = true then .null else vI 0 := by
  intro j hj
  match j, hj with
  | 0, _ => rfl
  | 1, _ => rfl
  | 2, _ => rfl
  | 3, _ => rfl
  | 4, _ => rfl
  | 5, _ => rfl
  | 6, _ => rfl
  | 7, _ => rfl
  | n + 8, h => exact absurd h (by omega)
theorem mw_E_init : MW yX5_init cX5_init 1 none 0 := ⟨tin1 49 (by rfl) rfl, ⟨nh_5.1, nh_5.2, by decide +kernel⟩, ini_5, by decide, pn_5⟩
theorem im_E_init : Cond.instanceMethod yX5_init ∈ lw_g := tin1 48 (by rfl) rfl
theorem wIns6 : Cond.instantiable RX6 15 ∈ lw_g := tin1 101 (by rfl) rfl
theorem wDf6 : ∀ j, j < 15 → defaultValue (tyX6 j) = if FK 6 j = true then .null else vI 0 := by
  intro j hj
  match j, hj with
  | 0, _ => rfl
  | 1, _ => rfl
  | 2, _ => rfl
  | 3, _ => rfl
  | 4, _ => rfl
  | 5, _ => rfl
  | 6, _ => rfl
  | 7, _ => rfl
  | 8, _ => rfl
  | 9, _ => rfl
  | 10, _ => rfl
  | 11, _ => rfl
  | 12, _ => rfl
  | 13, _ => rfl
  | 14, _ => rfl
  | n + 15, h => exact absurd h (by omega)
theorem mw_R_init : MW yX6_init cX6_init 1 none 0 := ⟨tin1 104 (by rfl) rfl, ⟨nh_6.1, nh_6.2, by decide +kernel⟩, ini_6, by decide, pn_6⟩
theorem im_R_init : Cond.instanceMethod yX6_init ∈ lw_g := tin1 103 (by rfl) rfl
theorem wIns7 : Cond.instantiable RX7 2 ∈ lw_g := tin1 30 (by rfl) rfl
theorem wDf7 : ∀ j, j < 2 → defaultValue (tyX7 j) = if FK 7 j = true then .null else vI 0 := by
  intro j hj
  match j, hj with
  | 0, _ => rfl
  | 1, _ => rfl
  | n + 2, h => exact absurd h (by omega)
theorem mw_T_init : MW yX7_init cX7_init 1 none 0 := ⟨tin1 33 (by rfl) rfl, ⟨nh_7.1, nh_7.2, by decide +kernel⟩, ini_7, by decide, pn_7⟩
theorem im_T_init : Cond.instanceMethod yX7_init ∈ lw_g := tin1 32 (by rfl) rfl
theorem wIns8 : Cond.instantiable RX8 4 ∈ lw_g := tin1 52 (by rfl) rfl
theorem wDf8 : ∀ j, j < 4 → defaultValue (tyX8 j) = if FK 8 j = true then .null else vI 0 := by
  intro j hj
  match j, hj with
  | 0, _ => rfl
  | 1, _ => rfl
  | 2, _ => rfl
  | 3, _ => rfl
  | n + 4, h => exact absurd h (by omega)
theorem mw_K_init : MW yX8_init cX8_init 1 none 0 := ⟨tin1 55 (by rfl) rfl, ⟨nh_8.1, nh_8.2, by decide +kernel⟩, ini_8, by decide, pn_8⟩
theorem im_K_init : Cond.instanceMethod yX8_init ∈ lw_g := tin1 54 (by rfl) rfl
theorem wIns9 : Cond.instantiable RX9 6 ∈ lw_g := tin2 20 (by rfl) rfl
theorem wDf9 : ∀ j, j < 6 → defaultValue (tyX9 j) = if FK 9 j = true then .null else vI 0 := by
  intro j hj
  match j, hj with
  | 0, _ => rfl
  | 1, _ => rfl
  | 2, _ => rfl
  | 3, _ => rfl
  | 4, _ => rfl
  | 5, _ => rfl
  | n + 6, h => exact absurd h (by omega)
theorem mw_Y_init : MW yX9_init cX9_init 1 none 0 := ⟨tin2 23 (by rfl) rfl, ⟨nh_9.1, nh_9.2, by decide +kernel⟩, ini_9, by decide, pn_9⟩
theorem im_Y_init : Cond.instanceMethod yX9_init ∈ lw_g := tin2 22 (by rfl) rfl
theorem wIns10 : Cond.instantiable RX10 16 ∈ lw_g := tin1 22 (by rfl) rfl
theorem wDf10 : ∀ j, j < 16 → defaultValue (tyX10 j) = if FK 10 j = true then .null else vI 0 := by
  intro j hj
  match j, hj with
  | 0, _ => rfl
  | 1, _ => rfl
  | 2, _ => rfl
  | 3, _ => rfl
  | 4, _ => rfl
  | 5, _ => rfl
  | 6, _ => rfl
  | 7, _ => rfl
  | 8, _ => rfl
  | 9, _ => rfl
  | 10, _ => rfl
  | 11, _ => rfl
  | 12, _ => rfl
  | 13, _ => rfl
  | 14, _ => rfl
  | 15, _ => rfl
  | n + 16, h => exact absurd h (by omega)
theorem mw_X_init : MW yX10_init cX10_init 2 none 0 := ⟨tin1 25 (by rfl) rfl, ⟨nh_10.1, nh_10.2, by decide +kernel⟩, ini_10, by decide, pn_10⟩
theorem im_X_init : Cond.instanceMethod yX10_init ∈ lw_g := tin1 24 (by rfl) rfl
theorem wIns11 : Cond.instantiable RX11 81 ∈ lw_g := tin5 157 (by rfl) rfl
theorem wDf11 : ∀ j, j < 81 → defaultValue (tyX11 j) = if FK 11 j = true then .null else vI 0 := by
  intro j hj
  match j, hj with
  | 0, _ => rfl
  | 1, _ => rfl
  | 2, _ => rfl
  | 3, _ => rfl
  | 4, _ => rfl
  | 5, _ => rfl
  | 6, _ => rfl
  | 7, _ => rfl
  | 8, _ => rfl
  | 9, _ => rfl
  | 10, _ => rfl
  | 11, _ => rfl
  | 12, _ => rfl
  | 13, _ => rfl
  | 14, _ => rfl
  | 15, _ => rfl
  | 16, _ => rfl
  | 17, _ => rfl
  | 18, _ => rfl
  | 19, _ => rfl
  | 20, _ => rfl
  | 21, _ => rfl
  | 22, _ => rfl
  | 23, _ => rfl
  | 24, _ => rfl
  | 25, _ => rfl
  | 26, _ => rfl
  | 27, _ => rfl
  | 28, _ => rfl
  | 29, _ => rfl
  | 30, _ => rfl
  | 31, _ => rfl
  | 32, _ => rfl
  | 33, _ => rfl
  | 34, _ => rfl
  | 35, _ => rfl
  | 36, _ => rfl
  | 37, _ => rfl
  | 38, _ => rfl
  | 39, _ => rfl
  | 40, _ => rfl
  | 41, _ => rfl
  | 42, _ => rfl
  | 43, _ => rfl
  | 44, _ => rfl
  | 45, _ => rfl
  | 46, _ => rfl
  | 47, _ => rfl
  | 48, _ => rfl
  | 49, _ => rfl
  | 50, _ => rfl
  | 51, _ => rfl
  | 52, _ => rfl
  | 53, _ => rfl
  | 54, _ => rfl
  | 55, _ => rfl
  | 56, _ => rfl
  | 57, _ => rfl
  | 58, _ => rfl
  | 59, _ => rfl
  | 60, _ => rfl
  | 61, _ => rfl
  | 62, _ => rfl
  | 63, _ => rfl
  | 64, _ => rfl
  | 65, _ => rfl
  | 66, _ => rfl
  | 67, _ => rfl
  | 68, _ => rfl
  | 69, _ => rfl
  | 70, _ => rfl
  | 71, _ => rfl
  | 72, _ => rfl
  | 73, _ => rfl
  | 74, _ => rfl
  | 75, _ => rfl
  | 76, _ => rfl
  | 77, _ => rfl
  | 78, _ => rfl
  | 79, _ => rfl
  | 80, _ => rfl
  | n + 81, h => exact absurd h (by omega)
theorem mw_M_init : MW yX11_init cX11_init 1 none 0 := ⟨tin5 160 (by rfl) rfl, ⟨nh_11.1, nh_11.2, by decide +kernel⟩, ini_11, by decide, pn_11⟩
theorem im_M_init : Cond.instanceMethod yX11_init ∈ lw_g := tin5 159 (by rfl) rfl
def g_B (G : Nat → Nat → Nat) (z : Nat) : Nat → Nat → Nat := (up2 (up2 (up2 (up2 (up2 (up2 G z 1 (z + 1)) z 2 (z + 2)) z 3 (z + 3)) z 4 (z + 4)) z 5 (z + 5)) z 6 (z + 6))
theorem fresh_B {z : Nat} {I J : MI} {G : Nat → Nat → Nat} (hf : fresh z I J G) : fresh (z + 6) I J (g_B G z) := by
  have hf1 := fresh_up (hf) (Nat.le_succ _)
  have hf2 := fresh_G (r := z) (k := 1) (v := z + 1) (hf1) (by omega)
  have hf3 := fresh_up (hf2) (Nat.le_succ _)
  have hf4 := fresh_G (r := z) (k := 2) (v := z + 2) (hf3) (by omega)
  have hf5 := fresh_up (hf4) (Nat.le_succ _)
  have hf6 := fresh_G (r := z) (k := 3) (v := z + 3) (hf5) (by omega)
  have hf7 := fresh_up (hf6) (Nat.le_succ _)
  have hf8 := fresh_G (r := z) (k := 4) (v := z + 4) (hf7) (by omega)
  have hf9 := fresh_up (hf8) (Nat.le_succ _)
  have hf10 := fresh_G (r := z) (k := 5) (v := z + 5) (hf9) (by omega)
  have hf11 := fresh_up (hf10) (Nat.le_succ _)
  have hf12 := fresh_G (r := z) (k := 6) (v := z + 6) (hf11) (by omega)
  exact hf12
set_option maxHeartbeats 1000000 in
theorem n_B {l : Launch} {g : GX} {z : Nat} {I J : MI} {G : Nat → Nat → Nat} (hf : fresh z I J G) (hs : SH (z) = (0, 7) ∧ SH (z + 1) = (20, 96) ∧ SH (z + 2) = (20, 96) ∧ SH (z + 3) = (20, 96) ∧ SH (z + 4) = (20, 72) ∧ SH (z + 5) = (20, 8) ∧ SH (z + 6) = (20, 8)) (hp : 0 < z) : Spec l g 1 yX0_init cX0_init 1 none [vR g z] (z, I, J, G) none True (z + 6, I, J, g_B G z) := by
  refine spec_of (μ := (cX0_init, RX0, 1, 1, "<init>")) (k := 0) (L0 := [some (vR g z)]) rfl mw_B_init rfl rfl (by show z ≤ z + 6; omega) (fun φ hb hE => ?_)
  replace hb : cb φ = z + 6 := hb
  refine z_aload_n dX0_init_0 rfl ?_
  refine z_objI dX0_init_1 (tin1 212 (by rfl) rfl) wOi wOc rfl rfl ?_
  refine z_aload_n dX0_init_4 rfl ?_
  refine z_bipush dX0_init_5 (by decide +kernel) ?_
  refine z_newa (kd := 0) (n := 96) (ty := .int) dX0_init_7 rfl rfl (fun U cA h => h) rfl (inRd (by decide)) wArI (by decide) (hs.2.1) (by decide) (by rw [hb]; show z + 1 ≤ z + 6; omega) (fun cA h => by rw [elt_arr (hs.2.1) (by omega) (by omega)]; rw [← h]; rfl) rfl (hf) ?_
  have hf1 := fresh_up (hf) (Nat.le_succ _)
  refine z_putFR (v := z + 1) (k := 1) dX0_init_9 cl0 hs.1 hp (by show z ≤ z + 1; omega) rfl rfl rfl rfl rfl (tin1 215 (by rfl) rfl) rfl rfl (Nat.succ_pos _) ?_
  have hf2 := fresh_G (r := z) (k := 1) (v := z + 1) (hf1) (by omega)
  show Zt _ _ _ _ 12 _ [] (z + 1, I, J, (up2 G z 1 (z + 1)))
  refine z_aload_n dX0_init_12 rfl ?_
  refine z_bipush dX0_init_13 (by decide +kernel) ?_
  refine z_newa (kd := 0) (n := 96) (ty := .int) dX0_init_15 rfl rfl (fun U cA h => h) rfl (inRd (by decide)) wArI (by decide) (hs.2.2.1) (by decide) (by rw [hb]; show z + 1 + 1 ≤ z + 6; omega) (fun cA h => by rw [elt_arr (hs.2.2.1) (by omega) (by omega)]; rw [← h]; rfl) rfl (hf2) ?_
  have hf3 := fresh_up (hf2) (Nat.le_succ _)
  refine z_putFR (v := z + 2) (k := 2) dX0_init_17 cl0 hs.1 hp (by show z ≤ z + 2; omega) rfl rfl rfl rfl rfl (tin1 217 (by rfl) rfl) rfl rfl (Nat.succ_pos _) ?_
  have hf4 := fresh_G (r := z) (k := 2) (v := z + 2) (hf3) (by omega)
  show Zt _ _ _ _ 20 _ [] (z + 2, I, J, (up2 (up2 G z 1 (z + 1)) z 2 (z + 2)))
  refine z_aload_n dX0_init_20 rfl ?_
  refine z_bipush dX0_init_21 (by decide +kernel) ?_
  refine z_newa (kd := 0) (n := 96) (ty := .int) dX0_init_23 rfl rfl (fun U cA h => h) rfl (inRd (by decide)) wArI (by decide) (hs.2.2.2.1) (by decide) (by rw [hb]; show z + 2 + 1 ≤ z + 6; omega) (fun cA h => by rw [elt_arr (hs.2.2.2.1) (by omega) (by omega)]; rw [← h]; rfl) rfl (hf4) ?_
  have hf5 := fresh_up (hf4) (Nat.le_succ _)
  refine z_putFR (v := z + 3) (k := 3) dX0_init_25 cl0 hs.1 hp (by show z ≤ z + 3; omega) rfl rfl rfl rfl rfl (tin1 218 (by rfl) rfl) rfl rfl (Nat.succ_pos _) ?_
  have hf6 := fresh_G (r := z) (k := 3) (v := z + 3) (hf5) (by omega)
  show Zt _ _ _ _ 28 _ [] (z + 3, I, J, (up2 (up2 (up2 G z 1 (z + 1)) z 2 (z + 2)) z 3 (z + 3)))
  refine z_aload_n dX0_init_28 rfl ?_
  refine z_bipush dX0_init_29 (by decide +kernel) ?_
  refine z_newa (kd := 0) (n := 72) (ty := .int) dX0_init_31 rfl rfl (fun U cA h => h) rfl (inRd (by decide)) wArI (by decide) (hs.2.2.2.2.1) (by decide) (by rw [hb]; show z + 3 + 1 ≤ z + 6; omega) (fun cA h => by rw [elt_arr (hs.2.2.2.2.1) (by omega) (by omega)]; rw [← h]; rfl) rfl (hf6) ?_
  have hf7 := fresh_up (hf6) (Nat.le_succ _)
  refine z_putFR (v := z + 4) (k := 4) dX0_init_33 cl0 hs.1 hp (by show z ≤ z + 4; omega) rfl rfl rfl rfl rfl (tin1 219 (by rfl) rfl) rfl rfl (Nat.succ_pos _) ?_
  have hf8 := fresh_G (r := z) (k := 4) (v := z + 4) (hf7) (by omega)
  show Zt _ _ _ _ 36 _ [] (z + 4, I, J, (up2 (up2 (up2 (up2 G z 1 (z + 1)) z 2 (z + 2)) z 3 (z + 3)) z 4 (z + 4)))
  refine z_aload_n dX0_init_36 rfl ?_
  refine z_bipush dX0_init_37 (by decide +kernel) ?_
  refine z_newa (kd := 0) (n := 8) (ty := .int) dX0_init_39 rfl rfl (fun U cA h => h) rfl (inRd (by decide)) wArI (by decide) (hs.2.2.2.2.2.1) (by decide) (by rw [hb]; show z + 4 + 1 ≤ z + 6; omega) (fun cA h => by rw [elt_arr (hs.2.2.2.2.2.1) (by omega) (by omega)]; rw [← h]; rfl) rfl (hf8) ?_
  have hf9 := fresh_up (hf8) (Nat.le_succ _)
  refine z_putFR (v := z + 5) (k := 5) dX0_init_41 cl0 hs.1 hp (by show z ≤ z + 5; omega) rfl rfl rfl rfl rfl (tin1 220 (by rfl) rfl) rfl rfl (Nat.succ_pos _) ?_
  have hf10 := fresh_G (r := z) (k := 5) (v := z + 5) (hf9) (by omega)
  show Zt _ _ _ _ 44 _ [] (z + 5, I, J, (up2 (up2 (up2 (up2 (up2 G z 1 (z + 1)) z 2 (z + 2)) z 3 (z + 3)) z 4 (z + 4)) z 5 (z + 5)))
  refine z_aload_n dX0_init_44 rfl ?_
  refine z_bipush dX0_init_45 (by decide +kernel) ?_
  refine z_newa (kd := 0) (n := 8) (ty := .int) dX0_init_47 rfl rfl (fun U cA h => h) rfl (inRd (by decide)) wArI (by decide) (hs.2.2.2.2.2.2) (by decide) (by rw [hb]; show z + 5 + 1 ≤ z + 6; omega) (fun cA h => by rw [elt_arr (hs.2.2.2.2.2.2) (by omega) (by omega)]; rw [← h]; rfl) rfl (hf10) ?_
  have hf11 := fresh_up (hf10) (Nat.le_succ _)
  refine z_putFR (v := z + 6) (k := 6) dX0_init_49 cl0 hs.1 hp (by show z ≤ z + 6; omega) rfl rfl rfl rfl rfl (tin1 222 (by rfl) rfl) rfl rfl (Nat.succ_pos _) ?_
  have hf12 := fresh_G (r := z) (k := 6) (v := z + 6) (hf11) (by omega)
  show Zt _ _ _ _ 52 _ [] (z + 6, I, J, (up2 (up2 (up2 (up2 (up2 (up2 G z 1 (z + 1)) z 2 (z + 2)) z 3 (z + 3)) z 4 (z + 4)) z 5 (z + 5)) z 6 (z + 6)))
  exact z_vret dX0_init_52 hE trivial rfl
def g_W (G : Nat → Nat → Nat) (z : Nat) : Nat → Nat → Nat := (up2 (up2 (up2 (up2 G z 0 (z + 1)) z 1 (z + 2)) z 2 (z + 3)) z 3 (z + 4))
theorem fresh_W {z : Nat} {I J : MI} {G : Nat → Nat → Nat} (hf : fresh z I J G) : fresh (z + 4) I J (g_W G z) := by
  have hf1 := fresh_up (hf) (Nat.le_succ _)
  have hf2 := fresh_G (r := z) (k := 0) (v := z + 1) (hf1) (by omega)
  have hf3 := fresh_up (hf2) (Nat.le_succ _)
  have hf4 := fresh_G (r := z) (k := 1) (v := z + 2) (hf3) (by omega)
  have hf5 := fresh_up (hf4) (Nat.le_succ _)
  have hf6 := fresh_G (r := z) (k := 2) (v := z + 3) (hf5) (by omega)
  have hf7 := fresh_up (hf6) (Nat.le_succ _)
  have hf8 := fresh_G (r := z) (k := 3) (v := z + 4) (hf7) (by omega)
  exact hf8
set_option maxHeartbeats 1000000 in
theorem n_W {l : Launch} {g : GX} {z : Nat} {I J : MI} {G : Nat → Nat → Nat} (hf : fresh z I J G) (hs : SH (z) = (3, 5) ∧ SH (z + 1) = (20, 402) ∧ SH (z + 2) = (20, 402) ∧ SH (z + 3) = (20, 32) ∧ SH (z + 4) = (20, 6)) (hp : 0 < z) : Spec l g 1 yX3_init cX3_init 1 none [vR g z] (z, I, J, G) none True (z + 4, I, J, g_W G z) := by
  refine spec_of (μ := (cX3_init, RX3, 1, 1, "<init>")) (k := 0) (L0 := [some (vR g z)]) rfl mw_W_init rfl rfl (by show z ≤ z + 4; omega) (fun φ hb hE => ?_)
  replace hb : cb φ = z + 4 := hb
  refine z_aload_n dX3_init_0 rfl ?_
  refine z_objI dX3_init_1 (tin1 111 (by rfl) rfl) wOi wOc rfl rfl ?_
  refine z_aload_n dX3_init_4 rfl ?_
  refine z_sipush dX3_init_5 (by decide +kernel) ?_
  refine z_newa (kd := 0) (n := 402) (ty := .int) dX3_init_8 rfl rfl (fun U cA h => h) rfl (inRd (by decide)) wArI (by decide) (hs.2.1) (by decide) (by rw [hb]; show z + 1 ≤ z + 4; omega) (fun cA h => by rw [elt_arr (hs.2.1) (by omega) (by omega)]; rw [← h]; rfl) rfl (hf) ?_
  have hf1 := fresh_up (hf) (Nat.le_succ _)
  refine z_putFR (v := z + 1) (k := 0) dX3_init_10 cl3 hs.1 hp (by show z ≤ z + 1; omega) rfl rfl rfl rfl rfl (tin1 112 (by rfl) rfl) rfl rfl (Nat.succ_pos _) ?_
  have hf2 := fresh_G (r := z) (k := 0) (v := z + 1) (hf1) (by omega)
  show Zt _ _ _ _ 13 _ [] (z + 1, I, J, (up2 G z 0 (z + 1)))
  refine z_aload_n dX3_init_13 rfl ?_
  refine z_sipush dX3_init_14 (by decide +kernel) ?_
  refine z_newa (kd := 0) (n := 402) (ty := .int) dX3_init_17 rfl rfl (fun U cA h => h) rfl (inRd (by decide)) wArI (by decide) (hs.2.2.1) (by decide) (by rw [hb]; show z + 1 + 1 ≤ z + 4; omega) (fun cA h => by rw [elt_arr (hs.2.2.1) (by omega) (by omega)]; rw [← h]; rfl) rfl (hf2) ?_
  have hf3 := fresh_up (hf2) (Nat.le_succ _)
  refine z_putFR (v := z + 2) (k := 1) dX3_init_19 cl3 hs.1 hp (by show z ≤ z + 2; omega) rfl rfl rfl rfl rfl (tin1 113 (by rfl) rfl) rfl rfl (Nat.succ_pos _) ?_
  have hf4 := fresh_G (r := z) (k := 1) (v := z + 2) (hf3) (by omega)
  show Zt _ _ _ _ 22 _ [] (z + 2, I, J, (up2 (up2 G z 0 (z + 1)) z 1 (z + 2)))
  refine z_aload_n dX3_init_22 rfl ?_
  refine z_bipush dX3_init_23 (by decide +kernel) ?_
  refine z_newa (kd := 0) (n := 32) (ty := .int) dX3_init_25 rfl rfl (fun U cA h => h) rfl (inRd (by decide)) wArI (by decide) (hs.2.2.2.1) (by decide) (by rw [hb]; show z + 2 + 1 ≤ z + 4; omega) (fun cA h => by rw [elt_arr (hs.2.2.2.1) (by omega) (by omega)]; rw [← h]; rfl) rfl (hf4) ?_
  have hf5 := fresh_up (hf4) (Nat.le_succ _)
  refine z_putFR (v := z + 3) (k := 2) dX3_init_27 cl3 hs.1 hp (by show z ≤ z + 3; omega) rfl rfl rfl rfl rfl (tin1 114 (by rfl) rfl) rfl rfl (Nat.succ_pos _) ?_
  have hf6 := fresh_G (r := z) (k := 2) (v := z + 3) (hf5) (by omega)
  show Zt _ _ _ _ 30 _ [] (z + 3, I, J, (up2 (up2 (up2 G z 0 (z + 1)) z 1 (z + 2)) z 2 (z + 3)))
  refine z_aload_n dX3_init_30 rfl ?_
  refine z_bipush dX3_init_31 (by decide +kernel) ?_
  refine z_newa (kd := 0) (n := 6) (ty := .int) dX3_init_33 rfl rfl (fun U cA h => h) rfl (inRd (by decide)) wArI (by decide) (hs.2.2.2.2) (by decide) (by rw [hb]; show z + 3 + 1 ≤ z + 4; omega) (fun cA h => by rw [elt_arr (hs.2.2.2.2) (by omega) (by omega)]; rw [← h]; rfl) rfl (hf6) ?_
  have hf7 := fresh_up (hf6) (Nat.le_succ _)
  refine z_putFR (v := z + 4) (k := 3) dX3_init_35 cl3 hs.1 hp (by show z ≤ z + 4; omega) rfl rfl rfl rfl rfl (tin1 115 (by rfl) rfl) rfl rfl (Nat.succ_pos _) ?_
  have hf8 := fresh_G (r := z) (k := 3) (v := z + 4) (hf7) (by omega)
  show Zt _ _ _ _ 38 _ [] (z + 4, I, J, (up2 (up2 (up2 (up2 G z 0 (z + 1)) z 1 (z + 2)) z 2 (z + 3)) z 3 (z + 4)))
  exact z_vret dX3_init_38 hE trivial rfl
def g_T (G : Nat → Nat → Nat) (z : Nat) : Nat → Nat → Nat := (up2 G z 0 (z + 1))
theorem fresh_T {z : Nat} {I J : MI} {G : Nat → Nat → Nat} (hf : fresh z I J G) : fresh (z + 1) I J (g_T G z) := by
  have hf1 := fresh_up (hf) (Nat.le_succ _)
  have hf2 := fresh_G (r := z) (k := 0) (v := z + 1) (hf1) (by omega)
  exact hf2
set_option maxHeartbeats 1000000 in
theorem n_T {l : Launch} {g : GX} {z : Nat} {I J : MI} {G : Nat → Nat → Nat} (hf : fresh z I J G) (hs : SH (z) = (7, 2) ∧ SH (z + 1) = (21, 2000)) (hp : 0 < z) : Spec l g 1 yX7_init cX7_init 1 none [vR g z] (z, I, J, G) none True (z + 1, I, J, g_T G z) := by
  refine spec_of (μ := (cX7_init, RX7, 1, 1, "<init>")) (k := 0) (L0 := [some (vR g z)]) rfl mw_T_init rfl rfl (by show z ≤ z + 1; omega) (fun φ hb hE => ?_)
  replace hb : cb φ = z + 1 := hb
  refine z_aload_n dX7_init_0 rfl ?_
  refine z_objI dX7_init_1 (tin1 34 (by rfl) rfl) wOi wOc rfl rfl ?_
  refine z_aload_n dX7_init_4 rfl ?_
  refine z_sipush dX7_init_5 (by decide +kernel) ?_
  refine z_newa (kd := 1) (n := 2000) (ty := .byte) dX7_init_8 rfl rfl (fun U cA h => h) rfl (inRd (by decide)) wArB (by decide) (hs.2) (by decide) (by rw [hb]; show z + 1 ≤ z + 1; omega) (fun cA h => by rw [elt_arr (hs.2) (by omega) (by omega)]; rw [← h]; rfl) rfl (hf) ?_
  have hf1 := fresh_up (hf) (Nat.le_succ _)
  refine z_putFR (v := z + 1) (k := 0) dX7_init_10 cl7 hs.1 hp (by show z ≤ z + 1; omega) rfl rfl rfl rfl rfl (tin1 35 (by rfl) rfl) rfl rfl (Nat.succ_pos _) ?_
  have hf2 := fresh_G (r := z) (k := 0) (v := z + 1) (hf1) (by omega)
  show Zt _ _ _ _ 13 _ [] (z + 1, I, J, (up2 G z 0 (z + 1)))
  exact z_vret dX7_init_13 hE trivial rfl
def g_K (G : Nat → Nat → Nat) (z : Nat) : Nat → Nat → Nat := (up2 (up2 (up2 (up2 G z 0 (z + 1)) z 1 (z + 2)) z 2 (z + 3)) z 3 (z + 4))
theorem fresh_K {z : Nat} {I J : MI} {G : Nat → Nat → Nat} (hf : fresh z I J G) : fresh (z + 4) I J (g_K G z) := by
  have hf1 := fresh_up (hf) (Nat.le_succ _)
  have hf2 := fresh_G (r := z) (k := 0) (v := z + 1) (hf1) (by omega)
  have hf3 := fresh_up (hf2) (Nat.le_succ _)
  have hf4 := fresh_G (r := z) (k := 1) (v := z + 2) (hf3) (by omega)
  have hf5 := fresh_up (hf4) (Nat.le_succ _)
  have hf6 := fresh_G (r := z) (k := 2) (v := z + 3) (hf5) (by omega)
  have hf7 := fresh_up (hf6) (Nat.le_succ _)
  have hf8 := fresh_G (r := z) (k := 3) (v := z + 4) (hf7) (by omega)
  exact hf8
set_option maxHeartbeats 1000000 in
theorem n_K {l : Launch} {g : GX} {z : Nat} {I J : MI} {G : Nat → Nat → Nat} (hf : fresh z I J G) (hs : SH (z) = (8, 4) ∧ SH (z + 1) = (20, 402) ∧ SH (z + 2) = (20, 402) ∧ SH (z + 3) = (20, 402) ∧ SH (z + 4) = (20, 402)) (hp : 0 < z) : Spec l g 1 yX8_init cX8_init 1 none [vR g z] (z, I, J, G) none True (z + 4, I, J, g_K G z) := by
  refine spec_of (μ := (cX8_init, RX8, 1, 1, "<init>")) (k := 0) (L0 := [some (vR g z)]) rfl mw_K_init rfl rfl (by show z ≤ z + 4; omega) (fun φ hb hE => ?_)
  replace hb : cb φ = z + 4 := hb
  refine z_aload_n dX8_init_0 rfl ?_
  refine z_objI dX8_init_1 (tin1 56 (by rfl) rfl) wOi wOc rfl rfl ?_
  refine z_aload_n dX8_init_4 rfl ?_
  refine z_sipush dX8_init_5 (by decide +kernel) ?_
  refine z_newa (kd := 0) (n := 402) (ty := .int) dX8_init_8 rfl rfl (fun U cA h => h) rfl (inRd (by decide)) wArI (by decide) (hs.2.1) (by decide) (by rw [hb]; show z + 1 ≤ z + 4; omega) (fun cA h => by rw [elt_arr (hs.2.1) (by omega) (by omega)]; rw [← h]; rfl) rfl (hf) ?_
  have hf1 := fresh_up (hf) (Nat.le_succ _)
  refine z_putFR (v := z + 1) (k := 0) dX8_init_10 cl8 hs.1 hp (by show z ≤ z + 1; omega) rfl rfl rfl rfl rfl (tin1 57 (by rfl) rfl) rfl rfl (Nat.succ_pos _) ?_
  have hf2 := fresh_G (r := z) (k := 0) (v := z + 1) (hf1) (by omega)
  show Zt _ _ _ _ 13 _ [] (z + 1, I, J, (up2 G z 0 (z + 1)))
  refine z_aload_n dX8_init_13 rfl ?_
  refine z_sipush dX8_init_14 (by decide +kernel) ?_
  refine z_newa (kd := 0) (n := 402) (ty := .int) dX8_init_17 rfl rfl (fun U cA h => h) rfl (inRd (by decide)) wArI (by decide) (hs.2.2.1) (by decide) (by rw [hb]; show z + 1 + 1 ≤ z + 4; omega) (fun cA h => by rw [elt_arr (hs.2.2.1) (by omega) (by omega)]; rw [← h]; rfl) rfl (hf2) ?_
  have hf3 := fresh_up (hf2) (Nat.le_succ _)
  refine z_putFR (v := z + 2) (k := 1) dX8_init_19 cl8 hs.1 hp (by show z ≤ z + 2; omega) rfl rfl rfl rfl rfl (tin1 59 (by rfl) rfl) rfl rfl (Nat.succ_pos _) ?_
  have hf4 := fresh_G (r := z) (k := 1) (v := z + 2) (hf3) (by omega)
  show Zt _ _ _ _ 22 _ [] (z + 2, I, J, (up2 (up2 G z 0 (z + 1)) z 1 (z + 2)))
  refine z_aload_n dX8_init_22 rfl ?_
  refine z_sipush dX8_init_23 (by decide +kernel) ?_
  refine z_newa (kd := 0) (n := 402) (ty := .int) dX8_init_26 rfl rfl (fun U cA h => h) rfl (inRd (by decide)) wArI (by decide) (hs.2.2.2.1) (by decide) (by rw [hb]; show z + 2 + 1 ≤ z + 4; omega) (fun cA h => by rw [elt_arr (hs.2.2.2.1) (by omega) (by omega)]; rw [← h]; rfl) rfl (hf4) ?_
  have hf5 := fresh_up (hf4) (Nat.le_succ _)
  refine z_putFR (v := z + 3) (k := 2) dX8_init_28 cl8 hs.1 hp (by show z ≤ z + 3; omega) rfl rfl rfl rfl rfl (tin1 61 (by rfl) rfl) rfl rfl (Nat.succ_pos _) ?_
  have hf6 := fresh_G (r := z) (k := 2) (v := z + 3) (hf5) (by omega)
  show Zt _ _ _ _ 31 _ [] (z + 3, I, J, (up2 (up2 (up2 G z 0 (z + 1)) z 1 (z + 2)) z 2 (z + 3)))
  refine z_aload_n dX8_init_31 rfl ?_
  refine z_sipush dX8_init_32 (by decide +kernel) ?_
  refine z_newa (kd := 0) (n := 402) (ty := .int) dX8_init_35 rfl rfl (fun U cA h => h) rfl (inRd (by decide)) wArI (by decide) (hs.2.2.2.2) (by decide) (by rw [hb]; show z + 3 + 1 ≤ z + 4; omega) (fun cA h => by rw [elt_arr (hs.2.2.2.2) (by omega) (by omega)]; rw [← h]; rfl) rfl (hf6) ?_
  have hf7 := fresh_up (hf6) (Nat.le_succ _)
  refine z_putFR (v := z + 4) (k := 3) dX8_init_37 cl8 hs.1 hp (by show z ≤ z + 4; omega) rfl rfl rfl rfl rfl (tin1 63 (by rfl) rfl) rfl rfl (Nat.succ_pos _) ?_
  have hf8 := fresh_G (r := z) (k := 3) (v := z + 4) (hf7) (by omega)
  show Zt _ _ _ _ 40 _ [] (z + 4, I, J, (up2 (up2 (up2 (up2 G z 0 (z + 1)) z 1 (z + 2)) z 2 (z + 3)) z 3 (z + 4)))
  exact z_vret dX8_init_40 hE trivial rfl
def g_E (G : Nat → Nat → Nat) (z : Nat) : Nat → Nat → Nat := (up2 (up2 (g_K G (z + 1)) z 0 (z + 1)) z 7 (z + 6))
theorem fresh_E {z : Nat} {I J : MI} {G : Nat → Nat → Nat} (hf : fresh z I J G) : fresh (z + 6) I J (g_E G z) := by
  have hf1 := fresh_up (hf) (Nat.le_succ _)
  have hf2 := fresh_K (hf1)
  have hf3 := fresh_G (r := z) (k := 0) (v := z + 1) (hf2) (by omega)
  have hf4 := fresh_up (hf3) (Nat.le_succ _)
  have hf5 := fresh_G (r := z) (k := 7) (v := z + 6) (hf4) (by omega)
  exact hf5
set_option maxHeartbeats 1000000 in
theorem n_E {l : Launch} {g : GX} {z : Nat} {I J : MI} {G : Nat → Nat → Nat} (hf : fresh z I J G) (hs : SH (z) = (5, 8) ∧ SH (z + 1) = (8, 4) ∧ SH (z + 2) = (20, 402) ∧ SH (z + 3) = (20, 402) ∧ SH (z + 4) = (20, 402) ∧ SH (z + 5) = (20, 402) ∧ SH (z + 6) = (20, 8)) (hp : 0 < z) : Spec l g 2 yX5_init cX5_init 1 none [vR g z] (z, I, J, G) none True (z + 6, I, J, g_E G z) := by
  refine spec_of (μ := (cX5_init, RX5, 1, 2, "<init>")) (k := 0) (L0 := [some (vR g z)]) rfl mw_E_init rfl rfl (by show z ≤ z + 6; omega) (fun φ hb hE => ?_)
  replace hb : cb φ = z + 6 := hb
  refine z_aload_n dX5_init_0 rfl ?_
  refine z_objI dX5_init_1 (tin1 50 (by rfl) rfl) wOi wOc rfl rfl ?_
  refine z_aload_n dX5_init_4 rfl ?_
  refine z_new dX5_init_5 cl8 wDf8 (tin1 51 (by rfl) rfl) wIns8 ini_8 (hs.2.1) (by rw [hb]; show z + 1 ≤ z + 6; omega) (hf) ?_
  have hf1 := fresh_up (hf) (Nat.le_succ _)
  refine z_dup dX5_init_8 rfl ?_
  refine z_callIN (As := []) (rest := [vR g (z + 1), vR g (z)]) (n_K (z := z + 1) (G := G) hf1 ⟨hs.2.1, hs.2.2.1, hs.2.2.2.1, hs.2.2.2.2.1, hs.2.2.2.2.2.1⟩ (Nat.succ_pos _)) dX5_init_9 mw_K_init (nin1 53 (by rfl) rfl) im_K_init rfl rfl rfl rfl rfl (by show z + 1 ≤ z + 1 + 4; omega) (by rw [hb]; show z + 1 + 4 ≤ z + 6; omega) (fun _ => ?_)
  have hf2 := fresh_K (hf1)
  show Zt _ _ _ _ 12 _ [vR g (z + 1), vR g (z)] (z + 5, I, J, (g_K G (z + 1)))
  refine z_putFR (v := z + 1) (k := 0) dX5_init_12 cl5 hs.1 hp (by show z ≤ z + 5; omega) rfl rfl rfl rfl rfl (tin1 75 (by rfl) rfl) rfl rfl (Nat.succ_pos _) ?_
  have hf3 := fresh_G (r := z) (k := 0) (v := z + 1) (hf2) (by omega)
  show Zt _ _ _ _ 15 _ [] (z + 5, I, J, (up2 (g_K G (z + 1)) z 0 (z + 1)))
  refine z_aload_n dX5_init_15 rfl ?_
  refine z_bipush dX5_init_16 (by decide +kernel) ?_
  refine z_newa (kd := 0) (n := 8) (ty := .int) dX5_init_18 rfl rfl (fun U cA h => h) rfl (inRd (by decide)) wArI (by decide) (hs.2.2.2.2.2.2) (by decide) (by rw [hb]; show z + 5 + 1 ≤ z + 6; omega) (fun cA h => by rw [elt_arr (hs.2.2.2.2.2.2) (by omega) (by omega)]; rw [← h]; rfl) rfl (hf3) ?_
  have hf4 := fresh_up (hf3) (Nat.le_succ _)
  refine z_putFR (v := z + 6) (k := 7) dX5_init_20 cl5 hs.1 hp (by show z ≤ z + 6; omega) rfl rfl rfl rfl rfl (tin1 82 (by rfl) rfl) rfl rfl (Nat.succ_pos _) ?_
  have hf5 := fresh_G (r := z) (k := 7) (v := z + 6) (hf4) (by omega)
  show Zt _ _ _ _ 23 _ [] (z + 6, I, J, (up2 (up2 (g_K G (z + 1)) z 0 (z + 1)) z 7 (z + 6)))
  exact z_vret dX5_init_23 hE trivial rfl
def g_R (G : Nat → Nat → Nat) (z : Nat) : Nat → Nat → Nat := (up2 (g_W (up2 (g_W (up2 (up2 (up2 (up2 (up2 (up2 (up2 (up2 G z 3 (z + 1)) z 4 (z + 2)) z 6 (z + 3)) z 7 (z + 4)) z 8 (z + 5)) z 9 (z + 6)) z 11 (z + 7)) z 12 (z + 8)) (z + 9)) z 13 (z + 9)) (z + 14)) z 14 (z + 14))
theorem fresh_R {z : Nat} {I J : MI} {G : Nat → Nat → Nat} (hf : fresh z I J G) : fresh (z + 18) I J (g_R G z) := by
  have hf1 := fresh_up (hf) (Nat.le_succ _)
  have hf2 := fresh_G (r := z) (k := 3) (v := z + 1) (hf1) (by omega)
  have hf3 := fresh_up (hf2) (Nat.le_succ _)
  have hf4 := fresh_G (r := z) (k := 4) (v := z + 2) (hf3) (by omega)
  have hf5 := fresh_up (hf4) (Nat.le_succ _)
  have hf6 := fresh_G (r := z) (k := 6) (v := z + 3) (hf5) (by omega)
  have hf7 := fresh_up (hf6) (Nat.le_succ _)
  have hf8 := fresh_G (r := z) (k := 7) (v := z + 4) (hf7) (by omega)
  have hf9 := fresh_up (hf8) (Nat.le_succ _)
  have hf10 := fresh_G (r := z) (k := 8) (v := z + 5) (hf9) (by omega)
  have hf11 := fresh_up (hf10) (Nat.le_succ _)
  have hf12 := fresh_G (r := z) (k := 9) (v := z + 6) (hf11) (by omega)
  have hf13 := fresh_up (hf12) (Nat.le_succ _)
  have hf14 := fresh_G (r := z) (k := 11) (v := z + 7) (hf13) (by omega)
  have hf15 := fresh_up (hf14) (Nat.le_succ _)
  have hf16 := fresh_G (r := z) (k := 12) (v := z + 8) (hf15) (by omega)
  have hf17 := fresh_up (hf16) (Nat.le_succ _)
  have hf18 := fresh_W (hf17)
  have hf19 := fresh_G (r := z) (k := 13) (v := z + 9) (hf18) (by omega)
  have hf20 := fresh_up (hf19) (Nat.le_succ _)
  have hf21 := fresh_W (hf20)
  have hf22 := fresh_G (r := z) (k := 14) (v := z + 14) (hf21) (by omega)
  exact hf22
set_option maxHeartbeats 1000000 in
theorem n_R {l : Launch} {g : GX} {z : Nat} {I J : MI} {G : Nat → Nat → Nat} (hf : fresh z I J G) (hs : SH (z) = (6, 15) ∧ SH (z + 1) = (20, 96) ∧ SH (z + 2) = (20, 8) ∧ SH (z + 3) = (20, 8) ∧ SH (z + 4) = (20, 8) ∧ SH (z + 5) = (20, 8) ∧ SH (z + 6) = (20, 8) ∧ SH (z + 7) = (20, 8) ∧ SH (z + 8) = (20, 8) ∧ SH (z + 9) = (3, 5) ∧ SH (z + 10) = (20, 402) ∧ SH (z + 11) = (20, 402) ∧ SH (z + 12) = (20, 32) ∧ SH (z + 13) = (20, 6) ∧ SH (z + 14) = (3, 5) ∧ SH (z + 15) = (20, 402) ∧ SH (z + 16) = (20, 402) ∧ SH (z + 17) = (20, 32) ∧ SH (z + 18) = (20, 6)) (hp : 0 < z) : Spec l g 2 yX6_init cX6_init 1 none [vR g z] (z, I, J, G) none True (z + 18, I, J, g_R G z) := by
  refine spec_of (μ := (cX6_init, RX6, 1, 2, "<init>")) (k := 0) (L0 := [some (vR g z)]) rfl mw_R_init rfl rfl (by show z ≤ z + 18; omega) (fun φ hb hE => ?_)
  replace hb : cb φ = z + 18 := hb
  refine z_aload_n dX6_init_0 rfl ?_
  refine z_objI dX6_init_1 (tin1 105 (by rfl) rfl) wOi wOc rfl rfl ?_
  refine z_aload_n dX6_init_4 rfl ?_
  refine z_bipush dX6_init_5 (by decide +kernel) ?_
  refine z_newa (kd := 0) (n := 96) (ty := .int) dX6_init_7 rfl rfl (fun U cA h => h) rfl (inRd (by decide)) wArI (by decide) (hs.2.1) (by decide) (by rw [hb]; show z + 1 ≤ z + 18; omega) (fun cA h => by rw [elt_arr (hs.2.1) (by omega) (by omega)]; rw [← h]; rfl) rfl (hf) ?_
  have hf1 := fresh_up (hf) (Nat.le_succ _)
  refine z_putFR (v := z + 1) (k := 3) dX6_init_9 cl6 hs.1 hp (by show z ≤ z + 1; omega) rfl rfl rfl rfl rfl (tin1 138 (by rfl) rfl) rfl rfl (Nat.succ_pos _) ?_
  have hf2 := fresh_G (r := z) (k := 3) (v := z + 1) (hf1) (by omega)
  show Zt _ _ _ _ 12 _ [] (z + 1, I, J, (up2 G z 3 (z + 1)))
  refine z_aload_n dX6_init_12 rfl ?_
  refine z_bipush dX6_init_13 (by decide +kernel) ?_
  refine z_newa (kd := 0) (n := 8) (ty := .int) dX6_init_15 rfl rfl (fun U cA h => h) rfl (inRd (by decide)) wArI (by decide) (hs.2.2.1) (by decide) (by rw [hb]; show z + 1 + 1 ≤ z + 18; omega) (fun cA h => by rw [elt_arr (hs.2.2.1) (by omega) (by omega)]; rw [← h]; rfl) rfl (hf2) ?_
  have hf3 := fresh_up (hf2) (Nat.le_succ _)
  refine z_putFR (v := z + 2) (k := 4) dX6_init_17 cl6 hs.1 hp (by show z ≤ z + 2; omega) rfl rfl rfl rfl rfl (tin1 142 (by rfl) rfl) rfl rfl (Nat.succ_pos _) ?_
  have hf4 := fresh_G (r := z) (k := 4) (v := z + 2) (hf3) (by omega)
  show Zt _ _ _ _ 20 _ [] (z + 2, I, J, (up2 (up2 G z 3 (z + 1)) z 4 (z + 2)))
  refine z_aload_n dX6_init_20 rfl ?_
  refine z_bipush dX6_init_21 (by decide +kernel) ?_
  refine z_newa (kd := 0) (n := 8) (ty := .int) dX6_init_23 rfl rfl (fun U cA h => h) rfl (inRd (by decide)) wArI (by decide) (hs.2.2.2.1) (by decide) (by rw [hb]; show z + 2 + 1 ≤ z + 18; omega) (fun cA h => by rw [elt_arr (hs.2.2.2.1) (by omega) (by omega)]; rw [← h]; rfl) rfl (hf4) ?_
  have hf5 := fresh_up (hf4) (Nat.le_succ _)
  refine z_putFR (v := z + 3) (k := 6) dX6_init_25 cl6 hs.1 hp (by show z ≤ z + 3; omega) rfl rfl rfl rfl rfl (tin1 148 (by rfl) rfl) rfl rfl (Nat.succ_pos _) ?_
  have hf6 := fresh_G (r := z) (k := 6) (v := z + 3) (hf5) (by omega)
  show Zt _ _ _ _ 28 _ [] (z + 3, I, J, (up2 (up2 (up2 G z 3 (z + 1)) z 4 (z + 2)) z 6 (z + 3)))
  refine z_aload_n dX6_init_28 rfl ?_
  refine z_bipush dX6_init_29 (by decide +kernel) ?_
  refine z_newa (kd := 0) (n := 8) (ty := .int) dX6_init_31 rfl rfl (fun U cA h => h) rfl (inRd (by decide)) wArI (by decide) (hs.2.2.2.2.1) (by decide) (by rw [hb]; show z + 3 + 1 ≤ z + 18; omega) (fun cA h => by rw [elt_arr (hs.2.2.2.2.1) (by omega) (by omega)]; rw [← h]; rfl) rfl (hf6) ?_
  have hf7 := fresh_up (hf6) (Nat.le_succ _)
  refine z_putFR (v := z + 4) (k := 7) dX6_init_33 cl6 hs.1 hp (by show z ≤ z + 4; omega) rfl rfl rfl rfl rfl (tin1 151 (by rfl) rfl) rfl rfl (Nat.succ_pos _) ?_
  have hf8 := fresh_G (r := z) (k := 7) (v := z + 4) (hf7) (by omega)
  show Zt _ _ _ _ 36 _ [] (z + 4, I, J, (up2 (up2 (up2 (up2 G z 3 (z + 1)) z 4 (z + 2)) z 6 (z + 3)) z 7 (z + 4)))
  refine z_aload_n dX6_init_36 rfl ?_
  refine z_bipush dX6_init_37 (by decide +kernel) ?_
  refine z_newa (kd := 0) (n := 8) (ty := .int) dX6_init_39 rfl rfl (fun U cA h => h) rfl (inRd (by decide)) wArI (by decide) (hs.2.2.2.2.2.1) (by decide) (by rw [hb]; show z + 4 + 1 ≤ z + 18; omega) (fun cA h => by rw [elt_arr (hs.2.2.2.2.2.1) (by omega) (by omega)]; rw [← h]; rfl) rfl (hf8) ?_
  have hf9 := fresh_up (hf8) (Nat.le_succ _)
  refine z_putFR (v := z + 5) (k := 8) dX6_init_41 cl6 hs.1 hp (by show z ≤ z + 5; omega) rfl rfl rfl rfl rfl (tin1 154 (by rfl) rfl) rfl rfl (Nat.succ_pos _) ?_
  have hf10 := fresh_G (r := z) (k := 8) (v := z + 5) (hf9) (by omega)
  show Zt _ _ _ _ 44 _ [] (z + 5, I, J, (up2 (up2 (up2 (up2 (up2 G z 3 (z + 1)) z 4 (z + 2)) z 6 (z + 3)) z 7 (z + 4)) z 8 (z + 5)))
  refine z_aload_n dX6_init_44 rfl ?_
  refine z_bipush dX6_init_45 (by decide +kernel) ?_
  refine z_newa (kd := 0) (n := 8) (ty := .int) dX6_init_47 rfl rfl (fun U cA h => h) rfl (inRd (by decide)) wArI (by decide) (hs.2.2.2.2.2.2.1) (by decide) (by rw [hb]; show z + 5 + 1 ≤ z + 18; omega) (fun cA h => by rw [elt_arr (hs.2.2.2.2.2.2.1) (by omega) (by omega)]; rw [← h]; rfl) rfl (hf10) ?_
  have hf11 := fresh_up (hf10) (Nat.le_succ _)
  refine z_putFR (v := z + 6) (k := 9) dX6_init_49 cl6 hs.1 hp (by show z ≤ z + 6; omega) rfl rfl rfl rfl rfl (tin1 157 (by rfl) rfl) rfl rfl (Nat.succ_pos _) ?_
  have hf12 := fresh_G (r := z) (k := 9) (v := z + 6) (hf11) (by omega)
  show Zt _ _ _ _ 52 _ [] (z + 6, I, J, (up2 (up2 (up2 (up2 (up2 (up2 G z 3 (z + 1)) z 4 (z + 2)) z 6 (z + 3)) z 7 (z + 4)) z 8 (z + 5)) z 9 (z + 6)))
  refine z_aload_n dX6_init_52 rfl ?_
  refine z_bipush dX6_init_53 (by decide +kernel) ?_
  refine z_newa (kd := 0) (n := 8) (ty := .int) dX6_init_55 rfl rfl (fun U cA h => h) rfl (inRd (by decide)) wArI (by decide) (hs.2.2.2.2.2.2.2.1) (by decide) (by rw [hb]; show z + 6 + 1 ≤ z + 18; omega) (fun cA h => by rw [elt_arr (hs.2.2.2.2.2.2.2.1) (by omega) (by omega)]; rw [← h]; rfl) rfl (hf12) ?_
  have hf13 := fresh_up (hf12) (Nat.le_succ _)
  refine z_putFR (v := z + 7) (k := 11) dX6_init_57 cl6 hs.1 hp (by show z ≤ z + 7; omega) rfl rfl rfl rfl rfl (tin1 164 (by rfl) rfl) rfl rfl (Nat.succ_pos _) ?_
  have hf14 := fresh_G (r := z) (k := 11) (v := z + 7) (hf13) (by omega)
  show Zt _ _ _ _ 60 _ [] (z + 7, I, J, (up2 (up2 (up2 (up2 (up2 (up2 (up2 G z 3 (z + 1)) z 4 (z + 2)) z 6 (z + 3)) z 7 (z + 4)) z 8 (z + 5)) z 9 (z + 6)) z 11 (z + 7)))
  refine z_aload_n dX6_init_60 rfl ?_
  refine z_bipush dX6_init_61 (by decide +kernel) ?_
  refine z_newa (kd := 0) (n := 8) (ty := .int) dX6_init_63 rfl rfl (fun U cA h => h) rfl (inRd (by decide)) wArI (by decide) (hs.2.2.2.2.2.2.2.2.1) (by decide) (by rw [hb]; show z + 7 + 1 ≤ z + 18; omega) (fun cA h => by rw [elt_arr (hs.2.2.2.2.2.2.2.2.1) (by omega) (by omega)]; rw [← h]; rfl) rfl (hf14) ?_
  have hf15 := fresh_up (hf14) (Nat.le_succ _)
  refine z_putFR (v := z + 8) (k := 12) dX6_init_65 cl6 hs.1 hp (by show z ≤ z + 8; omega) rfl rfl rfl rfl rfl (tin1 167 (by rfl) rfl) rfl rfl (Nat.succ_pos _) ?_
  have hf16 := fresh_G (r := z) (k := 12) (v := z + 8) (hf15) (by omega)
  show Zt _ _ _ _ 68 _ [] (z + 8, I, J, (up2 (up2 (up2 (up2 (up2 (up2 (up2 (up2 G z 3 (z + 1)) z 4 (z + 2)) z 6 (z + 3)) z 7 (z + 4)) z 8 (z + 5)) z 9 (z + 6)) z 11 (z + 7)) z 12 (z + 8)))
  refine z_aload_n dX6_init_68 rfl ?_
  refine z_new dX6_init_69 cl3 wDf3 (tin1 106 (by rfl) rfl) wIns3 ini_3 (hs.2.2.2.2.2.2.2.2.2.1) (by rw [hb]; show z + 8 + 1 ≤ z + 18; omega) (hf16) ?_
  have hf17 := fresh_up (hf16) (Nat.le_succ _)
  refine z_dup dX6_init_72 rfl ?_
  refine z_callIN (As := []) (rest := [vR g (z + 9), vR g (z)]) (n_W (z := z + 9) (G := (up2 (up2 (up2 (up2 (up2 (up2 (up2 (up2 G z 3 (z + 1)) z 4 (z + 2)) z 6 (z + 3)) z 7 (z + 4)) z 8 (z + 5)) z 9 (z + 6)) z 11 (z + 7)) z 12 (z + 8))) hf17 ⟨hs.2.2.2.2.2.2.2.2.2.1, hs.2.2.2.2.2.2.2.2.2.2.1, hs.2.2.2.2.2.2.2.2.2.2.2.1, hs.2.2.2.2.2.2.2.2.2.2.2.2.1, hs.2.2.2.2.2.2.2.2.2.2.2.2.2.1⟩ (Nat.succ_pos _)) dX6_init_73 mw_W_init (nin1 108 (by rfl) rfl) im_W_init rfl rfl rfl rfl rfl (by show z + 9 ≤ z + 9 + 4; omega) (by rw [hb]; show z + 9 + 4 ≤ z + 18; omega) (fun _ => ?_)
  have hf18 := fresh_W (hf17)
  show Zt _ _ _ _ 76 _ [vR g (z + 9), vR g (z)] (z + 13, I, J, (g_W (up2 (up2 (up2 (up2 (up2 (up2 (up2 (up2 G z 3 (z + 1)) z 4 (z + 2)) z 6 (z + 3)) z 7 (z + 4)) z 8 (z + 5)) z 9 (z + 6)) z 11 (z + 7)) z 12 (z + 8)) (z + 9)))
  refine z_putFR (v := z + 9) (k := 13) dX6_init_76 cl6 hs.1 hp (by show z ≤ z + 13; omega) rfl rfl rfl rfl rfl (tin1 170 (by rfl) rfl) rfl rfl (Nat.succ_pos _) ?_
  have hf19 := fresh_G (r := z) (k := 13) (v := z + 9) (hf18) (by omega)
  show Zt _ _ _ _ 79 _ [] (z + 13, I, J, (up2 (g_W (up2 (up2 (up2 (up2 (up2 (up2 (up2 (up2 G z 3 (z + 1)) z 4 (z + 2)) z 6 (z + 3)) z 7 (z + 4)) z 8 (z + 5)) z 9 (z + 6)) z 11 (z + 7)) z 12 (z + 8)) (z + 9)) z 13 (z + 9)))
  refine z_aload_n dX6_init_79 rfl ?_
  refine z_new dX6_init_80 cl3 wDf3 (tin1 106 (by rfl) rfl) wIns3 ini_3 (hs.2.2.2.2.2.2.2.2.2.2.2.2.2.2.1) (by rw [hb]; show z + 13 + 1 ≤ z + 18; omega) (hf19) ?_
  have hf20 := fresh_up (hf19) (Nat.le_succ _)
  refine z_dup dX6_init_83 rfl ?_
  refine z_callIN (As := []) (rest := [vR g (z + 14), vR g (z)]) (n_W (z := z + 14) (G := (up2 (g_W (up2 (up2 (up2 (up2 (up2 (up2 (up2 (up2 G z 3 (z + 1)) z 4 (z + 2)) z 6 (z + 3)) z 7 (z + 4)) z 8 (z + 5)) z 9 (z + 6)) z 11 (z + 7)) z 12 (z + 8)) (z + 9)) z 13 (z + 9))) hf20 ⟨hs.2.2.2.2.2.2.2.2.2.2.2.2.2.2.1, hs.2.2.2.2.2.2.2.2.2.2.2.2.2.2.2.1, hs.2.2.2.2.2.2.2.2.2.2.2.2.2.2.2.2.1, hs.2.2.2.2.2.2.2.2.2.2.2.2.2.2.2.2.2.1, hs.2.2.2.2.2.2.2.2.2.2.2.2.2.2.2.2.2.2⟩ (Nat.succ_pos _)) dX6_init_84 mw_W_init (nin1 108 (by rfl) rfl) im_W_init rfl rfl rfl rfl rfl (by show z + 14 ≤ z + 14 + 4; omega) (by rw [hb]; show z + 14 + 4 ≤ z + 18; omega) (fun _ => ?_)
  have hf21 := fresh_W (hf20)
  show Zt _ _ _ _ 87 _ [vR g (z + 14), vR g (z)] (z + 18, I, J, (g_W (up2 (g_W (up2 (up2 (up2 (up2 (up2 (up2 (up2 (up2 G z 3 (z + 1)) z 4 (z + 2)) z 6 (z + 3)) z 7 (z + 4)) z 8 (z + 5)) z 9 (z + 6)) z 11 (z + 7)) z 12 (z + 8)) (z + 9)) z 13 (z + 9)) (z + 14)))
  refine z_putFR (v := z + 14) (k := 14) dX6_init_87 cl6 hs.1 hp (by show z ≤ z + 18; omega) rfl rfl rfl rfl rfl (tin1 173 (by rfl) rfl) rfl rfl (Nat.succ_pos _) ?_
  have hf22 := fresh_G (r := z) (k := 14) (v := z + 14) (hf21) (by omega)
  show Zt _ _ _ _ 90 _ [] (z + 18, I, J, (up2 (g_W (up2 (g_W (up2 (up2 (up2 (up2 (up2 (up2 (up2 (up2 G z 3 (z + 1)) z 4 (z + 2)) z 6 (z + 3)) z 7 (z + 4)) z 8 (z + 5)) z 9 (z + 6)) z 11 (z + 7)) z 12 (z + 8)) (z + 9)) z 13 (z + 9)) (z + 14)) z 14 (z + 14)))
  exact z_vret dX6_init_90 hE trivial rfl
def g_Y (G : Nat → Nat → Nat) (z : Nat) : Nat → Nat → Nat := (up2 (up2 (up2 (up2 (up2 G z 0 (z + 1)) z 1 (z + 2)) z 3 (z + 3)) z 4 (z + 4)) z 5 (z + 5))
theorem fresh_Y {z : Nat} {I J : MI} {G : Nat → Nat → Nat} (hf : fresh z I J G) : fresh (z + 5) I J (g_Y G z) := by
  have hf1 := fresh_up (hf) (Nat.le_succ _)
  have hf2 := fresh_G (r := z) (k := 0) (v := z + 1) (hf1) (by omega)
  have hf3 := fresh_up (hf2) (Nat.le_succ _)
  have hf4 := fresh_G (r := z) (k := 1) (v := z + 2) (hf3) (by omega)
  have hf5 := fresh_up (hf4) (Nat.le_succ _)
  have hf6 := fresh_G (r := z) (k := 3) (v := z + 3) (hf5) (by omega)
  have hf7 := fresh_up (hf6) (Nat.le_succ _)
  have hf8 := fresh_G (r := z) (k := 4) (v := z + 4) (hf7) (by omega)
  have hf9 := fresh_up (hf8) (Nat.le_succ _)
  have hf10 := fresh_G (r := z) (k := 5) (v := z + 5) (hf9) (by omega)
  exact hf10
set_option maxHeartbeats 1000000 in
theorem n_Y {l : Launch} {g : GX} {z : Nat} {I J : MI} {G : Nat → Nat → Nat} (hf : fresh z I J G) (hs : SH (z) = (9, 6) ∧ SH (z + 1) = (20, 96) ∧ SH (z + 2) = (20, 96) ∧ SH (z + 3) = (20, 96) ∧ SH (z + 4) = (22, 96) ∧ SH (z + 5) = (20, 96)) (hp : 0 < z) : Spec l g 1 yX9_init cX9_init 1 none [vR g z] (z, I, J, G) none True (z + 5, I, J, g_Y G z) := by
  refine spec_of (μ := (cX9_init, RX9, 1, 1, "<init>")) (k := 0) (L0 := [some (vR g z)]) rfl mw_Y_init rfl rfl (by show z ≤ z + 5; omega) (fun φ hb hE => ?_)
  replace hb : cb φ = z + 5 := hb
  refine z_aload_n dX9_init_0 rfl ?_
  refine z_objI dX9_init_1 (tin2 24 (by rfl) rfl) wOi wOc rfl rfl ?_
  refine z_aload_n dX9_init_4 rfl ?_
  refine z_bipush dX9_init_5 (by decide +kernel) ?_
  refine z_newa (kd := 0) (n := 96) (ty := .int) dX9_init_7 rfl rfl (fun U cA h => h) rfl (inRd (by decide)) wArI (by decide) (hs.2.1) (by decide) (by rw [hb]; show z + 1 ≤ z + 5; omega) (fun cA h => by rw [elt_arr (hs.2.1) (by omega) (by omega)]; rw [← h]; rfl) rfl (hf) ?_
  have hf1 := fresh_up (hf) (Nat.le_succ _)
  refine z_putFR (v := z + 1) (k := 0) dX9_init_9 cl9 hs.1 hp (by show z ≤ z + 1; omega) rfl rfl rfl rfl rfl (tin2 25 (by rfl) rfl) rfl rfl (Nat.succ_pos _) ?_
  have hf2 := fresh_G (r := z) (k := 0) (v := z + 1) (hf1) (by omega)
  show Zt _ _ _ _ 12 _ [] (z + 1, I, J, (up2 G z 0 (z + 1)))
  refine z_aload_n dX9_init_12 rfl ?_
  refine z_bipush dX9_init_13 (by decide +kernel) ?_
  refine z_newa (kd := 0) (n := 96) (ty := .int) dX9_init_15 rfl rfl (fun U cA h => h) rfl (inRd (by decide)) wArI (by decide) (hs.2.2.1) (by decide) (by rw [hb]; show z + 1 + 1 ≤ z + 5; omega) (fun cA h => by rw [elt_arr (hs.2.2.1) (by omega) (by omega)]; rw [← h]; rfl) rfl (hf2) ?_
  have hf3 := fresh_up (hf2) (Nat.le_succ _)
  refine z_putFR (v := z + 2) (k := 1) dX9_init_17 cl9 hs.1 hp (by show z ≤ z + 2; omega) rfl rfl rfl rfl rfl (tin2 28 (by rfl) rfl) rfl rfl (Nat.succ_pos _) ?_
  have hf4 := fresh_G (r := z) (k := 1) (v := z + 2) (hf3) (by omega)
  show Zt _ _ _ _ 20 _ [] (z + 2, I, J, (up2 (up2 G z 0 (z + 1)) z 1 (z + 2)))
  refine z_aload_n dX9_init_20 rfl ?_
  refine z_bipush dX9_init_21 (by decide +kernel) ?_
  refine z_newa (kd := 0) (n := 96) (ty := .int) dX9_init_23 rfl rfl (fun U cA h => h) rfl (inRd (by decide)) wArI (by decide) (hs.2.2.2.1) (by decide) (by rw [hb]; show z + 2 + 1 ≤ z + 5; omega) (fun cA h => by rw [elt_arr (hs.2.2.2.1) (by omega) (by omega)]; rw [← h]; rfl) rfl (hf4) ?_
  have hf5 := fresh_up (hf4) (Nat.le_succ _)
  refine z_putFR (v := z + 3) (k := 3) dX9_init_25 cl9 hs.1 hp (by show z ≤ z + 3; omega) rfl rfl rfl rfl rfl (tin2 34 (by rfl) rfl) rfl rfl (Nat.succ_pos _) ?_
  have hf6 := fresh_G (r := z) (k := 3) (v := z + 3) (hf5) (by omega)
  show Zt _ _ _ _ 28 _ [] (z + 3, I, J, (up2 (up2 (up2 G z 0 (z + 1)) z 1 (z + 2)) z 3 (z + 3)))
  refine z_aload_n dX9_init_28 rfl ?_
  refine z_bipush dX9_init_29 (by decide +kernel) ?_
  refine z_newa (kd := 2) (n := 96) (ty := .boolean) dX9_init_31 rfl rfl (fun U cA h => h) rfl (inRd (by decide)) wArZ (by decide) (hs.2.2.2.2.1) (by decide) (by rw [hb]; show z + 3 + 1 ≤ z + 5; omega) (fun cA h => by rw [elt_arr (hs.2.2.2.2.1) (by omega) (by omega)]; rw [← h]; rfl) rfl (hf6) ?_
  have hf7 := fresh_up (hf6) (Nat.le_succ _)
  refine z_putFR (v := z + 4) (k := 4) dX9_init_33 cl9 hs.1 hp (by show z ≤ z + 4; omega) rfl rfl rfl rfl rfl (tin2 35 (by rfl) rfl) rfl rfl (Nat.succ_pos _) ?_
  have hf8 := fresh_G (r := z) (k := 4) (v := z + 4) (hf7) (by omega)
  show Zt _ _ _ _ 36 _ [] (z + 4, I, J, (up2 (up2 (up2 (up2 G z 0 (z + 1)) z 1 (z + 2)) z 3 (z + 3)) z 4 (z + 4)))
  refine z_aload_n dX9_init_36 rfl ?_
  refine z_bipush dX9_init_37 (by decide +kernel) ?_
  refine z_newa (kd := 0) (n := 96) (ty := .int) dX9_init_39 rfl rfl (fun U cA h => h) rfl (inRd (by decide)) wArI (by decide) (hs.2.2.2.2.2) (by decide) (by rw [hb]; show z + 4 + 1 ≤ z + 5; omega) (fun cA h => by rw [elt_arr (hs.2.2.2.2.2) (by omega) (by omega)]; rw [← h]; rfl) rfl (hf8) ?_
  have hf9 := fresh_up (hf8) (Nat.le_succ _)
  refine z_putFR (v := z + 5) (k := 5) dX9_init_41 cl9 hs.1 hp (by show z ≤ z + 5; omega) rfl rfl rfl rfl rfl (tin2 36 (by rfl) rfl) rfl rfl (Nat.succ_pos _) ?_
  have hf10 := fresh_G (r := z) (k := 5) (v := z + 5) (hf9) (by omega)
  show Zt _ _ _ _ 44 _ [] (z + 5, I, J, (up2 (up2 (up2 (up2 (up2 G z 0 (z + 1)) z 1 (z + 2)) z 3 (z + 3)) z 4 (z + 4)) z 5 (z + 5)))
  exact z_vret dX9_init_44 hE trivial rfl
def g_F (G : Nat → Nat → Nat) (z : Nat) : Nat → Nat → Nat := (up2 (up2 (up2 (up2 G z 0 (z + 1)) z 1 (z + 2)) z 2 (z + 3)) z 3 (z + 4))
theorem fresh_F {z : Nat} {I J : MI} {G : Nat → Nat → Nat} (hf : fresh z I J G) : fresh (z + 4) I J (g_F G z) := by
  have hf1 := fresh_up (hf) (Nat.le_succ _)
  have hf2 := fresh_G (r := z) (k := 0) (v := z + 1) (hf1) (by omega)
  have hf3 := fresh_up (hf2) (Nat.le_succ _)
  have hf4 := fresh_G (r := z) (k := 1) (v := z + 2) (hf3) (by omega)
  have hf5 := fresh_up (hf4) (Nat.le_succ _)
  have hf6 := fresh_G (r := z) (k := 2) (v := z + 3) (hf5) (by omega)
  have hf7 := fresh_up (hf6) (Nat.le_succ _)
  have hf8 := fresh_G (r := z) (k := 3) (v := z + 4) (hf7) (by omega)
  exact hf8
set_option maxHeartbeats 1000000 in
theorem n_F {l : Launch} {g : GX} {z : Nat} {I J : MI} {G : Nat → Nat → Nat} (hf : fresh z I J G) (hs : SH (z) = (1, 5) ∧ SH (z + 1) = (20, 96) ∧ SH (z + 2) = (20, 96) ∧ SH (z + 3) = (20, 192) ∧ SH (z + 4) = (20, 192)) (hp : 0 < z) : Spec l g 1 yX1_init cX1_init 1 none [vR g z] (z, I, J, G) none True (z + 4, I, J, g_F G z) := by
  refine spec_of (μ := (cX1_init, RX1, 1, 1, "<init>")) (k := 0) (L0 := [some (vR g z)]) rfl mw_F_init rfl rfl (by show z ≤ z + 4; omega) (fun φ hb hE => ?_)
  replace hb : cb φ = z + 4 := hb
  refine z_aload_n dX1_init_0 rfl ?_
  refine z_objI dX1_init_1 (tin2 56 (by rfl) rfl) wOi wOc rfl rfl ?_
  refine z_aload_n dX1_init_4 rfl ?_
  refine z_bipush dX1_init_5 (by decide +kernel) ?_
  refine z_newa (kd := 0) (n := 96) (ty := .int) dX1_init_7 rfl rfl (fun U cA h => h) rfl (inRd (by decide)) wArI (by decide) (hs.2.1) (by decide) (by rw [hb]; show z + 1 ≤ z + 4; omega) (fun cA h => by rw [elt_arr (hs.2.1) (by omega) (by omega)]; rw [← h]; rfl) rfl (hf) ?_
  have hf1 := fresh_up (hf) (Nat.le_succ _)
  refine z_putFR (v := z + 1) (k := 0) dX1_init_9 cl1 hs.1 hp (by show z ≤ z + 1; omega) rfl rfl rfl rfl rfl (tin2 57 (by rfl) rfl) rfl rfl (Nat.succ_pos _) ?_
  have hf2 := fresh_G (r := z) (k := 0) (v := z + 1) (hf1) (by omega)
  show Zt _ _ _ _ 12 _ [] (z + 1, I, J, (up2 G z 0 (z + 1)))
  refine z_aload_n dX1_init_12 rfl ?_
  refine z_bipush dX1_init_13 (by decide +kernel) ?_
  refine z_newa (kd := 0) (n := 96) (ty := .int) dX1_init_15 rfl rfl (fun U cA h => h) rfl (inRd (by decide)) wArI (by decide) (hs.2.2.1) (by decide) (by rw [hb]; show z + 1 + 1 ≤ z + 4; omega) (fun cA h => by rw [elt_arr (hs.2.2.1) (by omega) (by omega)]; rw [← h]; rfl) rfl (hf2) ?_
  have hf3 := fresh_up (hf2) (Nat.le_succ _)
  refine z_putFR (v := z + 2) (k := 1) dX1_init_17 cl1 hs.1 hp (by show z ≤ z + 2; omega) rfl rfl rfl rfl rfl (tin2 58 (by rfl) rfl) rfl rfl (Nat.succ_pos _) ?_
  have hf4 := fresh_G (r := z) (k := 1) (v := z + 2) (hf3) (by omega)
  show Zt _ _ _ _ 20 _ [] (z + 2, I, J, (up2 (up2 G z 0 (z + 1)) z 1 (z + 2)))
  refine z_aload_n dX1_init_20 rfl ?_
  refine z_sipush dX1_init_21 (by decide +kernel) ?_
  refine z_newa (kd := 0) (n := 192) (ty := .int) dX1_init_24 rfl rfl (fun U cA h => h) rfl (inRd (by decide)) wArI (by decide) (hs.2.2.2.1) (by decide) (by rw [hb]; show z + 2 + 1 ≤ z + 4; omega) (fun cA h => by rw [elt_arr (hs.2.2.2.1) (by omega) (by omega)]; rw [← h]; rfl) rfl (hf4) ?_
  have hf5 := fresh_up (hf4) (Nat.le_succ _)
  refine z_putFR (v := z + 3) (k := 2) dX1_init_26 cl1 hs.1 hp (by show z ≤ z + 3; omega) rfl rfl rfl rfl rfl (tin2 59 (by rfl) rfl) rfl rfl (Nat.succ_pos _) ?_
  have hf6 := fresh_G (r := z) (k := 2) (v := z + 3) (hf5) (by omega)
  show Zt _ _ _ _ 29 _ [] (z + 3, I, J, (up2 (up2 (up2 G z 0 (z + 1)) z 1 (z + 2)) z 2 (z + 3)))
  refine z_aload_n dX1_init_29 rfl ?_
  refine z_sipush dX1_init_30 (by decide +kernel) ?_
  refine z_newa (kd := 0) (n := 192) (ty := .int) dX1_init_33 rfl rfl (fun U cA h => h) rfl (inRd (by decide)) wArI (by decide) (hs.2.2.2.2) (by decide) (by rw [hb]; show z + 3 + 1 ≤ z + 4; omega) (fun cA h => by rw [elt_arr (hs.2.2.2.2) (by omega) (by omega)]; rw [← h]; rfl) rfl (hf6) ?_
  have hf7 := fresh_up (hf6) (Nat.le_succ _)
  refine z_putFR (v := z + 4) (k := 3) dX1_init_35 cl1 hs.1 hp (by show z ≤ z + 4; omega) rfl rfl rfl rfl rfl (tin2 60 (by rfl) rfl) rfl rfl (Nat.succ_pos _) ?_
  have hf8 := fresh_G (r := z) (k := 3) (v := z + 4) (hf7) (by omega)
  show Zt _ _ _ _ 38 _ [] (z + 4, I, J, (up2 (up2 (up2 (up2 G z 0 (z + 1)) z 1 (z + 2)) z 2 (z + 3)) z 3 (z + 4)))
  exact z_vret dX1_init_38 hE trivial rfl
def g_V (G : Nat → Nat → Nat) (z : Nat) : Nat → Nat → Nat := (up2 (up2 (up2 (up2 (up2 (up2 (up2 (up2 (up2 (up2 (gM (up2 G z 1 (z + 1)) (z + 2) 8) z 2 (z + 2)) z 3 (z + 11)) z 4 (z + 12)) z 6 (z + 13)) z 7 (z + 14)) z 8 (z + 15)) z 9 (z + 16)) z 10 (z + 17)) z 11 (z + 18)) z 12 (z + 19))
theorem fresh_V {z : Nat} {I J : MI} {G : Nat → Nat → Nat} (hf : fresh z I J G) : fresh (z + 19) I J (g_V G z) := by
  have hf1 := fresh_up (hf) (Nat.le_succ _)
  have hf2 := fresh_G (r := z) (k := 1) (v := z + 1) (hf1) (by omega)
  have hf3 := fresh_M (n := 8) (hf2)
  have hf4 := fresh_G (r := z) (k := 2) (v := z + 2) (hf3) (by omega)
  have hf5 := fresh_up (hf4) (Nat.le_succ _)
  have hf6 := fresh_G (r := z) (k := 3) (v := z + 11) (hf5) (by omega)
  have hf7 := fresh_up (hf6) (Nat.le_succ _)
  have hf8 := fresh_G (r := z) (k := 4) (v := z + 12) (hf7) (by omega)
  have hf9 := fresh_up (hf8) (Nat.le_succ _)
  have hf10 := fresh_G (r := z) (k := 6) (v := z + 13) (hf9) (by omega)
  have hf11 := fresh_up (hf10) (Nat.le_succ _)
  have hf12 := fresh_G (r := z) (k := 7) (v := z + 14) (hf11) (by omega)
  have hf13 := fresh_up (hf12) (Nat.le_succ _)
  have hf14 := fresh_G (r := z) (k := 8) (v := z + 15) (hf13) (by omega)
  have hf15 := fresh_up (hf14) (Nat.le_succ _)
  have hf16 := fresh_G (r := z) (k := 9) (v := z + 16) (hf15) (by omega)
  have hf17 := fresh_up (hf16) (Nat.le_succ _)
  have hf18 := fresh_G (r := z) (k := 10) (v := z + 17) (hf17) (by omega)
  have hf19 := fresh_up (hf18) (Nat.le_succ _)
  have hf20 := fresh_G (r := z) (k := 11) (v := z + 18) (hf19) (by omega)
  have hf21 := fresh_up (hf20) (Nat.le_succ _)
  have hf22 := fresh_G (r := z) (k := 12) (v := z + 19) (hf21) (by omega)
  exact hf22
set_option maxHeartbeats 1000000 in
theorem n_V {l : Launch} {g : GX} {z : Nat} {I J : MI} {G : Nat → Nat → Nat} (hf : fresh z I J G) (hs : SH (z) = (2, 13) ∧ SH (z + 1) = (20, 8) ∧ SH (z + 2) = (25, 8) ∧ SH (z + 3) = (20, 8) ∧ SH (z + 4) = (20, 8) ∧ SH (z + 5) = (20, 8) ∧ SH (z + 6) = (20, 8) ∧ SH (z + 7) = (20, 8) ∧ SH (z + 8) = (20, 8) ∧ SH (z + 9) = (20, 8) ∧ SH (z + 10) = (20, 8) ∧ SH (z + 11) = (20, 72) ∧ SH (z + 12) = (20, 72) ∧ SH (z + 13) = (20, 8) ∧ SH (z + 14) = (20, 8) ∧ SH (z + 15) = (20, 8) ∧ SH (z + 16) = (20, 8) ∧ SH (z + 17) = (20, 8) ∧ SH (z + 18) = (20, 8) ∧ SH (z + 19) = (20, 8)) (hp : 0 < z) : Spec l g 1 yX2_init cX2_init 1 none [vR g z] (z, I, J, G) none True (z + 19, I, J, g_V G z) := by
  refine spec_of (μ := (cX2_init, RX2, 1, 1, "<init>")) (k := 0) (L0 := [some (vR g z)]) rfl mw_V_init rfl rfl (by show z ≤ z + 19; omega) (fun φ hb hE => ?_)
  replace hb : cb φ = z + 19 := hb
  refine z_aload_n dX2_init_0 rfl ?_
  refine z_objI dX2_init_1 (tin2 78 (by rfl) rfl) wOi wOc rfl rfl ?_
  refine z_aload_n dX2_init_4 rfl ?_
  refine z_bipush dX2_init_5 (by decide +kernel) ?_
  refine z_newa (kd := 0) (n := 8) (ty := .int) dX2_init_7 rfl rfl (fun U cA h => h) rfl (inRd (by decide)) wArI (by decide) (hs.2.1) (by decide) (by rw [hb]; show z + 1 ≤ z + 19; omega) (fun cA h => by rw [elt_arr (hs.2.1) (by omega) (by omega)]; rw [← h]; rfl) rfl (hf) ?_
  have hf1 := fresh_up (hf) (Nat.le_succ _)
  refine z_putFR (v := z + 1) (k := 1) dX2_init_9 cl2 hs.1 hp (by show z ≤ z + 1; omega) rfl rfl rfl rfl rfl (tin2 82 (by rfl) rfl) rfl rfl (Nat.succ_pos _) ?_
  have hf2 := fresh_G (r := z) (k := 1) (v := z + 1) (hf1) (by omega)
  show Zt _ _ _ _ 12 _ [] (z + 1, I, J, (up2 G z 1 (z + 1)))
  refine z_aload_n dX2_init_12 rfl ?_
  refine z_bipush dX2_init_13 (by decide +kernel) ?_
  refine z_bipush dX2_init_15 (by decide +kernel) ?_
  refine z_mna (n := 8) (k := 8) dX2_init_17 rfl rfl (inRd (by decide)) (inRd (by decide)) (tin2 79 (by rfl) rfl) wOvarray wArI (by decide) (by decide) (hs.2.2.1) (fun i hi => ?_) (by rw [hb]; show z + 1 + 1 + 8 ≤ z + 19; omega) (hf2) ?_
  · match i, hi with
    | 0, _ => exact hs.2.2.2.1
    | 1, _ => exact hs.2.2.2.2.1
    | 2, _ => exact hs.2.2.2.2.2.1
    | 3, _ => exact hs.2.2.2.2.2.2.1
    | 4, _ => exact hs.2.2.2.2.2.2.2.1
    | 5, _ => exact hs.2.2.2.2.2.2.2.2.1
    | 6, _ => exact hs.2.2.2.2.2.2.2.2.2.1
    | 7, _ => exact hs.2.2.2.2.2.2.2.2.2.2.1
    | j + 8, h => exact absurd h (by omega)
  have hf3 := fresh_M (n := 8) (hf2)
  refine z_putFR (v := z + 2) (k := 2) dX2_init_21 cl2 hs.1 hp (by show z ≤ z + 10; omega) rfl rfl rfl rfl rfl (tin2 83 (by rfl) rfl) rfl rfl (Nat.succ_pos _) ?_
  have hf4 := fresh_G (r := z) (k := 2) (v := z + 2) (hf3) (by omega)
  show Zt _ _ _ _ 24 _ [] (z + 10, I, J, (up2 (gM (up2 G z 1 (z + 1)) (z + 2) 8) z 2 (z + 2)))
  refine z_aload_n dX2_init_24 rfl ?_
  refine z_bipush dX2_init_25 (by decide +kernel) ?_
  refine z_newa (kd := 0) (n := 72) (ty := .int) dX2_init_27 rfl rfl (fun U cA h => h) rfl (inRd (by decide)) wArI (by decide) (hs.2.2.2.2.2.2.2.2.2.2.2.1) (by decide) (by rw [hb]; show z + 10 + 1 ≤ z + 19; omega) (fun cA h => by rw [elt_arr (hs.2.2.2.2.2.2.2.2.2.2.2.1) (by omega) (by omega)]; rw [← h]; rfl) rfl (hf4) ?_
  have hf5 := fresh_up (hf4) (Nat.le_succ _)
  refine z_putFR (v := z + 11) (k := 3) dX2_init_29 cl2 hs.1 hp (by show z ≤ z + 11; omega) rfl rfl rfl rfl rfl (tin2 84 (by rfl) rfl) rfl rfl (Nat.succ_pos _) ?_
  have hf6 := fresh_G (r := z) (k := 3) (v := z + 11) (hf5) (by omega)
  show Zt _ _ _ _ 32 _ [] (z + 11, I, J, (up2 (up2 (gM (up2 G z 1 (z + 1)) (z + 2) 8) z 2 (z + 2)) z 3 (z + 11)))
  refine z_aload_n dX2_init_32 rfl ?_
  refine z_bipush dX2_init_33 (by decide +kernel) ?_
  refine z_newa (kd := 0) (n := 72) (ty := .int) dX2_init_35 rfl rfl (fun U cA h => h) rfl (inRd (by decide)) wArI (by decide) (hs.2.2.2.2.2.2.2.2.2.2.2.2.1) (by decide) (by rw [hb]; show z + 11 + 1 ≤ z + 19; omega) (fun cA h => by rw [elt_arr (hs.2.2.2.2.2.2.2.2.2.2.2.2.1) (by omega) (by omega)]; rw [← h]; rfl) rfl (hf6) ?_
  have hf7 := fresh_up (hf6) (Nat.le_succ _)
  refine z_putFR (v := z + 12) (k := 4) dX2_init_37 cl2 hs.1 hp (by show z ≤ z + 12; omega) rfl rfl rfl rfl rfl (tin2 85 (by rfl) rfl) rfl rfl (Nat.succ_pos _) ?_
  have hf8 := fresh_G (r := z) (k := 4) (v := z + 12) (hf7) (by omega)
  show Zt _ _ _ _ 40 _ [] (z + 12, I, J, (up2 (up2 (up2 (gM (up2 G z 1 (z + 1)) (z + 2) 8) z 2 (z + 2)) z 3 (z + 11)) z 4 (z + 12)))
  refine z_aload_n dX2_init_40 rfl ?_
  refine z_bipush dX2_init_41 (by decide +kernel) ?_
  refine z_newa (kd := 0) (n := 8) (ty := .int) dX2_init_43 rfl rfl (fun U cA h => h) rfl (inRd (by decide)) wArI (by decide) (hs.2.2.2.2.2.2.2.2.2.2.2.2.2.1) (by decide) (by rw [hb]; show z + 12 + 1 ≤ z + 19; omega) (fun cA h => by rw [elt_arr (hs.2.2.2.2.2.2.2.2.2.2.2.2.2.1) (by omega) (by omega)]; rw [← h]; rfl) rfl (hf8) ?_
  have hf9 := fresh_up (hf8) (Nat.le_succ _)
  refine z_putFR (v := z + 13) (k := 6) dX2_init_45 cl2 hs.1 hp (by show z ≤ z + 13; omega) rfl rfl rfl rfl rfl (tin2 87 (by rfl) rfl) rfl rfl (Nat.succ_pos _) ?_
  have hf10 := fresh_G (r := z) (k := 6) (v := z + 13) (hf9) (by omega)
  show Zt _ _ _ _ 48 _ [] (z + 13, I, J, (up2 (up2 (up2 (up2 (gM (up2 G z 1 (z + 1)) (z + 2) 8) z 2 (z + 2)) z 3 (z + 11)) z 4 (z + 12)) z 6 (z + 13)))
  refine z_aload_n dX2_init_48 rfl ?_
  refine z_bipush dX2_init_49 (by decide +kernel) ?_
  refine z_newa (kd := 0) (n := 8) (ty := .int) dX2_init_51 rfl rfl (fun U cA h => h) rfl (inRd (by decide)) wArI (by decide) (hs.2.2.2.2.2.2.2.2.2.2.2.2.2.2.1) (by decide) (by rw [hb]; show z + 13 + 1 ≤ z + 19; omega) (fun cA h => by rw [elt_arr (hs.2.2.2.2.2.2.2.2.2.2.2.2.2.2.1) (by omega) (by omega)]; rw [← h]; rfl) rfl (hf10) ?_
  have hf11 := fresh_up (hf10) (Nat.le_succ _)
  refine z_putFR (v := z + 14) (k := 7) dX2_init_53 cl2 hs.1 hp (by show z ≤ z + 14; omega) rfl rfl rfl rfl rfl (tin2 88 (by rfl) rfl) rfl rfl (Nat.succ_pos _) ?_
  have hf12 := fresh_G (r := z) (k := 7) (v := z + 14) (hf11) (by omega)
  show Zt _ _ _ _ 56 _ [] (z + 14, I, J, (up2 (up2 (up2 (up2 (up2 (gM (up2 G z 1 (z + 1)) (z + 2) 8) z 2 (z + 2)) z 3 (z + 11)) z 4 (z + 12)) z 6 (z + 13)) z 7 (z + 14)))
  refine z_aload_n dX2_init_56 rfl ?_
  refine z_bipush dX2_init_57 (by decide +kernel) ?_
  refine z_newa (kd := 0) (n := 8) (ty := .int) dX2_init_59 rfl rfl (fun U cA h => h) rfl (inRd (by decide)) wArI (by decide) (hs.2.2.2.2.2.2.2.2.2.2.2.2.2.2.2.1) (by decide) (by rw [hb]; show z + 14 + 1 ≤ z + 19; omega) (fun cA h => by rw [elt_arr (hs.2.2.2.2.2.2.2.2.2.2.2.2.2.2.2.1) (by omega) (by omega)]; rw [← h]; rfl) rfl (hf12) ?_
  have hf13 := fresh_up (hf12) (Nat.le_succ _)
  refine z_putFR (v := z + 15) (k := 8) dX2_init_61 cl2 hs.1 hp (by show z ≤ z + 15; omega) rfl rfl rfl rfl rfl (tin2 90 (by rfl) rfl) rfl rfl (Nat.succ_pos _) ?_
  have hf14 := fresh_G (r := z) (k := 8) (v := z + 15) (hf13) (by omega)
  show Zt _ _ _ _ 64 _ [] (z + 15, I, J, (up2 (up2 (up2 (up2 (up2 (up2 (gM (up2 G z 1 (z + 1)) (z + 2) 8) z 2 (z + 2)) z 3 (z + 11)) z 4 (z + 12)) z 6 (z + 13)) z 7 (z + 14)) z 8 (z + 15)))
  refine z_aload_n dX2_init_64 rfl ?_
  refine z_bipush dX2_init_65 (by decide +kernel) ?_
  refine z_newa (kd := 0) (n := 8) (ty := .int) dX2_init_67 rfl rfl (fun U cA h => h) rfl (inRd (by decide)) wArI (by decide) (hs.2.2.2.2.2.2.2.2.2.2.2.2.2.2.2.2.1) (by decide) (by rw [hb]; show z + 15 + 1 ≤ z + 19; omega) (fun cA h => by rw [elt_arr (hs.2.2.2.2.2.2.2.2.2.2.2.2.2.2.2.2.1) (by omega) (by omega)]; rw [← h]; rfl) rfl (hf14) ?_
  have hf15 := fresh_up (hf14) (Nat.le_succ _)
  refine z_putFR (v := z + 16) (k := 9) dX2_init_69 cl2 hs.1 hp (by show z ≤ z + 16; omega) rfl rfl rfl rfl rfl (tin2 91 (by rfl) rfl) rfl rfl (Nat.succ_pos _) ?_
  have hf16 := fresh_G (r := z) (k := 9) (v := z + 16) (hf15) (by omega)
  show Zt _ _ _ _ 72 _ [] (z + 16, I, J, (up2 (up2 (up2 (up2 (up2 (up2 (up2 (gM (up2 G z 1 (z + 1)) (z + 2) 8) z 2 (z + 2)) z 3 (z + 11)) z 4 (z + 12)) z 6 (z + 13)) z 7 (z + 14)) z 8 (z + 15)) z 9 (z + 16)))
  refine z_aload_n dX2_init_72 rfl ?_
  refine z_bipush dX2_init_73 (by decide +kernel) ?_
  refine z_newa (kd := 0) (n := 8) (ty := .int) dX2_init_75 rfl rfl (fun U cA h => h) rfl (inRd (by decide)) wArI (by decide) (hs.2.2.2.2.2.2.2.2.2.2.2.2.2.2.2.2.2.1) (by decide) (by rw [hb]; show z + 16 + 1 ≤ z + 19; omega) (fun cA h => by rw [elt_arr (hs.2.2.2.2.2.2.2.2.2.2.2.2.2.2.2.2.2.1) (by omega) (by omega)]; rw [← h]; rfl) rfl (hf16) ?_
  have hf17 := fresh_up (hf16) (Nat.le_succ _)
  refine z_putFR (v := z + 17) (k := 10) dX2_init_77 cl2 hs.1 hp (by show z ≤ z + 17; omega) rfl rfl rfl rfl rfl (tin2 92 (by rfl) rfl) rfl rfl (Nat.succ_pos _) ?_
  have hf18 := fresh_G (r := z) (k := 10) (v := z + 17) (hf17) (by omega)
  show Zt _ _ _ _ 80 _ [] (z + 17, I, J, (up2 (up2 (up2 (up2 (up2 (up2 (up2 (up2 (gM (up2 G z 1 (z + 1)) (z + 2) 8) z 2 (z + 2)) z 3 (z + 11)) z 4 (z + 12)) z 6 (z + 13)) z 7 (z + 14)) z 8 (z + 15)) z 9 (z + 16)) z 10 (z + 17)))
  refine z_aload_n dX2_init_80 rfl ?_
  refine z_bipush dX2_init_81 (by decide +kernel) ?_
  refine z_newa (kd := 0) (n := 8) (ty := .int) dX2_init_83 rfl rfl (fun U cA h => h) rfl (inRd (by decide)) wArI (by decide) (hs.2.2.2.2.2.2.2.2.2.2.2.2.2.2.2.2.2.2.1) (by decide) (by rw [hb]; show z + 17 + 1 ≤ z + 19; omega) (fun cA h => by rw [elt_arr (hs.2.2.2.2.2.2.2.2.2.2.2.2.2.2.2.2.2.2.1) (by omega) (by omega)]; rw [← h]; rfl) rfl (hf18) ?_
  have hf19 := fresh_up (hf18) (Nat.le_succ _)
  refine z_putFR (v := z + 18) (k := 11) dX2_init_85 cl2 hs.1 hp (by show z ≤ z + 18; omega) rfl rfl rfl rfl rfl (tin2 93 (by rfl) rfl) rfl rfl (Nat.succ_pos _) ?_
  have hf20 := fresh_G (r := z) (k := 11) (v := z + 18) (hf19) (by omega)
  show Zt _ _ _ _ 88 _ [] (z + 18, I, J, (up2 (up2 (up2 (up2 (up2 (up2 (up2 (up2 (up2 (gM (up2 G z 1 (z + 1)) (z + 2) 8) z 2 (z + 2)) z 3 (z + 11)) z 4 (z + 12)) z 6 (z + 13)) z 7 (z + 14)) z 8 (z + 15)) z 9 (z + 16)) z 10 (z + 17)) z 11 (z + 18)))
  refine z_aload_n dX2_init_88 rfl ?_
  refine z_bipush dX2_init_89 (by decide +kernel) ?_
  refine z_newa (kd := 0) (n := 8) (ty := .int) dX2_init_91 rfl rfl (fun U cA h => h) rfl (inRd (by decide)) wArI (by decide) (hs.2.2.2.2.2.2.2.2.2.2.2.2.2.2.2.2.2.2.2) (by decide) (by rw [hb]; show z + 18 + 1 ≤ z + 19; omega) (fun cA h => by rw [elt_arr (hs.2.2.2.2.2.2.2.2.2.2.2.2.2.2.2.2.2.2.2) (by omega) (by omega)]; rw [← h]; rfl) rfl (hf20) ?_
  have hf21 := fresh_up (hf20) (Nat.le_succ _)
  refine z_putFR (v := z + 19) (k := 12) dX2_init_93 cl2 hs.1 hp (by show z ≤ z + 19; omega) rfl rfl rfl rfl rfl (tin2 94 (by rfl) rfl) rfl rfl (Nat.succ_pos _) ?_
  have hf22 := fresh_G (r := z) (k := 12) (v := z + 19) (hf21) (by omega)
  show Zt _ _ _ _ 96 _ [] (z + 19, I, J, (up2 (up2 (up2 (up2 (up2 (up2 (up2 (up2 (up2 (up2 (gM (up2 G z 1 (z + 1)) (z + 2) 8) z 2 (z + 2)) z 3 (z + 11)) z 4 (z + 12)) z 6 (z + 13)) z 7 (z + 14)) z 8 (z + 15)) z 9 (z + 16)) z 10 (z + 17)) z 11 (z + 18)) z 12 (z + 19)))
  exact z_vret dX2_init_96 hE trivial rfl
