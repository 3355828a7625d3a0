set_option maxHeartbeats 1000000 in
theorem s_B_clear {l : Launch} {g : GX} {z : Nat} {G : Nat → Nat → Nat} {F : Nat} (hz : 295 ≤ z) (hG : lyX G) {r0 : Nat} {I J : Nat → Nat → Int} (hr0 : isBed r0) {res : MI} (h : f_B_clear F r0 I = some res) : Spec l g 14 yX0_clear cX0_clear 1 none [vR g r0] (z, I, J, G) none True (z, res, J, G) := by
  refine spec_of (μ := mu_B_clear) (k := 0) (L0 := [some (vR g r0)]) rfl mw_B_clear rfl rfl (Nat.le_refl _) (fun φ hb hE => ?_)
  refine z_aload_n dX0_clear_0 rfl ?_
  refine z_iconst dX0_clear_1 ?_
  refine y_putI dX0_clear_2 cl0 (bed_sh hr0) (bed_pos hr0) (Nat.le_trans (bed_le hr0) hz) 0 rfl rfl rfl (fl_B_30) rfl rfl (inRd (x := 0) (by decide)) ?_
  refine z_aload_n dX0_clear_5 rfl ?_
  refine y_getR dX0_clear_6 cl0 (bed_sh hr0) (bed_pos hr0) (Nat.le_trans (bed_le hr0) hz) 1 rfl rfl (fl_B_9) (bed_g1 hG hr0) (Nat.succ_pos _) ?_
  refine z_iconst dX0_clear_9 ?_
  refine z_callS (As := [vR g (r0 + 1), vI 0]) (rest := []) (s_fill (bed_sh1 hr0) (Nat.succ_pos _) (Nat.le_trans (bed_le1 hr0) hz) (inRd (x := 0) (by decide)) (by decide)) dX0_clear_10 mw_fill (tin2 141 (by decide +kernel) rfl) st_fill rfl rfl rfl rfl (Nat.le_refl _) (Nat.le_of_eq hb.symm) (fun _ => ?_)
  show Zt _ _ _ _ 13 _ [] (z, (fillA (up2 I r0 0 0) (r0 + 1) 96 0), J, G)
  refine z_aload_n dX0_clear_13 rfl ?_
  refine y_getR dX0_clear_14 cl0 (bed_sh hr0) (bed_pos hr0) (Nat.le_trans (bed_le hr0) hz) 2 rfl rfl (fl_B_15) (bed_g2 hG hr0) (Nat.succ_pos _) ?_
  refine z_iconst dX0_clear_17 ?_
  refine z_callS (As := [vR g (r0 + 2), vI (-1)]) (rest := []) (s_fill (bed_sh2 hr0) (Nat.succ_pos _) (Nat.le_trans (bed_le2 hr0) hz) (inRd (x := (-1)) (by decide)) (by decide)) dX0_clear_18 mw_fill (tin2 141 (by decide +kernel) rfl) st_fill rfl rfl rfl rfl (Nat.le_refl _) (Nat.le_of_eq hb.symm) (fun _ => ?_)
  show Zt _ _ _ _ 21 _ [] (z, (fillA (fillA (up2 I r0 0 0) (r0 + 1) 96 0) (r0 + 2) 96 (-1)), J, G)
  refine z_aload_n dX0_clear_21 rfl ?_
  refine y_getR dX0_clear_22 cl0 (bed_sh hr0) (bed_pos hr0) (Nat.le_trans (bed_le hr0) hz) 3 rfl rfl (fl_B_18) (bed_g3 hG hr0) (Nat.succ_pos _) ?_
  refine z_iconst dX0_clear_25 ?_
  refine z_callS (As := [vR g (r0 + 3), vI 0]) (rest := []) (s_fill (bed_sh3 hr0) (Nat.succ_pos _) (Nat.le_trans (bed_le3 hr0) hz) (inRd (x := 0) (by decide)) (by decide)) dX0_clear_26 mw_fill (tin2 141 (by decide +kernel) rfl) st_fill rfl rfl rfl rfl (Nat.le_refl _) (Nat.le_of_eq hb.symm) (fun _ => ?_)
  show Zt _ _ _ _ 29 _ [] (z, (fillA (fillA (fillA (up2 I r0 0 0) (r0 + 1) 96 0) (r0 + 2) 96 (-1)) (r0 + 3) 96 0), J, G)
  refine z_aload_n dX0_clear_29 rfl ?_
  refine y_getR dX0_clear_30 cl0 (bed_sh hr0) (bed_pos hr0) (Nat.le_trans (bed_le hr0) hz) 4 rfl rfl (fl_B_21) (bed_g4 hG hr0) (Nat.succ_pos _) ?_
  refine z_iconst dX0_clear_33 ?_
  refine z_callS (As := [vR g (r0 + 4), vI (-1)]) (rest := []) (s_fill (bed_sh4 hr0) (Nat.succ_pos _) (Nat.le_trans (bed_le4 hr0) hz) (inRd (x := (-1)) (by decide)) (by decide)) dX0_clear_34 mw_fill (tin2 141 (by decide +kernel) rfl) st_fill rfl rfl rfl rfl (Nat.le_refl _) (Nat.le_of_eq hb.symm) (fun _ => ?_)
  show Zt _ _ _ _ 37 _ [] (z, (fillA (fillA (fillA (fillA (up2 I r0 0 0) (r0 + 1) 96 0) (r0 + 2) 96 (-1)) (r0 + 3) 96 0) (r0 + 4) 72 (-1)), J, G)
  refine z_aload_n dX0_clear_37 rfl ?_
  refine y_getR dX0_clear_38 cl0 (bed_sh hr0) (bed_pos hr0) (Nat.le_trans (bed_le hr0) hz) 5 rfl rfl (fl_B_24) (bed_g5 hG hr0) (Nat.succ_pos _) ?_
  refine z_iconst dX0_clear_41 ?_
  refine z_callS (As := [vR g (r0 + 5), vI 0]) (rest := []) (s_fill (bed_sh5 hr0) (Nat.succ_pos _) (Nat.le_trans (bed_le5 hr0) hz) (inRd (x := 0) (by decide)) (by decide)) dX0_clear_42 mw_fill (tin2 141 (by decide +kernel) rfl) st_fill rfl rfl rfl rfl (Nat.le_refl _) (Nat.le_of_eq hb.symm) (fun _ => ?_)
  show Zt _ _ _ _ 45 _ [] (z, (fillA (fillA (fillA (fillA (fillA (up2 I r0 0 0) (r0 + 1) 96 0) (r0 + 2) 96 (-1)) (r0 + 3) 96 0) (r0 + 4) 72 (-1)) (r0 + 5) 8 0), J, G)
  refine z_aload_n dX0_clear_45 rfl ?_
  refine y_getR dX0_clear_46 cl0 (bed_sh hr0) (bed_pos hr0) (Nat.le_trans (bed_le hr0) hz) 6 rfl rfl (fl_B_27) (bed_g6 hG hr0) (Nat.succ_pos _) ?_
  refine z_iconst dX0_clear_49 ?_
  refine z_callS (As := [vR g (r0 + 6), vI 0]) (rest := []) (s_fill (bed_sh6 hr0) (Nat.succ_pos _) (Nat.le_trans (bed_le6 hr0) hz) (inRd (x := 0) (by decide)) (by decide)) dX0_clear_50 mw_fill (tin2 141 (by decide +kernel) rfl) st_fill rfl rfl rfl rfl (Nat.le_refl _) (Nat.le_of_eq hb.symm) (fun _ => ?_)
  show Zt _ _ _ _ 53 _ [] (z, (fillA (fillA (fillA (fillA (fillA (fillA (up2 I r0 0 0) (r0 + 1) 96 0) (r0 + 2) 96 (-1)) (r0 + 3) 96 0) (r0 + 4) 72 (-1)) (r0 + 5) 8 0) (r0 + 6) 8 0), J, G)
  obtain rfl := someE h
  exact z_vret dX0_clear_53 hE trivial rfl
set_option maxHeartbeats 1000000 in
theorem s_B_copyFrom {l : Launch} {g : GX} {z : Nat} {G : Nat → Nat → Nat} {F : Nat} (hz : 295 ≤ z) (hG : lyX G) {r0 : Nat} {r1 : Nat} {I J : Nat → Nat → Int} (hr0 : isBed r0) (hr1 : isBed r1) {res : MI} (h : f_B_copyFrom F r0 r1 I = some res) : Spec l g 14 yX0_copyFrom cX0_copyFrom 2 none [vR g r0, vR g r1] (z, I, J, G) none True (z, res, J, G) := by
  refine spec_of (μ := mu_B_copyFrom) (k := 0) (L0 := [some (vR g r0), some (vR g r1)]) rfl mw_B_copyFrom rfl rfl (Nat.le_refl _) (fun φ hb hE => ?_)
  refine z_aload_n dX0_copyFrom_0 rfl ?_
  refine z_aload_n dX0_copyFrom_1 rfl ?_
  refine z_nm (fun hN1 => ?_)
  refine y_getI dX0_copyFrom_2 cl0 (bed_sh hr1) (bed_pos hr1) (Nat.le_trans (bed_le hr1) hz) 0 rfl rfl (fl_B_30) ?_
  refine y_putI dX0_copyFrom_5 cl0 (bed_sh hr0) (bed_pos hr0) (Nat.le_trans (bed_le hr0) hz) 0 rfl rfl rfl (fl_B_30) rfl rfl (hN1.1 r1 0) ?_
  refine z_aload_n dX0_copyFrom_8 rfl ?_
  refine y_getR dX0_copyFrom_9 cl0 (bed_sh hr1) (bed_pos hr1) (Nat.le_trans (bed_le hr1) hz) 1 rfl rfl (fl_B_9) (bed_g1 hG hr1) (Nat.succ_pos _) ?_
  refine z_iconst dX0_copyFrom_12 ?_
  refine z_aload_n dX0_copyFrom_13 rfl ?_
  refine y_getR dX0_copyFrom_14 cl0 (bed_sh hr0) (bed_pos hr0) (Nat.le_trans (bed_le hr0) hz) 1 rfl rfl (fl_B_9) (bed_g1 hG hr0) (Nat.succ_pos _) ?_
  refine z_iconst dX0_copyFrom_17 ?_
  refine z_bipush dX0_copyFrom_18 (by decide +kernel) ?_
  refine y_copy dX0_copyFrom_20 (bed_sh1 hr1) (Nat.succ_pos _) (Nat.le_trans (bed_le1 hr1) hz) (bed_sh1 hr0) (Nat.succ_pos _) (Nat.le_trans (bed_le1 hr0) hz) (inRd (x := 96) (by decide)) (by decide) (tin4 64 (by decide +kernel) rfl) ac_n ac_s ac_i rfl rfl ?_
  show Zt _ _ _ _ 23 _ [] (z, (cpA (up2 I r0 0 (I r1 0)) (r1 + 1) (r0 + 1) 96), J, G)
  refine z_aload_n dX0_copyFrom_23 rfl ?_
  refine y_getR dX0_copyFrom_24 cl0 (bed_sh hr1) (bed_pos hr1) (Nat.le_trans (bed_le hr1) hz) 2 rfl rfl (fl_B_15) (bed_g2 hG hr1) (Nat.succ_pos _) ?_
  refine z_iconst dX0_copyFrom_27 ?_
  refine z_aload_n dX0_copyFrom_28 rfl ?_
  refine y_getR dX0_copyFrom_29 cl0 (bed_sh hr0) (bed_pos hr0) (Nat.le_trans (bed_le hr0) hz) 2 rfl rfl (fl_B_15) (bed_g2 hG hr0) (Nat.succ_pos _) ?_
  refine z_iconst dX0_copyFrom_32 ?_
  refine z_bipush dX0_copyFrom_33 (by decide +kernel) ?_
  refine y_copy dX0_copyFrom_35 (bed_sh2 hr1) (Nat.succ_pos _) (Nat.le_trans (bed_le2 hr1) hz) (bed_sh2 hr0) (Nat.succ_pos _) (Nat.le_trans (bed_le2 hr0) hz) (inRd (x := 96) (by decide)) (by decide) (tin4 64 (by decide +kernel) rfl) ac_n ac_s ac_i rfl rfl ?_
  show Zt _ _ _ _ 38 _ [] (z, (cpA (cpA (up2 I r0 0 (I r1 0)) (r1 + 1) (r0 + 1) 96) (r1 + 2) (r0 + 2) 96), J, G)
  refine z_aload_n dX0_copyFrom_38 rfl ?_
  refine y_getR dX0_copyFrom_39 cl0 (bed_sh hr1) (bed_pos hr1) (Nat.le_trans (bed_le hr1) hz) 3 rfl rfl (fl_B_18) (bed_g3 hG hr1) (Nat.succ_pos _) ?_
  refine z_iconst dX0_copyFrom_42 ?_
  refine z_aload_n dX0_copyFrom_43 rfl ?_
  refine y_getR dX0_copyFrom_44 cl0 (bed_sh hr0) (bed_pos hr0) (Nat.le_trans (bed_le hr0) hz) 3 rfl rfl (fl_B_18) (bed_g3 hG hr0) (Nat.succ_pos _) ?_
  refine z_iconst dX0_copyFrom_47 ?_
  refine z_bipush dX0_copyFrom_48 (by decide +kernel) ?_
  refine y_copy dX0_copyFrom_50 (bed_sh3 hr1) (Nat.succ_pos _) (Nat.le_trans (bed_le3 hr1) hz) (bed_sh3 hr0) (Nat.succ_pos _) (Nat.le_trans (bed_le3 hr0) hz) (inRd (x := 96) (by decide)) (by decide) (tin4 64 (by decide +kernel) rfl) ac_n ac_s ac_i rfl rfl ?_
  show Zt _ _ _ _ 53 _ [] (z, (cpA (cpA (cpA (up2 I r0 0 (I r1 0)) (r1 + 1) (r0 + 1) 96) (r1 + 2) (r0 + 2) 96) (r1 + 3) (r0 + 3) 96), J, G)
  refine z_aload_n dX0_copyFrom_53 rfl ?_
  refine y_getR dX0_copyFrom_54 cl0 (bed_sh hr1) (bed_pos hr1) (Nat.le_trans (bed_le hr1) hz) 4 rfl rfl (fl_B_21) (bed_g4 hG hr1) (Nat.succ_pos _) ?_
  refine z_iconst dX0_copyFrom_57 ?_
  refine z_aload_n dX0_copyFrom_58 rfl ?_
  refine y_getR dX0_copyFrom_59 cl0 (bed_sh hr0) (bed_pos hr0) (Nat.le_trans (bed_le hr0) hz) 4 rfl rfl (fl_B_21) (bed_g4 hG hr0) (Nat.succ_pos _) ?_
  refine z_iconst dX0_copyFrom_62 ?_
  refine z_bipush dX0_copyFrom_63 (by decide +kernel) ?_
  refine y_copy dX0_copyFrom_65 (bed_sh4 hr1) (Nat.succ_pos _) (Nat.le_trans (bed_le4 hr1) hz) (bed_sh4 hr0) (Nat.succ_pos _) (Nat.le_trans (bed_le4 hr0) hz) (inRd (x := 72) (by decide)) (by decide) (tin4 64 (by decide +kernel) rfl) ac_n ac_s ac_i rfl rfl ?_
  show Zt _ _ _ _ 68 _ [] (z, (cpA (cpA (cpA (cpA (up2 I r0 0 (I r1 0)) (r1 + 1) (r0 + 1) 96) (r1 + 2) (r0 + 2) 96) (r1 + 3) (r0 + 3) 96) (r1 + 4) (r0 + 4) 72), J, G)
  refine z_aload_n dX0_copyFrom_68 rfl ?_
  refine y_getR dX0_copyFrom_69 cl0 (bed_sh hr1) (bed_pos hr1) (Nat.le_trans (bed_le hr1) hz) 5 rfl rfl (fl_B_24) (bed_g5 hG hr1) (Nat.succ_pos _) ?_
  refine z_iconst dX0_copyFrom_72 ?_
  refine z_aload_n dX0_copyFrom_73 rfl ?_
  refine y_getR dX0_copyFrom_74 cl0 (bed_sh hr0) (bed_pos hr0) (Nat.le_trans (bed_le hr0) hz) 5 rfl rfl (fl_B_24) (bed_g5 hG hr0) (Nat.succ_pos _) ?_
  refine z_iconst dX0_copyFrom_77 ?_
  refine z_bipush dX0_copyFrom_78 (by decide +kernel) ?_
  refine y_copy dX0_copyFrom_80 (bed_sh5 hr1) (Nat.succ_pos _) (Nat.le_trans (bed_le5 hr1) hz) (bed_sh5 hr0) (Nat.succ_pos _) (Nat.le_trans (bed_le5 hr0) hz) (inRd (x := 8) (by decide)) (by decide) (tin4 64 (by decide +kernel) rfl) ac_n ac_s ac_i rfl rfl ?_
  show Zt _ _ _ _ 83 _ [] (z, (cpA (cpA (cpA (cpA (cpA (up2 I r0 0 (I r1 0)) (r1 + 1) (r0 + 1) 96) (r1 + 2) (r0 + 2) 96) (r1 + 3) (r0 + 3) 96) (r1 + 4) (r0 + 4) 72) (r1 + 5) (r0 + 5) 8), J, G)
  refine z_aload_n dX0_copyFrom_83 rfl ?_
  refine y_getR dX0_copyFrom_84 cl0 (bed_sh hr1) (bed_pos hr1) (Nat.le_trans (bed_le hr1) hz) 6 rfl rfl (fl_B_27) (bed_g6 hG hr1) (Nat.succ_pos _) ?_
  refine z_iconst dX0_copyFrom_87 ?_
  refine z_aload_n dX0_copyFrom_88 rfl ?_
  refine y_getR dX0_copyFrom_89 cl0 (bed_sh hr0) (bed_pos hr0) (Nat.le_trans (bed_le hr0) hz) 6 rfl rfl (fl_B_27) (bed_g6 hG hr0) (Nat.succ_pos _) ?_
  refine z_iconst dX0_copyFrom_92 ?_
  refine z_bipush dX0_copyFrom_93 (by decide +kernel) ?_
  refine y_copy dX0_copyFrom_95 (bed_sh6 hr1) (Nat.succ_pos _) (Nat.le_trans (bed_le6 hr1) hz) (bed_sh6 hr0) (Nat.succ_pos _) (Nat.le_trans (bed_le6 hr0) hz) (inRd (x := 8) (by decide)) (by decide) (tin4 64 (by decide +kernel) rfl) ac_n ac_s ac_i rfl rfl ?_
  show Zt _ _ _ _ 98 _ [] (z, (cpA (cpA (cpA (cpA (cpA (cpA (up2 I r0 0 (I r1 0)) (r1 + 1) (r0 + 1) 96) (r1 + 2) (r0 + 2) 96) (r1 + 3) (r0 + 3) 96) (r1 + 4) (r0 + 4) 72) (r1 + 5) (r0 + 5) 8) (r1 + 6) (r0 + 6) 8), J, G)
  obtain rfl := someE h
  exact z_vret dX0_copyFrom_98 hE trivial rfl
set_option maxHeartbeats 1000000 in
theorem s_B_left {l : Launch} {g : GX} {z : Nat} {G : Nat → Nat → Nat} {F : Nat} (hz : 295 ≤ z) (hG : lyX G) {r0 : Nat} {r1 : Nat} {x2 : Int} {I J : Nat → Nat → Int} (hr0 : isBed r0) (hr1 : isRiv r1) (hx2 : inR x2) {res : Int} (h : f_B_left F r0 r1 x2 I = some res) : Spec l g 0 yX0_left cX0_left 3 (some .int) [vR g r0, vR g r1, vI x2] (z, I, J, G) (some (vI res)) (inR res) (z, I, J, G) := by
  refine spec_of (μ := mu_B_left) (k := 0) (L0 := [some (vR g r0), some (vR g r1), some (vI x2)]) rfl mw_B_left rfl rfl (Nat.le_refl _) (fun φ hb hE => ?_)
  refine z_aload_n dX0_left_0 rfl ?_
  refine y_getNR (host := "FarewellStones") dX0_left_1 cl6 (riv_sh hr1) (riv_pos hr1) (Nat.le_trans (riv_le hr1) hz) 8 rfl rfl (flN_B_46) (riv_g8 hG hr1) (Nat.succ_pos _) ?_
  refine z_iload_n dX0_left_4 rfl ?_
  obtain ⟨hg1, h⟩ := guardE h
  refine z_nm (fun hN2 => ?_)
  refine y_iald dX0_left_5 (riv_sh8 hr1) (Nat.succ_pos _) (Nat.le_trans (riv_le8 hr1) hz) hx2 hg1 ?_
  refine z_aload_n dX0_left_6 rfl ?_
  refine y_getR dX0_left_7 cl0 (bed_sh hr0) (bed_pos hr0) (Nat.le_trans (bed_le hr0) hz) 5 rfl rfl (fl_B_24) (bed_g5 hG hr0) (Nat.succ_pos _) ?_
  refine z_iload_n dX0_left_10 rfl ?_
  refine y_iald dX0_left_11 (bed_sh5 hr0) (Nat.succ_pos _) (Nat.le_trans (bed_le5 hr0) hz) hx2 hg1 ?_
  refine z_isub dX0_left_12 ?_
  obtain rfl := someE h
  exact z_iret dX0_left_13 hE (inR_w32 _) rfl
set_option maxHeartbeats 1000000 in
theorem s_B_mayThrow {l : Launch} {g : GX} {z : Nat} {G : Nat → Nat → Nat} {F : Nat} (hz : 295 ≤ z) (hG : lyX G) {r0 : Nat} {r1 : Nat} {x2 : Int} {I J : Nat → Nat → Int} (hr0 : isBed r0) (hr1 : isRiv r1) (hx2 : inR x2) {res : Int} (h : f_B_mayThrow F r0 r1 x2 I = some res) : Spec l g 1 yX0_mayThrow cX0_mayThrow 3 (some .boolean) [vR g r0, vR g r1, vI x2] (z, I, J, G) (some (vI res)) (res = 0 ∨ res = 1) (z, I, J, G) := by
  refine spec_of (μ := mu_B_mayThrow) (k := 0) (L0 := [some (vR g r0), some (vR g r1), some (vI x2)]) rfl mw_B_mayThrow rfl rfl (Nat.le_refl _) (fun φ hb hE => ?_)
  refine z_aload_n dX0_mayThrow_0 rfl ?_
  refine z_aload_n dX0_mayThrow_1 rfl ?_
  refine z_iload_n dX0_mayThrow_2 rfl ?_
  obtain ⟨q1, hq2, h⟩ := bindE h
  refine z_callV (As := [vR g r1, vI x2]) (rest := []) (s_B_left hz hG hr0 hr1 hx2 hq2) dX0_mayThrow_3 mw_B_left cl0 (bed_sh hr0) (bed_pos hr0) (Nat.le_trans (bed_le hr0) hz) ml_B_51 im_B_left se_B_left rfl rfl rfl rfl (Nat.le_refl _) (Nat.le_of_eq hb.symm) (fun hp3 => ?_)
  show Zt _ _ _ _ 6 _ [vI q1] (z, I, J, G)
  refine z_if_le (tgt := 26) dX0_mayThrow_6 (by decide) hp3 (fun hc4 => ?_) (fun hc4 => ?_)
  · replace h := ifT hc4 h
    refine z_iconst dX0_mayThrow_26 ?_
    obtain rfl := someE h
    exact z_zret dX0_mayThrow_27 hE b01_0 b01_0 rfl
  replace h := ifF hc4 h
  refine z_aload_n dX0_mayThrow_9 rfl ?_
  refine z_nm (fun hN5 => ?_)
  refine y_getI dX0_mayThrow_10 cl0 (bed_sh hr0) (bed_pos hr0) (Nat.le_trans (bed_le hr0) hz) 0 rfl rfl (fl_B_30) ?_
  refine z_aload_n dX0_mayThrow_13 rfl ?_
  refine y_getNR (host := "FarewellStones") dX0_mayThrow_14 cl6 (riv_sh hr1) (riv_pos hr1) (Nat.le_trans (riv_le hr1) hz) 6 rfl rfl (flN_B_55) (riv_g6 hG hr1) (Nat.succ_pos _) ?_
  refine z_iload_n dX0_mayThrow_17 rfl ?_
  obtain ⟨hg6, h⟩ := guardE h
  refine y_iald dX0_mayThrow_18 (riv_sh6 hr1) (Nat.succ_pos _) (Nat.le_trans (riv_le6 hr1) hz) hx2 hg6 ?_
  refine z_icmp_lt (tgt := 26) dX0_mayThrow_19 (by decide) (hN5.1 r0 0) (hN5.1 (r1 + 3) (x2).toNat) (fun hc7 => ?_) (fun hc7 => ?_)
  · replace h := ifT hc7 h
    refine z_iconst dX0_mayThrow_26 ?_
    obtain rfl := someE h
    exact z_zret dX0_mayThrow_27 hE b01_0 b01_0 rfl
  replace h := ifF hc7 h
  refine z_iconst dX0_mayThrow_22 ?_
  refine z_goto (tgt := 27) dX0_mayThrow_23 (by decide) ?_
  obtain rfl := someE h
  exact z_zret dX0_mayThrow_27 hE b01_1 b01_1 rfl
set_option maxHeartbeats 1000000 in
theorem s_X_cellNumber {l : Launch} {g : GX} {z : Nat} {G : Nat → Nat → Nat} {F : Nat} (hz : 295 ≤ z) (hG : lyX G) {x0 : Int} {x1 : Int} {I J : Nat → Nat → Int} (hx0 : inR x0) (hx1 : inR x1) {res : Int} (h : f_X_cellNumber F x0 x1 I = some res) : Spec l g 0 yX10_cellNumber cX10_cellNumber 2 (some .int) [vI x0, vI x1] (z, I, J, G) (some (vI res)) (inR res) (z, I, J, G) := by
  refine spec_of (μ := mu_X_cellNumber) (k := 0) (L0 := [some (vI x0), some (vI x1)]) rfl mw_X_cellNumber rfl rfl (Nat.le_refl _) (fun φ hb hE => ?_)
  refine z_iload_n dX10_cellNumber_0 rfl ?_
  refine z_bipush dX10_cellNumber_1 (by decide +kernel) ?_
  refine z_imul dX10_cellNumber_3 ?_
  refine z_iload_n dX10_cellNumber_4 rfl ?_
  refine z_iadd dX10_cellNumber_5 ?_
  obtain rfl := someE h
  exact z_iret dX10_cellNumber_6 hE (inR_w32 _) rfl
set_option maxHeartbeats 1000000 in
theorem s_B_layOn {l : Launch} {g : GX} {z : Nat} {G : Nat → Nat → Nat} {F : Nat} (hz : 295 ≤ z) (hG : lyX G) {r0 : Nat} {x1 : Int} {x2 : Int} {x3 : Int} {x4 : Int} {x5 : Int} {I J : Nat → Nat → Int} (hr0 : isBed r0) (hx1 : inR x1) (hx2 : inR x2) (hx3 : inR x3) (hx4 : inR x4) (hx5 : inR x5) {res : MI} (h : f_B_layOn F r0 x1 x2 x3 x4 x5 I = some res) : Spec l g 0 yX0_layOn cX0_layOn 6 none [vR g r0, vI x1, vI x2, vI x3, vI x4, vI x5] (z, I, J, G) none True (z, res, J, G) := by
  refine spec_of (μ := mu_B_layOn) (k := 0) (L0 := [some (vR g r0), some (vI x1), some (vI x2), some (vI x3), some (vI x4), some (vI x5)]) rfl mw_B_layOn rfl rfl (Nat.le_refl _) (fun φ hb hE => ?_)
  refine z_aload_n dX0_layOn_0 rfl ?_
  refine y_getR dX0_layOn_1 cl0 (bed_sh hr0) (bed_pos hr0) (Nat.le_trans (bed_le hr0) hz) 4 rfl rfl (fl_B_21) (bed_g4 hG hr0) (Nat.succ_pos _) ?_
  refine z_iload_n dX0_layOn_4 rfl ?_
  refine z_aload_n dX0_layOn_5 rfl ?_
  refine y_getR dX0_layOn_6 cl0 (bed_sh hr0) (bed_pos hr0) (Nat.le_trans (bed_le hr0) hz) 2 rfl rfl (fl_B_15) (bed_g2 hG hr0) (Nat.succ_pos _) ?_
  refine z_iload_n dX0_layOn_9 rfl ?_
  obtain ⟨hg1, h⟩ := guardE h
  refine z_nm (fun hN2 => ?_)
  refine y_iald dX0_layOn_10 (bed_sh2 hr0) (Nat.succ_pos _) (Nat.le_trans (bed_le2 hr0) hz) hx1 hg1 ?_
  obtain ⟨hg3, h⟩ := guardE h
  refine y_iast dX0_layOn_11 (bed_sh4 hr0) (Nat.succ_pos _) (Nat.le_trans (bed_le4 hr0) hz) hx3 hg3 (hN2.1 (r0 + 2) (x1).toNat) ?_
  refine z_aload_n dX0_layOn_12 rfl ?_
  refine y_getR dX0_layOn_13 cl0 (bed_sh hr0) (bed_pos hr0) (Nat.le_trans (bed_le hr0) hz) 2 rfl rfl (fl_B_15) (bed_g2 hG hr0) (Nat.succ_pos _) ?_
  refine z_iload_n dX0_layOn_16 rfl ?_
  refine z_iload_n dX0_layOn_17 rfl ?_
  refine y_iast dX0_layOn_18 (bed_sh2 hr0) (Nat.succ_pos _) (Nat.le_trans (bed_le2 hr0) hz) hx1 hg1 hx2 ?_
  refine z_aload_n dX0_layOn_19 rfl ?_
  refine y_getR dX0_layOn_20 cl0 (bed_sh hr0) (bed_pos hr0) (Nat.le_trans (bed_le hr0) hz) 1 rfl rfl (fl_B_9) (bed_g1 hG hr0) (Nat.succ_pos _) ?_
  refine z_iload_n dX0_layOn_23 rfl ?_
  refine z_dup2 dX0_layOn_24 rfl rfl ?_
  refine z_nm (fun hN4 => ?_)
  refine y_iald dX0_layOn_25 (bed_sh1 hr0) (Nat.succ_pos _) (Nat.le_trans (bed_le1 hr0) hz) hx1 hg1 ?_
  refine z_iload dX0_layOn_26 rfl ?_
  refine z_iadd dX0_layOn_28 ?_
  refine y_iast dX0_layOn_29 (bed_sh1 hr0) (Nat.succ_pos _) (Nat.le_trans (bed_le1 hr0) hz) hx1 hg1 (inR_w32 _) ?_
  refine z_aload_n dX0_layOn_30 rfl ?_
  refine y_getR dX0_layOn_31 cl0 (bed_sh hr0) (bed_pos hr0) (Nat.le_trans (bed_le hr0) hz) 3 rfl rfl (fl_B_18) (bed_g3 hG hr0) (Nat.succ_pos _) ?_
  refine z_iload_n dX0_layOn_34 rfl ?_
  refine z_iload dX0_layOn_35 rfl ?_
  refine y_iast dX0_layOn_37 (bed_sh3 hr0) (Nat.succ_pos _) (Nat.le_trans (bed_le3 hr0) hz) hx1 hg1 hx5 ?_
  obtain rfl := someE h
  exact z_vret dX0_layOn_38 hE trivial rfl
set_option maxHeartbeats 1000000 in
theorem s_R_drift {l : Launch} {g : GX} {z : Nat} {G : Nat → Nat → Nat} {F : Nat} (hz : 295 ≤ z) (hG : lyX G) {r0 : Nat} {x1 : Int} {x2 : Int} {I J : Nat → Nat → Int} (hr0 : isRiv r0) (hx1 : inR x1) (hx2 : inR x2) {res : Int} (h : f_R_drift F r0 x1 x2 I = some res) : Spec l g 0 yX6_drift cX6_drift 4 (some .int) [vR g r0, vI x1, vI x2] (z, I, J, G) (some (vI res)) (inR res) (z, I, J, G) := by
  refine spec_of (μ := mu_R_drift) (k := 1) (L0 := [some (vR g r0), some (vI x1), some (vI x2), none]) rfl mw_R_drift rfl rfl (Nat.le_refl _) (fun φ hb hE => ?_)
  refine z_aload_n dX6_drift_0 rfl ?_
  refine y_getR dX6_drift_1 cl6 (riv_sh hr0) (riv_pos hr0) (Nat.le_trans (riv_le hr0) hz) 7 rfl rfl (fl_R_21) (riv_g7 hG hr0) (Nat.succ_pos _) ?_
  refine z_iload_n dX6_drift_4 rfl ?_
  obtain ⟨hg1, h⟩ := guardE h
  refine z_nm (fun hN2 => ?_)
  refine y_iald dX6_drift_5 (riv_sh7 hr0) (Nat.succ_pos _) (Nat.le_trans (riv_le7 hr0) hz) hx1 hg1 ?_
  refine z_istore_n (L' := [some (vR g r0), some (vI x1), some (vI x2), some (vI (I (r0 + 4) (x1).toNat))]) dX6_drift_6 rfl rfl rfl ?_
  refine z_iload_n dX6_drift_7 rfl ?_
  refine z_if_gt (tgt := 15) dX6_drift_8 (by decide) (hN2.1 (r0 + 4) (x1).toNat) (fun hc3 => ?_) (fun hc3 => ?_)
  · replace h := ifT hc3 h
    refine z_aload_n dX6_drift_15 rfl ?_
    refine y_getR dX6_drift_16 cl6 (riv_sh hr0) (riv_pos hr0) (Nat.le_trans (riv_le hr0) hz) 4 rfl rfl (fl_R_15) (riv_g4 hG hr0) (Nat.succ_pos _) ?_
    refine z_iload_n dX6_drift_19 rfl ?_
    obtain ⟨hg4, h⟩ := guardE h
    refine y_iald dX6_drift_20 (riv_sh4 hr0) (Nat.succ_pos _) (Nat.le_trans (riv_le4 hr0) hz) hx2 hg4 ?_
    refine z_iload_n dX6_drift_21 rfl ?_
    obtain ⟨hd5, h⟩ := guardE h
    refine z_idiv dX6_drift_22 (hN2.1 (r0 + 4) (x1).toNat) hd5 ?_
    obtain rfl := someE h
    exact z_iret dX6_drift_23 hE inR_div rfl
  replace h := ifF hc3 h
  refine z_iconst dX6_drift_11 ?_
  refine z_goto (tgt := 23) dX6_drift_12 (by decide) ?_
  obtain rfl := someE h
  exact z_iret dX6_drift_23 hE (inRd (x := 0) (by decide)) rfl
set_option maxHeartbeats 1000000 in
theorem s_R_has {l : Launch} {g : GX} {z : Nat} {G : Nat → Nat → Nat} {F : Nat} (hz : 295 ≤ z) (hG : lyX G) {r0 : Nat} {x1 : Int} {x2 : Int} {I J : Nat → Nat → Int} (hr0 : isRiv r0) (hx1 : inR x1) (hx2 : inR x2) {res : Int} (h : f_R_has F r0 x1 x2 I = some res) : Spec l g 0 yX6_has cX6_has 3 (some .boolean) [vR g r0, vI x1, vI x2] (z, I, J, G) (some (vI res)) (res = 0 ∨ res = 1) (z, I, J, G) := by
  refine spec_of (μ := mu_R_has) (k := 0) (L0 := [some (vR g r0), some (vI x1), some (vI x2)]) rfl mw_R_has rfl rfl (Nat.le_refl _) (fun φ hb hE => ?_)
  refine z_iload_n dX6_has_0 rfl ?_
  refine z_if_lt (tgt := 28) dX6_has_1 (by decide) hx1 (fun hc1 => ?_) (fun hc1 => ?_)
  · replace h := ifT hc1 h
    refine z_iconst dX6_has_28 ?_
    obtain rfl := someE h
    exact z_zret dX6_has_29 hE b01_0 b01_0 rfl
  replace h := ifF hc1 h
  refine z_iload_n dX6_has_4 rfl ?_
  refine z_aload_n dX6_has_5 rfl ?_
  refine z_nm (fun hN2 => ?_)
  refine y_getI dX6_has_6 cl6 (riv_sh hr0) (riv_pos hr0) (Nat.le_trans (riv_le hr0) hz) 0 rfl rfl (fl_R_46) ?_
  refine z_icmp_ge (tgt := 28) dX6_has_9 (by decide) hx1 (hN2.1 r0 0) (fun hc3 => ?_) (fun hc3 => ?_)
  · replace h := ifT hc3 h
    refine z_iconst dX6_has_28 ?_
    obtain rfl := someE h
    exact z_zret dX6_has_29 hE b01_0 b01_0 rfl
  replace h := ifF hc3 h
  refine z_iload_n dX6_has_12 rfl ?_
  refine z_if_lt (tgt := 28) dX6_has_13 (by decide) hx2 (fun hc4 => ?_) (fun hc4 => ?_)
  · replace h := ifT hc4 h
    refine z_iconst dX6_has_28 ?_
    obtain rfl := someE h
    exact z_zret dX6_has_29 hE b01_0 b01_0 rfl
  replace h := ifF hc4 h
  refine z_iload_n dX6_has_16 rfl ?_
  refine z_aload_n dX6_has_17 rfl ?_
  refine y_getI dX6_has_18 cl6 (riv_sh hr0) (riv_pos hr0) (Nat.le_trans (riv_le hr0) hz) 1 rfl rfl (fl_R_50) ?_
  refine z_icmp_ge (tgt := 28) dX6_has_21 (by decide) hx2 (hN2.1 r0 1) (fun hc5 => ?_) (fun hc5 => ?_)
  · replace h := ifT hc5 h
    refine z_iconst dX6_has_28 ?_
    obtain rfl := someE h
    exact z_zret dX6_has_29 hE b01_0 b01_0 rfl
  replace h := ifF hc5 h
  refine z_iconst dX6_has_24 ?_
  refine z_goto (tgt := 29) dX6_has_25 (by decide) ?_
  obtain rfl := someE h
  exact z_zret dX6_has_29 hE b01_1 b01_1 rfl
set_option maxHeartbeats 1000000 in
theorem s_B_throwStone {l : Launch} {g : GX} {z : Nat} {G : Nat → Nat → Nat} {F : Nat} (hz : 295 ≤ z) (hG : lyX G) {r0 : Nat} {r1 : Nat} {x2 : Int} {x3 : Int} {x4 : Int} {I J : Nat → Nat → Int} (hr0 : isBed r0) (hr1 : isRiv r1) (hx2 : inR x2) (hx3 : inR x3) (hx4 : inR x4) {res : Int × MI} (h : f_B_throwStone F r0 r1 x2 x3 x4 I = some res) : Spec l g 1 yX0_throwStone cX0_throwStone 8 (some .int) [vR g r0, vR g r1, vI x2, vI x3, vI x4] (z, I, J, G) (some (vI res.1)) (inR res.1) (z, res.2, J, G) := by
  refine spec_of (μ := mu_B_throwStone) (k := 3) (L0 := [some (vR g r0), some (vR g r1), some (vI x2), some (vI x3), some (vI x4), none, none, none]) rfl mw_B_throwStone rfl rfl (Nat.le_refl _) (fun φ hb hE => ?_)
  refine z_aload_n dX0_throwStone_0 rfl ?_
  refine z_aload_n dX0_throwStone_1 rfl ?_
  refine z_iload_n dX0_throwStone_2 rfl ?_
  obtain ⟨q1, hq2, h⟩ := bindE h
  refine z_callV (As := [vR g r1, vI x2]) (rest := []) (s_B_left hz hG hr0 hr1 hx2 hq2) dX0_throwStone_3 mw_B_left cl0 (bed_sh hr0) (bed_pos hr0) (Nat.le_trans (bed_le hr0) hz) ml_B_51 im_B_left se_B_left rfl rfl rfl rfl (Nat.le_refl _) (Nat.le_of_eq hb.symm) (fun hp3 => ?_)
  show Zt _ _ _ _ 6 _ [vI q1] (z, I, J, G)
  refine z_if_le (tgt := 20) dX0_throwStone_6 (by decide) hp3 (fun hc4 => ?_) (fun hc4 => ?_)
  · replace h := ifT hc4 h
    refine z_bipush dX0_throwStone_20 (by decide +kernel) ?_
    obtain rfl := someE h
    exact z_iret dX0_throwStone_22 hE (inRd (x := (-2)) (by decide)) rfl
  replace h := ifF hc4 h
  refine z_aload_n dX0_throwStone_9 rfl ?_
  refine y_getR dX0_throwStone_10 cl0 (bed_sh hr0) (bed_pos hr0) (Nat.le_trans (bed_le hr0) hz) 5 rfl rfl (fl_B_24) (bed_g5 hG hr0) (Nat.succ_pos _) ?_
  refine z_iload_n dX0_throwStone_13 rfl ?_
  obtain ⟨hg5, h⟩ := guardE h
  refine z_nm (fun hN6 => ?_)
  refine y_iald dX0_throwStone_14 (bed_sh5 hr0) (Nat.succ_pos _) (Nat.le_trans (bed_le5 hr0) hz) hx2 hg5 ?_
  refine z_bipush dX0_throwStone_15 (by decide +kernel) ?_
  refine z_icmp_lt (tgt := 23) dX0_throwStone_17 (by decide) (hN6.1 (r0 + 5) (x2).toNat) (inRd (x := 9) (by decide)) (fun hc7 => ?_) (fun hc7 => ?_)
  · replace h := ifT hc7 h
    refine z_iload_n dX0_throwStone_23 rfl ?_
    refine z_bipush dX0_throwStone_24 (by decide +kernel) ?_
    refine z_imul dX0_throwStone_26 ?_
    refine z_aload_n dX0_throwStone_27 rfl ?_
    refine y_getR dX0_throwStone_28 cl0 (bed_sh hr0) (bed_pos hr0) (Nat.le_trans (bed_le hr0) hz) 5 rfl rfl (fl_B_24) (bed_g5 hG hr0) (Nat.succ_pos _) ?_
    refine z_iload_n dX0_throwStone_31 rfl ?_
    refine y_iald dX0_throwStone_32 (bed_sh5 hr0) (Nat.succ_pos _) (Nat.le_trans (bed_le5 hr0) hz) hx2 hg5 ?_
    refine z_iadd dX0_throwStone_33 ?_
    refine z_istore (L' := [some (vR g r0), some (vR g r1), some (vI x2), some (vI x3), some (vI x4), some (vI (w32 ((w32 (x2 * 9)) + (I (r0 + 5) (x2).toNat)))), none, none]) dX0_throwStone_34 rfl rfl rfl ?_
    refine z_aload_n dX0_throwStone_36 rfl ?_
    refine y_getR dX0_throwStone_37 cl0 (bed_sh hr0) (bed_pos hr0) (Nat.le_trans (bed_le hr0) hz) 5 rfl rfl (fl_B_24) (bed_g5 hG hr0) (Nat.succ_pos _) ?_
    refine z_iload_n dX0_throwStone_40 rfl ?_
    refine z_dup2 dX0_throwStone_41 rfl rfl ?_
    refine y_iald dX0_throwStone_42 (bed_sh5 hr0) (Nat.succ_pos _) (Nat.le_trans (bed_le5 hr0) hz) hx2 hg5 ?_
    refine z_iconst dX0_throwStone_43 ?_
    refine z_iadd dX0_throwStone_44 ?_
    refine y_iast dX0_throwStone_45 (bed_sh5 hr0) (Nat.succ_pos _) (Nat.le_trans (bed_le5 hr0) hz) hx2 hg5 (inR_w32 _) ?_
    refine z_iload_n dX0_throwStone_46 rfl ?_
    refine z_aload_n dX0_throwStone_47 rfl ?_
    refine z_iload_n dX0_throwStone_48 rfl ?_
    refine z_iload dX0_throwStone_49 rfl ?_
    obtain ⟨q8, hq9, h⟩ := bindE h
    refine z_callV (As := [vI x2, vI x4]) (rest := [vI x3]) (s_R_drift hz hG hr1 hx2 hx4 hq9) dX0_throwStone_51 mw_R_drift cl6 (riv_sh hr1) (riv_pos hr1) (Nat.le_trans (riv_le hr1) hz) ml_B_58 im_R_drift se_R_drift rfl rfl rfl rfl (Nat.le_refl _) (Nat.le_of_eq hb.symm) (fun hp10 => ?_)
    show Zt _ _ _ _ 54 _ [vI q8, vI x3] (z, (up2 I (r0 + 5) (x2).toNat (w32 ((I (r0 + 5) (x2).toNat) + 1))), J, G)
    refine z_iadd dX0_throwStone_54 ?_
    refine z_istore (L' := [some (vR g r0), some (vR g r1), some (vI x2), some (vI x3), some (vI x4), some (vI (w32 ((w32 (x2 * 9)) + (I (r0 + 5) (x2).toNat)))), some (vI (w32 (x3 + q8))), none]) dX0_throwStone_55 rfl rfl rfl ?_
    refine z_aload_n dX0_throwStone_57 rfl ?_
    refine z_iload dX0_throwStone_58 rfl ?_
    refine z_iload dX0_throwStone_60 rfl ?_
    obtain ⟨q11, hq12, h⟩ := bindE h
    refine z_callV (As := [vI (w32 (x3 + q8)), vI x4]) (rest := []) (s_R_has hz hG hr1 (inR_w32 _) hx4 hq12) dX0_throwStone_62 mw_R_has cl6 (riv_sh hr1) (riv_pos hr1) (Nat.le_trans (riv_le hr1) hz) ml_B_62 im_R_has se_R_has rfl rfl rfl rfl (Nat.le_refl _) (Nat.le_of_eq hb.symm) (fun hp13 => ?_)
    show Zt _ _ _ _ 65 _ [vI q11] (z, (up2 I (r0 + 5) (x2).toNat (w32 ((I (r0 + 5) (x2).toNat) + 1))), J, G)
    refine z_if_ne (tgt := 81) dX0_throwStone_65 (by decide) (inR_bool hp13) (fun hc14 => ?_) (fun hc14 => ?_)
    · replace h := ifT hc14 h
      refine z_iload dX0_throwStone_81 rfl ?_
      refine z_iload dX0_throwStone_83 rfl ?_
      obtain ⟨q15, hq16, h⟩ := bindE h
      refine z_callSN (host := "FarewellStones") (As := [vI (w32 (x3 + q8)), vI x4]) (rest := []) (s_X_cellNumber hz hG (inR_w32 _) hx4 hq16) dX0_throwStone_85 mw_X_cellNumber mlN_B_66 st_X_cellNumber rfl rfl rfl rfl (Nat.le_refl _) (Nat.le_of_eq hb.symm) (fun hp17 => ?_)
      show Zt _ _ _ _ 88 _ [vI q15] (z, (up2 I (r0 + 5) (x2).toNat (w32 ((I (r0 + 5) (x2).toNat) + 1))), J, G)
      refine z_istore (L' := [some (vR g r0), some (vR g r1), some (vI x2), some (vI x3), some (vI x4), some (vI (w32 ((w32 (x2 * 9)) + (I (r0 + 5) (x2).toNat)))), some (vI (w32 (x3 + q8))), some (vI q15)]) dX0_throwStone_88 rfl rfl rfl ?_
      refine z_aload_n dX0_throwStone_90 rfl ?_
      refine z_iload dX0_throwStone_91 rfl ?_
      refine z_iload dX0_throwStone_93 rfl ?_
      refine z_iload dX0_throwStone_95 rfl ?_
      refine z_iconst dX0_throwStone_97 ?_
      refine z_aload_n dX0_throwStone_98 rfl ?_
      refine z_nm (fun hN18 => ?_)
      refine y_getI dX0_throwStone_99 cl0 (bed_sh hr0) (bed_pos hr0) (Nat.le_trans (bed_le hr0) hz) 0 rfl rfl (fl_B_30) ?_
      obtain ⟨q19, hq20, h⟩ := bindE h
      refine z_callV (As := [vI q15, vI (w32 ((w32 (x2 * 9)) + (I (r0 + 5) (x2).toNat))), vI (w32 ((w32 (x2 * 9)) + (I (r0 + 5) (x2).toNat))), vI 1, vI ((up2 I (r0 + 5) (x2).toNat (w32 ((I (r0 + 5) (x2).toNat) + 1))) r0 0)]) (rest := []) (s_B_layOn hz hG hr0 hp17 (inR_w32 _) (inR_w32 _) (inRd (x := 1) (by decide)) (hN18.1 r0 0) hq20) dX0_throwStone_102 mw_B_layOn cl0 (bed_sh hr0) (bed_pos hr0) (Nat.le_trans (bed_le hr0) hz) ml_B_69 im_B_layOn se_B_layOn rfl rfl rfl rfl (Nat.le_refl _) (Nat.le_of_eq hb.symm) (fun hp21 => ?_)
      show Zt _ _ _ _ 105 _ [] (z, q19, J, G)
      refine z_iload dX0_throwStone_105 rfl ?_
      obtain rfl := someE h
      exact z_iret dX0_throwStone_107 hE hp17 rfl
    replace h := ifF (fun q => q hc14) h
    refine z_aload_n dX0_throwStone_68 rfl ?_
    refine y_getR dX0_throwStone_69 cl0 (bed_sh hr0) (bed_pos hr0) (Nat.le_trans (bed_le hr0) hz) 6 rfl rfl (fl_B_27) (bed_g6 hG hr0) (Nat.succ_pos _) ?_
    refine z_iload_n dX0_throwStone_72 rfl ?_
    refine z_dup2 dX0_throwStone_73 rfl rfl ?_
    refine z_nm (fun hN22 => ?_)
    refine y_iald dX0_throwStone_74 (bed_sh6 hr0) (Nat.succ_pos _) (Nat.le_trans (bed_le6 hr0) hz) hx2 hg5 ?_
    refine z_iconst dX0_throwStone_75 ?_
    refine z_iadd dX0_throwStone_76 ?_
    refine y_iast dX0_throwStone_77 (bed_sh6 hr0) (Nat.succ_pos _) (Nat.le_trans (bed_le6 hr0) hz) hx2 hg5 (inR_w32 _) ?_
    refine z_bipush dX0_throwStone_78 (by decide +kernel) ?_
    obtain rfl := someE h
    exact z_iret dX0_throwStone_80 hE (inRd (x := (-2)) (by decide)) rfl
  replace h := ifF hc7 h
  refine z_bipush dX0_throwStone_20 (by decide +kernel) ?_
  obtain rfl := someE h
  exact z_iret dX0_throwStone_22 hE (inRd (x := (-2)) (by decide)) rfl
set_option maxHeartbeats 1000000 in
theorem t_B_lose_L5 {l : Launch} {g : GX} {φ : CX} {z : Nat} {G : Nat → Nat → Nat} {F : Nat} (hb : cb φ = z) (hz : 295 ≤ z) (hG : lyX G) {r0 : Nat} {x2 : Int} {x3 : Int} {x4 : Int} {I J : Nat → Nat → Int} (hr0 : isBed r0) (hx2 : inR x2) (hx3 : inR x3) (hx4 : inR x4) {res : (MI) ⊕ (Int × Int × MI)} (h : f_B_lose_L5 F r0 x2 x3 x4 I = some res) (kE : ∀ e : MI, res = .inl e → ((True) → Zt l g φ mu_B_lose 41 [none, none, none, none, none] [] (z, e, J, G))) (kS : ∀ s : Int × Int × MI, res = .inr s → (inR s.1 ∧ inR s.2.1) → Zt l g φ mu_B_lose 5 [some (vR g r0), none, some (vI x2), some (vI s.1), some (vI s.2.1)] [] (z, s.2.2, J, G)) : Zt l g φ mu_B_lose 5 [some (vR g r0), none, some (vI x2), some (vI x3), some (vI x4)] [] (z, I, J, G) := by
  refine z_iload dX0_lose_5 rfl ?_
  refine z_iload_n dX0_lose_7 rfl ?_
  refine z_icmp_ge (tgt := 41) dX0_lose_8 (by decide) hx4 hx2 (fun hc1 => ?_) (fun hc1 => ?_)
  · replace h := ifT hc1 h
    refine z_weak (L' := [none, none, none, none, none]) (lsN (lsN (lsN (lsN (lsN ls0))))) ?_
    exact kE _ (someE h).symm trivial
  replace h := ifF hc1 h
  refine z_iload_n dX0_lose_11 rfl ?_
  refine z_if_lt (tgt := 41) dX0_lose_12 (by decide) hx3 (fun hc2 => ?_) (fun hc2 => ?_)
  · replace h := ifT hc2 h
    refine z_weak (L' := [none, none, none, none, none]) (lsN (lsN (lsN (lsN (lsN ls0))))) ?_
    exact kE _ (someE h).symm trivial
  replace h := ifF hc2 h
  refine z_aload_n dX0_lose_15 rfl ?_
  refine y_getR dX0_lose_16 cl0 (bed_sh hr0) (bed_pos hr0) (Nat.le_trans (bed_le hr0) hz) 6 rfl rfl (fl_B_27) (bed_g6 hG hr0) (Nat.succ_pos _) ?_
  refine z_iload_n dX0_lose_19 rfl ?_
  refine z_bipush dX0_lose_20 (by decide +kernel) ?_
  refine z_idiv dX0_lose_22 (inRd (x := 9) (by decide)) (by decide) ?_
  refine z_dup2 dX0_lose_23 rfl rfl ?_
  obtain ⟨hg3, h⟩ := guardE h
  refine z_nm (fun hN4 => ?_)
  refine y_iald dX0_lose_24 (bed_sh6 hr0) (Nat.succ_pos _) (Nat.le_trans (bed_le6 hr0) hz) inR_div hg3 ?_
  refine z_iconst dX0_lose_25 ?_
  refine z_iadd dX0_lose_26 ?_
  refine y_iast dX0_lose_27 (bed_sh6 hr0) (Nat.succ_pos _) (Nat.le_trans (bed_le6 hr0) hz) inR_div hg3 (inR_w32 _) ?_
  refine z_aload_n dX0_lose_28 rfl ?_
  refine y_getR dX0_lose_29 cl0 (bed_sh hr0) (bed_pos hr0) (Nat.le_trans (bed_le hr0) hz) 4 rfl rfl (fl_B_21) (bed_g4 hG hr0) (Nat.succ_pos _) ?_
  refine z_iload_n dX0_lose_32 rfl ?_
  obtain ⟨hg5, h⟩ := guardE h
  refine z_nm (fun hN6 => ?_)
  refine y_iald dX0_lose_33 (bed_sh4 hr0) (Nat.succ_pos _) (Nat.le_trans (bed_le4 hr0) hz) hx3 hg5 ?_
  refine z_istore_n (L' := [some (vR g r0), none, some (vI x2), some (vI ((up2 I (r0 + 6) ((div32 x3 9)).toNat (w32 ((I (r0 + 6) ((div32 x3 9)).toNat) + 1))) (r0 + 4) (x3).toNat)), some (vI x4)]) dX0_lose_34 rfl rfl rfl ?_
  refine z_iinc (L' := [some (vR g r0), none, some (vI x2), some (vI ((up2 I (r0 + 6) ((div32 x3 9)).toNat (w32 ((I (r0 + 6) ((div32 x3 9)).toNat) + 1))) (r0 + 4) (x3).toNat)), some (vI (w32 (x4 + 1)))]) dX0_lose_35 rfl rfl rfl rfl ?_
  refine z_goto (tgt := 5) dX0_lose_38 (by decide) ?_
  exact kS _ (someE h).symm ⟨(hN6.1 (r0 + 4) (x3).toNat), (inR_w32 _)⟩
theorem l_B_lose_L5 {l : Launch} {g : GX} {φ : CX} {z : Nat} {G : Nat → Nat → Nat} {F : Nat} (hb : cb φ = z) (hz : 295 ≤ z) (hG : lyX G) {r0 : Nat} {x2 : Int} {J : Nat → Nat → Int} (hr0 : isBed r0) (hx2 : inR x2) (n : Nat) (s : Int × Int × MI) (e : MI) (h : iter (fun s : Int × Int × MI => f_B_lose_L5 F r0 x2 s.1 s.2.1 s.2.2) n s = some e) (hs : inR s.1 ∧ inR s.2.1) (k : ((True) → Zt l g φ mu_B_lose 41 [none, none, none, none, none] [] (z, e, J, G))) : Zt l g φ mu_B_lose 5 [some (vR g r0), none, some (vI x2), some (vI s.1), some (vI s.2.1)] [] (z, s.2.2, J, G) := by
  refine iter_ind (Z := fun s : Int × Int × MI => Zt l g φ mu_B_lose 5 [some (vR g r0), none, some (vI x2), some (vI s.1), some (vI s.2.1)] [] (z, s.2.2, J, G)) (ZE := fun e : MI => ((True) → Zt l g φ mu_B_lose 41 [none, none, none, none, none] [] (z, e, J, G))) (Rg := fun s : Int × Int × MI => inR s.1 ∧ inR s.2.1) ?_ n s e h hs k
  intro s r hr hst kE kS
  exact t_B_lose_L5 hb hz hG hr0 hx2 hr.1 hr.2 hst kE kS
set_option maxHeartbeats 1000000 in
theorem s_B_lose {l : Launch} {g : GX} {z : Nat} {G : Nat → Nat → Nat} {F : Nat} (hz : 295 ≤ z) (hG : lyX G) {r0 : Nat} {x1 : Int} {x2 : Int} {I J : Nat → Nat → Int} (hr0 : isBed r0) (hx1 : inR x1) (hx2 : inR x2) {res : MI} (h : f_B_lose F r0 x1 x2 I = some res) : Spec l g 0 yX0_lose cX0_lose 5 none [vR g r0, vI x1, vI x2] (z, I, J, G) none True (z, res, J, G) := by
  refine spec_of (μ := mu_B_lose) (k := 2) (L0 := [some (vR g r0), some (vI x1), some (vI x2), none, none]) rfl mw_B_lose rfl rfl (Nat.le_refl _) (fun φ hb hE => ?_)
  refine z_iload_n dX0_lose_0 rfl ?_
  refine z_istore_n (L' := [some (vR g r0), some (vI x1), some (vI x2), some (vI x1), none]) dX0_lose_1 rfl rfl rfl ?_
  refine z_iconst dX0_lose_2 ?_
  refine z_istore (L' := [some (vR g r0), some (vI x1), some (vI x2), some (vI x1), some (vI 0)]) dX0_lose_3 rfl rfl rfl ?_
  refine z_weak (L' := [some (vR g r0), none, some (vI x2), some (vI x1), some (vI 0)]) (lsS (lsN (lsS (lsS (lsS ls0))))) ?_
  obtain ⟨e7, h8, h⟩ := bindE h
  refine l_B_lose_L5 hb hz hG hr0 hx2 _ _ _ h8 ⟨hx1, (inRd (x := 0) (by decide))⟩ ?_
  refine fun h9 => ?_
  obtain rfl := someE h
  exact z_vret dX0_lose_41 hE trivial rfl
set_option maxHeartbeats 1000000 in
theorem t_B_carryOff_L15 {l : Launch} {g : GX} {φ : CX} {z : Nat} {G : Nat → Nat → Nat} {F : Nat} (hb : cb φ = z) (hz : 295 ≤ z) (hG : lyX G) {r0 : Nat} {x1 : Int} {x2 : Int} {x3 : Int} {x4 : Int} {x5 : Int} {x6 : Int} {I J : Nat → Nat → Int} (hr0 : isBed r0) (hx1 : inR x1) (hx2 : inR x2) (hx3 : inR x3) (hx4 : inR x4) (hx5 : inR x5) (hx6 : inR x6) {res : (Int) ⊕ (Int × Int)} (h : f_B_carryOff_L15 F r0 x1 x2 x3 x4 x5 x6 I = some res) (kE : ∀ e : Int, res = .inl e → ((inR e) → Zt l g φ mu_B_carryOff 41 [some (vR g r0), some (vI x1), some (vI x2), some (vI x3), some (vI x4), some (vI e), none] [] (z, I, J, G))) (kS : ∀ s : Int × Int, res = .inr s → (inR s.1 ∧ inR s.2) → Zt l g φ mu_B_carryOff 15 [some (vR g r0), some (vI x1), some (vI x2), some (vI x3), some (vI x4), some (vI s.1), some (vI s.2)] [] (z, I, J, G)) : Zt l g φ mu_B_carryOff 15 [some (vR g r0), some (vI x1), some (vI x2), some (vI x3), some (vI x4), some (vI x5), some (vI x6)] [] (z, I, J, G) := by
  refine z_iload dX0_carryOff_15 rfl ?_
  refine z_iload_n dX0_carryOff_17 rfl ?_
  refine z_icmp_ge (tgt := 41) dX0_carryOff_18 (by decide) hx6 hx2 (fun hc3 => ?_) (fun hc3 => ?_)
  · replace h := ifT hc3 h
    refine z_weak (L' := [some (vR g r0), some (vI x1), some (vI x2), some (vI x3), some (vI x4), some (vI x5), none]) (lsS (lsS (lsS (lsS (lsS (lsS (lsN ls0))))))) ?_
    exact kE _ (someE h).symm hx5
  replace h := ifF hc3 h
  refine z_iload dX0_carryOff_21 rfl ?_
  refine z_if_lt (tgt := 41) dX0_carryOff_23 (by decide) hx5 (fun hc4 => ?_) (fun hc4 => ?_)
  · replace h := ifT hc4 h
    refine z_weak (L' := [some (vR g r0), some (vI x1), some (vI x2), some (vI x3), some (vI x4), some (vI x5), none]) (lsS (lsS (lsS (lsS (lsS (lsS (lsN ls0))))))) ?_
    exact kE _ (someE h).symm hx5
  replace h := ifF hc4 h
  refine z_aload_n dX0_carryOff_26 rfl ?_
  refine y_getR dX0_carryOff_27 cl0 (bed_sh hr0) (bed_pos hr0) (Nat.le_trans (bed_le hr0) hz) 4 rfl rfl (fl_B_21) (bed_g4 hG hr0) (Nat.succ_pos _) ?_
  refine z_iload dX0_carryOff_30 rfl ?_
  obtain ⟨hg5, h⟩ := guardE h
  refine z_nm (fun hN6 => ?_)
  refine y_iald dX0_carryOff_32 (bed_sh4 hr0) (Nat.succ_pos _) (Nat.le_trans (bed_le4 hr0) hz) hx5 hg5 ?_
  refine z_istore (L' := [some (vR g r0), some (vI x1), some (vI x2), some (vI x3), some (vI x4), some (vI (I (r0 + 4) (x5).toNat)), some (vI x6)]) dX0_carryOff_33 rfl rfl rfl ?_
  refine z_iinc (L' := [some (vR g r0), some (vI x1), some (vI x2), some (vI x3), some (vI x4), some (vI (I (r0 + 4) (x5).toNat)), some (vI (w32 (x6 + 1)))]) dX0_carryOff_35 rfl rfl rfl rfl ?_
  refine z_goto (tgt := 15) dX0_carryOff_38 (by decide) ?_
  exact kS _ (someE h).symm ⟨(hN6.1 (r0 + 4) (x5).toNat), (inR_w32 _)⟩
theorem l_B_carryOff_L15 {l : Launch} {g : GX} {φ : CX} {z : Nat} {G : Nat → Nat → Nat} {F : Nat} (hb : cb φ = z) (hz : 295 ≤ z) (hG : lyX G) {r0 : Nat} {x1 : Int} {x2 : Int} {x3 : Int} {x4 : Int} {I : Nat → Nat → Int} {J : Nat → Nat → Int} (hr0 : isBed r0) (hx1 : inR x1) (hx2 : inR x2) (hx3 : inR x3) (hx4 : inR x4) (n : Nat) (s : Int × Int) (e : Int) (h : iter (fun s : Int × Int => f_B_carryOff_L15 F r0 x1 x2 x3 x4 s.1 s.2 I) n s = some e) (hs : inR s.1 ∧ inR s.2) (k : ((inR e) → Zt l g φ mu_B_carryOff 41 [some (vR g r0), some (vI x1), some (vI x2), some (vI x3), some (vI x4), some (vI e), none] [] (z, I, J, G))) : Zt l g φ mu_B_carryOff 15 [some (vR g r0), some (vI x1), some (vI x2), some (vI x3), some (vI x4), some (vI s.1), some (vI s.2)] [] (z, I, J, G) := by
  refine iter_ind (Z := fun s : Int × Int => Zt l g φ mu_B_carryOff 15 [some (vR g r0), some (vI x1), some (vI x2), some (vI x3), some (vI x4), some (vI s.1), some (vI s.2)] [] (z, I, J, G)) (ZE := fun e : Int => ((inR e) → Zt l g φ mu_B_carryOff 41 [some (vR g r0), some (vI x1), some (vI x2), some (vI x3), some (vI x4), some (vI e), none] [] (z, I, J, G))) (Rg := fun s : Int × Int => inR s.1 ∧ inR s.2) ?_ n s e h hs k
  intro s r hr hst kE kS
  exact t_B_carryOff_L15 hb hz hG hr0 hx1 hx2 hx3 hx4 hr.1 hr.2 hst kE kS
set_option maxHeartbeats 1000000 in
theorem s_B_carryOff {l : Launch} {g : GX} {z : Nat} {G : Nat → Nat → Nat} {F : Nat} (hz : 295 ≤ z) (hG : lyX G) {r0 : Nat} {x1 : Int} {x2 : Int} {x3 : Int} {I J : Nat → Nat → Int} (hr0 : isBed r0) (hx1 : inR x1) (hx2 : inR x2) (hx3 : inR x3) {res : MI} (h : f_B_carryOff F r0 x1 x2 x3 I = some res) : Spec l g 1 yX0_carryOff cX0_carryOff 7 none [vR g r0, vI x1, vI x2, vI x3] (z, I, J, G) none True (z, res, J, G) := by
  refine spec_of (μ := mu_B_carryOff) (k := 3) (L0 := [some (vR g r0), some (vI x1), some (vI x2), some (vI x3), none, none, none]) rfl mw_B_carryOff rfl rfl (Nat.le_refl _) (fun φ hb hE => ?_)
  refine z_aload_n dX0_carryOff_0 rfl ?_
  refine y_getR dX0_carryOff_1 cl0 (bed_sh hr0) (bed_pos hr0) (Nat.le_trans (bed_le hr0) hz) 2 rfl rfl (fl_B_15) (bed_g2 hG hr0) (Nat.succ_pos _) ?_
  refine z_iload_n dX0_carryOff_4 rfl ?_
  obtain ⟨hg1, h⟩ := guardE h
  refine z_nm (fun hN2 => ?_)
  refine y_iald dX0_carryOff_5 (bed_sh2 hr0) (Nat.succ_pos _) (Nat.le_trans (bed_le2 hr0) hz) hx1 hg1 ?_
  refine z_istore (L' := [some (vR g r0), some (vI x1), some (vI x2), some (vI x3), some (vI (I (r0 + 2) (x1).toNat)), none, none]) dX0_carryOff_6 rfl rfl rfl ?_
  refine z_iload dX0_carryOff_8 rfl ?_
  refine z_istore (L' := [some (vR g r0), some (vI x1), some (vI x2), some (vI x3), some (vI (I (r0 + 2) (x1).toNat)), some (vI (I (r0 + 2) (x1).toNat)), none]) dX0_carryOff_10 rfl rfl rfl ?_
  refine z_iconst dX0_carryOff_12 ?_
  refine z_istore (L' := [some (vR g r0), some (vI x1), some (vI x2), some (vI x3), some (vI (I (r0 + 2) (x1).toNat)), some (vI (I (r0 + 2) (x1).toNat)), some (vI 1)]) dX0_carryOff_13 rfl rfl rfl ?_
  obtain ⟨e7, h8, h⟩ := bindE h
  refine l_B_carryOff_L15 hb hz hG hr0 hx1 hx2 hx3 (hN2.1 (r0 + 2) (x1).toNat) _ _ _ h8 ⟨(hN2.1 (r0 + 2) (x1).toNat), (inRd (x := 1) (by decide))⟩ ?_
  refine fun h9 => ?_
  refine z_iload dX0_carryOff_41 rfl ?_
  refine z_if_ge (tgt := 47) dX0_carryOff_43 (by decide) h9 (fun hc10 => ?_) (fun hc10 => ?_)
  · replace h := ifT hc10 h
    refine z_aload_n dX0_carryOff_47 rfl ?_
    refine y_getR dX0_carryOff_48 cl0 (bed_sh hr0) (bed_pos hr0) (Nat.le_trans (bed_le hr0) hz) 2 rfl rfl (fl_B_15) (bed_g2 hG hr0) (Nat.succ_pos _) ?_
    refine z_iload_n dX0_carryOff_51 rfl ?_
    refine z_aload_n dX0_carryOff_52 rfl ?_
    refine y_getR dX0_carryOff_53 cl0 (bed_sh hr0) (bed_pos hr0) (Nat.le_trans (bed_le hr0) hz) 4 rfl rfl (fl_B_21) (bed_g4 hG hr0) (Nat.succ_pos _) ?_
    refine z_iload dX0_carryOff_56 rfl ?_
    obtain ⟨hg11, h⟩ := guardE h
    refine y_iald dX0_carryOff_58 (bed_sh4 hr0) (Nat.succ_pos _) (Nat.le_trans (bed_le4 hr0) hz) h9 hg11 ?_
    obtain ⟨hg12, h⟩ := guardE h
    refine y_iast dX0_carryOff_59 (bed_sh2 hr0) (Nat.succ_pos _) (Nat.le_trans (bed_le2 hr0) hz) hx1 hg12 (hN2.1 (r0 + 4) (e7).toNat) ?_
    refine z_aload_n dX0_carryOff_60 rfl ?_
    refine y_getR dX0_carryOff_61 cl0 (bed_sh hr0) (bed_pos hr0) (Nat.le_trans (bed_le hr0) hz) 1 rfl rfl (fl_B_9) (bed_g1 hG hr0) (Nat.succ_pos _) ?_
    refine z_iload_n dX0_carryOff_64 rfl ?_
    refine z_dup2 dX0_carryOff_65 rfl rfl ?_
    refine z_nm (fun hN13 => ?_)
    refine y_iald dX0_carryOff_66 (bed_sh1 hr0) (Nat.succ_pos _) (Nat.le_trans (bed_le1 hr0) hz) hx1 hg12 ?_
    refine z_iload_n dX0_carryOff_67 rfl ?_
    refine z_isub dX0_carryOff_68 ?_
    refine y_iast dX0_carryOff_69 (bed_sh1 hr0) (Nat.succ_pos _) (Nat.le_trans (bed_le1 hr0) hz) hx1 hg12 (inR_w32 _) ?_
    refine z_aload_n dX0_carryOff_70 rfl ?_
    refine y_getR dX0_carryOff_71 cl0 (bed_sh hr0) (bed_pos hr0) (Nat.le_trans (bed_le hr0) hz) 3 rfl rfl (fl_B_18) (bed_g3 hG hr0) (Nat.succ_pos _) ?_
    refine z_iload_n dX0_carryOff_74 rfl ?_
    refine z_aload_n dX0_carryOff_75 rfl ?_
    refine z_nm (fun hN14 => ?_)
    refine y_getI dX0_carryOff_76 cl0 (bed_sh hr0) (bed_pos hr0) (Nat.le_trans (bed_le hr0) hz) 0 rfl rfl (fl_B_30) ?_
    refine z_iconst dX0_carryOff_79 ?_
    refine z_iadd dX0_carryOff_80 ?_
    refine y_iast dX0_carryOff_81 (bed_sh3 hr0) (Nat.succ_pos _) (Nat.le_trans (bed_le3 hr0) hz) hx1 hg12 (inR_w32 _) ?_
    refine z_iload_n dX0_carryOff_82 rfl ?_
    refine z_bipush dX0_carryOff_83 (by decide +kernel) ?_
    refine z_icmp_ne (tgt := 98) dX0_carryOff_85 (by decide) hx3 (inRd (x := (-2)) (by decide)) (fun hc15 => ?_) (fun hc15 => ?_)
    · replace h := ifT hc15 h
      refine z_aload_n dX0_carryOff_98 rfl ?_
      refine z_iload_n dX0_carryOff_99 rfl ?_
      refine z_iload dX0_carryOff_100 rfl ?_
      refine z_iload dX0_carryOff_102 rfl ?_
      refine z_iload_n dX0_carryOff_104 rfl ?_
      refine z_aload_n dX0_carryOff_105 rfl ?_
      refine z_nm (fun hN16 => ?_)
      refine y_getI dX0_carryOff_106 cl0 (bed_sh hr0) (bed_pos hr0) (Nat.le_trans (bed_le hr0) hz) 0 rfl rfl (fl_B_30) ?_
      refine z_iconst dX0_carryOff_109 ?_
      refine z_iadd dX0_carryOff_110 ?_
      obtain ⟨q17, hq18, h⟩ := bindE h
      refine z_callV (As := [vI x3, vI (I (r0 + 2) (x1).toNat), vI e7, vI x2, vI (w32 (((up2 (up2 (up2 I (r0 + 2) (x1).toNat (I (r0 + 4) (e7).toNat)) (r0 + 1) (x1).toNat (w32 (((up2 I (r0 + 2) (x1).toNat (I (r0 + 4) (e7).toNat)) (r0 + 1) (x1).toNat) - x2))) (r0 + 3) (x1).toNat (w32 (((up2 (up2 I (r0 + 2) (x1).toNat (I (r0 + 4) (e7).toNat)) (r0 + 1) (x1).toNat (w32 (((up2 I (r0 + 2) (x1).toNat (I (r0 + 4) (e7).toNat)) (r0 + 1) (x1).toNat) - x2))) r0 0) + 1))) r0 0) + 1))]) (rest := []) (s_B_layOn hz hG hr0 hx3 (hN2.1 (r0 + 2) (x1).toNat) h9 hx2 (inR_w32 _) hq18) dX0_carryOff_111 mw_B_layOn cl0 (bed_sh hr0) (bed_pos hr0) (Nat.le_trans (bed_le hr0) hz) ml_B_69 im_B_layOn se_B_layOn rfl rfl rfl rfl (Nat.le_refl _) (Nat.le_of_eq hb.symm) (fun hp19 => ?_)
      show Zt _ _ _ _ 114 _ [] (z, q17, J, G)
      obtain rfl := someE h
      exact z_vret dX0_carryOff_114 hE trivial rfl
    replace h := ifF (fun q => q hc15) h
    refine z_aload_n dX0_carryOff_88 rfl ?_
    refine z_iload dX0_carryOff_89 rfl ?_
    refine z_iload_n dX0_carryOff_91 rfl ?_
    obtain ⟨q20, hq21, h⟩ := bindE h
    refine z_callV (As := [vI (I (r0 + 2) (x1).toNat), vI x2]) (rest := []) (s_B_lose hz hG hr0 (hN2.1 (r0 + 2) (x1).toNat) hx2 hq21) dX0_carryOff_92 mw_B_lose cl0 (bed_sh hr0) (bed_pos hr0) (Nat.le_trans (bed_le hr0) hz) ml_B_121 im_B_lose se_B_lose rfl rfl rfl rfl (Nat.le_refl _) (Nat.le_of_eq hb.symm) (fun hp22 => ?_)
    show Zt _ _ _ _ 95 _ [] (z, q20, J, G)
    refine z_goto (tgt := 114) dX0_carryOff_95 (by decide) ?_
    obtain rfl := someE h
    exact z_vret dX0_carryOff_114 hE trivial rfl
  replace h := ifF hc10 h
  obtain rfl := someE h
  exact z_vret dX0_carryOff_46 hE trivial rfl
set_option maxHeartbeats 1000000 in
theorem s_B_mossOn {l : Launch} {g : GX} {z : Nat} {G : Nat → Nat → Nat} {F : Nat} (hz : 295 ≤ z) (hG : lyX G) {r0 : Nat} {x1 : Int} {x2 : Int} {I J : Nat → Nat → Int} (hr0 : isBed r0) (hx1 : inR x1) (hx2 : inR x2) {res : Int} (h : f_B_mossOn F r0 x1 x2 I = some res) : Spec l g 14 yX0_mossOn cX0_mossOn 3 (some .int) [vR g r0, vI x1, vI x2] (z, I, J, G) (some (vI res)) (inR res) (z, I, J, G) := by
  refine spec_of (μ := mu_B_mossOn) (k := 0) (L0 := [some (vR g r0), some (vI x1), some (vI x2)]) rfl mw_B_mossOn rfl rfl (Nat.le_refl _) (fun φ hb hE => ?_)
  refine z_aload_n dX0_mossOn_0 rfl ?_
  refine y_getR dX0_mossOn_1 cl0 (bed_sh hr0) (bed_pos hr0) (Nat.le_trans (bed_le hr0) hz) 1 rfl rfl (fl_B_9) (bed_g1 hG hr0) (Nat.succ_pos _) ?_
  refine z_iload_n dX0_mossOn_4 rfl ?_
  obtain ⟨hg1, h⟩ := guardE h
  refine z_nm (fun hN2 => ?_)
  refine y_iald dX0_mossOn_5 (bed_sh1 hr0) (Nat.succ_pos _) (Nat.le_trans (bed_le1 hr0) hz) hx1 hg1 ?_
  refine z_if_ne (tgt := 13) dX0_mossOn_6 (by decide) (hN2.1 (r0 + 1) (x1).toNat) (fun hc3 => ?_) (fun hc3 => ?_)
  · replace h := ifT hc3 h
    refine z_bipush dX0_mossOn_13 (by decide +kernel) ?_
    refine z_iload_n dX0_mossOn_15 rfl ?_
    refine z_aload_n dX0_mossOn_16 rfl ?_
    refine y_getR dX0_mossOn_17 cl0 (bed_sh hr0) (bed_pos hr0) (Nat.le_trans (bed_le hr0) hz) 3 rfl rfl (fl_B_18) (bed_g3 hG hr0) (Nat.succ_pos _) ?_
    refine z_iload_n dX0_mossOn_20 rfl ?_
    refine y_iald dX0_mossOn_21 (bed_sh3 hr0) (Nat.succ_pos _) (Nat.le_trans (bed_le3 hr0) hz) hx1 hg1 ?_
    refine z_isub dX0_mossOn_22 ?_
    refine z_min dX0_mossOn_23 (inRd (x := 99) (by decide)) (inR_w32 _) (tin3 223 (by decide +kernel) rfl) math_min_s math_i math_min_c rfl rfl (Nat.le_of_eq hb.symm) ?_
    obtain rfl := someE h
    exact z_iret dX0_mossOn_26 hE (inR_min (inRd (x := 99) (by decide)) (inR_w32 _)) rfl
  replace h := ifF (fun q => q hc3) h
  refine z_iconst dX0_mossOn_9 ?_
  refine z_goto (tgt := 26) dX0_mossOn_10 (by decide) ?_
  obtain rfl := someE h
  exact z_iret dX0_mossOn_26 hE (inRd (x := 0) (by decide)) rfl
set_option maxHeartbeats 1000000 in
theorem s_W_joined {l : Launch} {g : GX} {z : Nat} {G : Nat → Nat → Nat} {F : Nat} (hz : 295 ≤ z) (hG : lyX G) {x0 : Int} {x1 : Int} {x2 : Int} {I J : Nat → Nat → Int} (hx0 : inR x0) (hx1 : inR x1) (hx2 : inR x2) {res : Int} (h : f_W_joined F x0 x1 x2 I = some res) : Spec l g 0 yX3_joined cX3_joined 3 (some .int) [vI x0, vI x1, vI x2] (z, I, J, G) (some (vI res)) (inR res) (z, I, J, G) := by
  refine spec_of (μ := mu_W_joined) (k := 0) (L0 := [some (vI x0), some (vI x1), some (vI x2)]) rfl mw_W_joined rfl rfl (Nat.le_refl _) (fun φ hb hE => ?_)
  refine z_iload_n dX3_joined_0 rfl ?_
  by_cases hc1 : x0 = 2
  · replace h := ifT hc1 h
    refine z_tabIn (tgt := 28) dX3_joined_1 2 hc1 hx0 (by decide) rfl (by decide) ?_
    refine z_iload_n dX3_joined_28 rfl ?_
    refine z_iload_n dX3_joined_29 rfl ?_
    refine z_iadd dX3_joined_30 ?_
    obtain rfl := someE h
    exact z_iret dX3_joined_31 hE (inR_w32 _) rfl
  replace h := ifF hc1 h
  by_cases hc2 : x0 = 3
  · replace h := ifT hc2 h
    refine z_tabIn (tgt := 32) dX3_joined_1 3 hc2 hx0 (by decide) rfl (by decide) ?_
    refine z_iload_n dX3_joined_32 rfl ?_
    refine z_iload_n dX3_joined_33 rfl ?_
    refine z_isub dX3_joined_34 ?_
    obtain rfl := someE h
    exact z_iret dX3_joined_35 hE (inR_w32 _) rfl
  replace h := ifF hc2 h
  by_cases hc3 : x0 = 4
  · replace h := ifT hc3 h
    refine z_tabIn (tgt := 36) dX3_joined_1 4 hc3 hx0 (by decide) rfl (by decide) ?_
    refine z_iload_n dX3_joined_36 rfl ?_
    refine z_iload_n dX3_joined_37 rfl ?_
    refine z_imul dX3_joined_38 ?_
    obtain rfl := someE h
    exact z_iret dX3_joined_39 hE (inR_w32 _) rfl
  replace h := ifF hc3 h
  refine z_tabOut (tgt := 40) dX3_joined_1 hx0 (by omega) (by decide) ?_
  refine z_iload_n dX3_joined_40 rfl ?_
  refine z_if_ne (tgt := 48) dX3_joined_41 (by decide) hx2 (fun hc4 => ?_) (fun hc4 => ?_)
  · replace h := ifT hc4 h
    refine z_iload_n dX3_joined_48 rfl ?_
    refine z_iload_n dX3_joined_49 rfl ?_
    obtain ⟨hd5, h⟩ := guardE h
    refine z_idiv dX3_joined_50 hx2 hd5 ?_
    obtain rfl := someE h
    exact z_iret dX3_joined_51 hE inR_div rfl
  replace h := ifF (fun q => q hc4) h
  refine z_iconst dX3_joined_44 ?_
  refine z_goto (tgt := 51) dX3_joined_45 (by decide) ?_
  obtain rfl := someE h
  exact z_iret dX3_joined_51 hE (inRd (x := 0) (by decide)) rfl
set_option maxHeartbeats 1000000 in
theorem s_W_seenAt {l : Launch} {g : GX} {z : Nat} {G : Nat → Nat → Nat} {F : Nat} (hz : 295 ≤ z) (hG : lyX G) {r0 : Nat} {x1 : Int} {I J : Nat → Nat → Int} (hr0 : isLaw r0) (hx1 : inR x1) {res : Int} (h : f_W_seenAt F r0 x1 I = some res) : Spec l g 0 yX3_seenAt cX3_seenAt 2 (some .int) [vR g r0, vI x1] (z, I, J, G) (some (vI res)) (inR res) (z, I, J, G) := by
  refine spec_of (μ := mu_W_seenAt) (k := 0) (L0 := [some (vR g r0), some (vI x1)]) rfl mw_W_seenAt rfl rfl (Nat.le_refl _) (fun φ hb hE => ?_)
  refine z_iload_n dX3_seenAt_0 rfl ?_
  refine z_if_lt (tgt := 19) dX3_seenAt_1 (by decide) hx1 (fun hc1 => ?_) (fun hc1 => ?_)
  · replace h := ifT hc1 h
    refine z_iconst dX3_seenAt_19 ?_
    obtain rfl := someE h
    exact z_iret dX3_seenAt_20 hE (inRd (x := 0) (by decide)) rfl
  replace h := ifF hc1 h
  refine z_iload_n dX3_seenAt_4 rfl ?_
  refine z_bipush dX3_seenAt_5 (by decide +kernel) ?_
  refine z_icmp_ge (tgt := 19) dX3_seenAt_7 (by decide) hx1 (inRd (x := 6) (by decide)) (fun hc2 => ?_) (fun hc2 => ?_)
  · replace h := ifT hc2 h
    refine z_iconst dX3_seenAt_19 ?_
    obtain rfl := someE h
    exact z_iret dX3_seenAt_20 hE (inRd (x := 0) (by decide)) rfl
  replace h := ifF hc2 h
  refine z_aload_n dX3_seenAt_10 rfl ?_
  refine y_getR dX3_seenAt_11 cl3 (law_sh hr0) (law_pos hr0) (Nat.le_trans (law_le hr0) hz) 3 rfl rfl (fl_W_21) (law_g3 hG hr0) (Nat.succ_pos _) ?_
  refine z_iload_n dX3_seenAt_14 rfl ?_
  obtain ⟨hg3, h⟩ := guardE h
  refine z_nm (fun hN4 => ?_)
  refine y_iald dX3_seenAt_15 (law_sh3 hr0) (Nat.succ_pos _) (Nat.le_trans (law_le3 hr0) hz) hx1 hg3 ?_
  refine z_goto (tgt := 20) dX3_seenAt_16 (by decide) ?_
  obtain rfl := someE h
  exact z_iret dX3_seenAt_20 hE (hN4.1 (r0 + 4) (x1).toNat) rfl
set_option maxHeartbeats 1000000 in
theorem t_W_tells_b161in54 {l : Launch} {g : GX} {φ : CX} {z : Nat} {G : Nat → Nat → Nat} {F : Nat} (hb : cb φ = z) (hz : 295 ≤ z) (hG : lyX G) {r0 : Nat} {x7 : Int} {x8 : Int} {x9 : Int} {s1 : Int} {s2 : Int} {I J : Nat → Nat → Int} (hr0 : isLaw r0) (hx7 : inR x7) (hx8 : inR x8) (hx9 : inR x9) (hs1 : inR s1) (hs2 : inR s2) {res : ((Int × MI) ⊕ ((MI) ⊕ ((MI) ⊕ ((MI) ⊕ (MI))))) ⊕ (Int × Int × Int × MI)} (h : f_W_tells_b161in54 F r0 x7 x8 x9 s1 s2 I = some res) (kE : ∀ e : (Int × MI) ⊕ ((MI) ⊕ ((MI) ⊕ ((MI) ⊕ (MI)))), res = .inl e → ((fun w : (Int × MI) ⊕ ((MI) ⊕ ((MI) ⊕ ((MI) ⊕ (MI)))) => (match w with | .inl e0 => ((inR e0.1) → Zt l g φ mu_W_tells 100 [some (vR g r0), none, none, none, none, none, none, some (vI e0.1), none, none, none, none, none, none] [] (z, e0.2, J, G)) | .inr o0 => (match o0 with | .inl e1 => ((True) → Zt l g φ mu_W_tells 137 [none, none, none, none, none, none, none, none, none, none, none, none, none, none] [] (z, e1, J, G)) | .inr o1 => (match o1 with | .inl e2 => ((True) → Zt l g φ mu_W_tells 174 [none, none, none, none, none, none, none, none, none, none, none, none, none, none] [] (z, e2, J, G)) | .inr o2 => (match o2 with | .inl e3 => ((True) → Zt l g φ mu_W_tells 209 [none, none, none, none, none, none, none, none, none, none, none, none, none, none] [] (z, e3, J, G)) | .inr o3 => ((True) → Zt l g φ mu_W_tells 260 [none, none, none, none, none, none, none, none, none, none, none, none, none, none] [] (z, o3, J, G))))))) e)) (kS : ∀ s : Int × Int × Int × MI, res = .inr s → (inR s.1 ∧ inR s.2.1 ∧ inR s.2.2.1) → Zt l g φ mu_W_tells 54 [some (vR g r0), none, none, none, none, none, none, some (vI s.1), some (vI s.2.1), some (vI s.2.2.1), none, none, none, none] [] (z, s.2.2.2, J, G)) : Zt l g φ mu_W_tells 161 [some (vR g r0), none, none, none, none, none, none, some (vI x7), some (vI x8), some (vI x9), none, none, none, none] [vI s2, vI s1, vR g (r0 + 3)] (z, I, J, G) := by
  obtain ⟨hg12, h⟩ := guardE h
  refine y_iast dX3_tells_161 (law_sh2 hr0) (Nat.succ_pos _) (Nat.le_trans (law_le2 hr0) hz) hs1 hg12 hs2 ?_
  refine z_iinc (L' := [some (vR g r0), none, none, none, none, none, none, some (vI (w32 (x7 + 1))), some (vI x8), some (vI x9), none, none, none, none]) dX3_tells_162 rfl rfl rfl rfl ?_
  refine z_goto (tgt := 254) dX3_tells_165 (by decide) ?_
  refine z_iinc (L' := [some (vR g r0), none, none, none, none, none, none, some (vI (w32 (x7 + 1))), some (vI x8), some (vI (w32 (x9 + 1))), none, none, none, none]) dX3_tells_254 rfl rfl rfl rfl ?_
  refine z_goto (tgt := 54) dX3_tells_257 (by decide) ?_
  exact kS _ (someE h).symm ⟨(inR_w32 _), hx8, (inR_w32 _)⟩
set_option maxHeartbeats 1000000 in
theorem t_W_tells_b130in54 {l : Launch} {g : GX} {φ : CX} {z : Nat} {G : Nat → Nat → Nat} {F : Nat} (hb : cb φ = z) (hz : 295 ≤ z) (hG : lyX G) {r0 : Nat} {x7 : Int} {x8 : Int} {x9 : Int} {x10 : Int} {x11 : Int} {I J : Nat → Nat → Int} (hr0 : isLaw r0) (hx7 : inR x7) (hx8 : inR x8) (hx9 : inR x9) (hx10 : inR x10) (hx11 : inR x11) {res : ((Int × MI) ⊕ ((MI) ⊕ ((MI) ⊕ ((MI) ⊕ (MI))))) ⊕ (Int × Int × Int × MI)} (h : f_W_tells_b130in54 F r0 x7 x8 x9 x10 x11 I = some res) (kE : ∀ e : (Int × MI) ⊕ ((MI) ⊕ ((MI) ⊕ ((MI) ⊕ (MI)))), res = .inl e → ((fun w : (Int × MI) ⊕ ((MI) ⊕ ((MI) ⊕ ((MI) ⊕ (MI)))) => (match w with | .inl e0 => ((inR e0.1) → Zt l g φ mu_W_tells 100 [some (vR g r0), none, none, none, none, none, none, some (vI e0.1), none, none, none, none, none, none] [] (z, e0.2, J, G)) | .inr o0 => (match o0 with | .inl e1 => ((True) → Zt l g φ mu_W_tells 137 [none, none, none, none, none, none, none, none, none, none, none, none, none, none] [] (z, e1, J, G)) | .inr o1 => (match o1 with | .inl e2 => ((True) → Zt l g φ mu_W_tells 174 [none, none, none, none, none, none, none, none, none, none, none, none, none, none] [] (z, e2, J, G)) | .inr o2 => (match o2 with | .inl e3 => ((True) → Zt l g φ mu_W_tells 209 [none, none, none, none, none, none, none, none, none, none, none, none, none, none] [] (z, e3, J, G)) | .inr o3 => ((True) → Zt l g φ mu_W_tells 260 [none, none, none, none, none, none, none, none, none, none, none, none, none, none] [] (z, o3, J, G))))))) e)) (kS : ∀ s : Int × Int × Int × MI, res = .inr s → (inR s.1 ∧ inR s.2.1 ∧ inR s.2.2.1) → Zt l g φ mu_W_tells 54 [some (vR g r0), none, none, none, none, none, none, some (vI s.1), some (vI s.2.1), some (vI s.2.2.1), none, none, none, none] [] (z, s.2.2.2, J, G)) : Zt l g φ mu_W_tells 130 [some (vR g r0), none, none, none, none, none, none, some (vI x7), some (vI x8), some (vI x9), some (vI x10), some (vI x11), none, none] [] (z, I, J, G) := by
  refine z_iload dX3_tells_130 rfl ?_
  refine z_bipush dX3_tells_132 (by decide +kernel) ?_
  refine z_icmp_lt (tgt := 139) dX3_tells_134 (by decide) hx7 (inRd (x := 32) (by decide)) (fun hc7 => ?_) (fun hc7 => ?_)
  · replace h := ifT hc7 h
    refine z_aload_n dX3_tells_139 rfl ?_
    refine y_getR dX3_tells_140 cl3 (law_sh hr0) (law_pos hr0) (Nat.le_trans (law_le hr0) hz) 2 rfl rfl (fl_W_18) (law_g2 hG hr0) (Nat.succ_pos _) ?_
    refine z_iload dX3_tells_143 rfl ?_
    refine z_iload dX3_tells_145 rfl ?_
    refine z_if_ne (tgt := 155) dX3_tells_147 (by decide) hx10 (fun hc8 => ?_) (fun hc8 => ?_)
    · replace h := ifT hc8 h
      refine z_aload_n dX3_tells_155 rfl ?_
      refine z_iload dX3_tells_156 rfl ?_
      obtain ⟨q9, hq10, h⟩ := bindE h
      refine z_callV (As := [vI x11]) (rest := [vI x7, vR g (r0 + 3)]) (s_W_seenAt hz hG hr0 hx11 hq10) dX3_tells_158 mw_W_seenAt cl3 (law_sh hr0) (law_pos hr0) (Nat.le_trans (law_le hr0) hz) ml_W_28 im_W_seenAt se_W_seenAt rfl rfl rfl rfl (Nat.le_refl _) (Nat.le_of_eq hb.symm) (fun hp11 => ?_)
      show Zt _ _ _ _ 161 _ [vI q9, vI x7, vR g (r0 + 3)] (z, I, J, G)
      refine z_weak (L' := [some (vR g r0), none, none, none, none, none, none, some (vI x7), some (vI x8), some (vI x9), none, none, none, none]) (lsS (lsN (lsN (lsN (lsN (lsN (lsN (lsS (lsS (lsS (lsN (lsN (lsN (lsN ls0)))))))))))))) ?_
      exact t_W_tells_b161in54 hb hz hG hr0 hx7 hx8 hx9 hx7 hp11 h kE kS
    replace h := ifF (fun q => q hc8) h
    refine z_iload dX3_tells_150 rfl ?_
    refine z_goto (tgt := 161) dX3_tells_152 (by decide) ?_
    refine z_weak (L' := [some (vR g r0), none, none, none, none, none, none, some (vI x7), some (vI x8), some (vI x9), none, none, none, none]) (lsS (lsN (lsN (lsN (lsN (lsN (lsN (lsS (lsS (lsS (lsN (lsN (lsN (lsN ls0)))))))))))))) ?_
    exact t_W_tells_b161in54 hb hz hG hr0 hx7 hx8 hx9 hx7 hx11 h kE kS
  replace h := ifF hc7 h
  refine z_weak (L' := [none, none, none, none, none, none, none, none, none, none, none, none, none, none]) (lsN (lsN (lsN (lsN (lsN (lsN (lsN (lsN (lsN (lsN (lsN (lsN (lsN (lsN ls0)))))))))))))) ?_
  exact kE _ (someE h).symm trivial
set_option maxHeartbeats 1000000 in
theorem t_W_tells_b211in54 {l : Launch} {g : GX} {φ : CX} {z : Nat} {G : Nat → Nat → Nat} {F : Nat} (hb : cb φ = z) (hz : 295 ≤ z) (hG : lyX G) {r0 : Nat} {x7 : Int} {x8 : Int} {x9 : Int} {x10 : Int} {x11 : Int} {x12 : Int} {x13 : Int} {I J : Nat → Nat → Int} (hr0 : isLaw r0) (hx7 : inR x7) (hx8 : inR x8) (hx9 : inR x9) (hx10 : inR x10) (hx11 : inR x11) (hx12 : inR x12) (hx13 : inR x13) {res : ((Int × MI) ⊕ ((MI) ⊕ ((MI) ⊕ ((MI) ⊕ (MI))))) ⊕ (Int × Int × Int × MI)} (h : f_W_tells_b211in54 F r0 x7 x8 x9 x10 x11 x12 x13 I = some res) (kE : ∀ e : (Int × MI) ⊕ ((MI) ⊕ ((MI) ⊕ ((MI) ⊕ (MI)))), res = .inl e → ((fun w : (Int × MI) ⊕ ((MI) ⊕ ((MI) ⊕ ((MI) ⊕ (MI)))) => (match w with | .inl e0 => ((inR e0.1) → Zt l g φ mu_W_tells 100 [some (vR g r0), none, none, none, none, none, none, some (vI e0.1), none, none, none, none, none, none] [] (z, e0.2, J, G)) | .inr o0 => (match o0 with | .inl e1 => ((True) → Zt l g φ mu_W_tells 137 [none, none, none, none, none, none, none, none, none, none, none, none, none, none] [] (z, e1, J, G)) | .inr o1 => (match o1 with | .inl e2 => ((True) → Zt l g φ mu_W_tells 174 [none, none, none, none, none, none, none, none, none, none, none, none, none, none] [] (z, e2, J, G)) | .inr o2 => (match o2 with | .inl e3 => ((True) → Zt l g φ mu_W_tells 209 [none, none, none, none, none, none, none, none, none, none, none, none, none, none] [] (z, e3, J, G)) | .inr o3 => ((True) → Zt l g φ mu_W_tells 260 [none, none, none, none, none, none, none, none, none, none, none, none, none, none] [] (z, o3, J, G))))))) e)) (kS : ∀ s : Int × Int × Int × MI, res = .inr s → (inR s.1 ∧ inR s.2.1 ∧ inR s.2.2.1) → Zt l g φ mu_W_tells 54 [some (vR g r0), none, none, none, none, none, none, some (vI s.1), some (vI s.2.1), some (vI s.2.2.1), none, none, none, none] [] (z, s.2.2.2, J, G)) : Zt l g φ mu_W_tells 211 [some (vR g r0), none, none, none, none, none, none, some (vI x7), some (vI x8), some (vI x9), some (vI x10), some (vI x11), some (vI x12), some (vI x13)] [] (z, I, J, G) := by
  refine z_iinc (L' := [some (vR g r0), none, none, none, none, none, none, some (vI (w32 (x7 + (-2)))), some (vI x8), some (vI x9), some (vI x10), some (vI x11), some (vI x12), some (vI x13)]) dX3_tells_211 rfl rfl rfl rfl ?_
  refine z_iload dX3_tells_214 rfl ?_
  refine z_bipush dX3_tells_216 (by decide +kernel) ?_
  refine z_icmp_ne (tgt := 235) dX3_tells_218 (by decide) hx10 (inRd (x := 6) (by decide)) (fun hc18 => ?_) (fun hc18 => ?_)
  · replace h := ifT hc18 h
    refine z_aload_n dX3_tells_235 rfl ?_
    refine y_getR dX3_tells_236 cl3 (law_sh hr0) (law_pos hr0) (Nat.le_trans (law_le hr0) hz) 2 rfl rfl (fl_W_18) (law_g2 hG hr0) (Nat.succ_pos _) ?_
    refine z_iload dX3_tells_239 rfl ?_
    refine z_iload dX3_tells_241 rfl ?_
    refine z_iload dX3_tells_243 rfl ?_
    refine z_iload dX3_tells_245 rfl ?_
    obtain ⟨q19, hq20, h⟩ := bindE h
    refine z_callS (As := [vI x10, vI x12, vI x13]) (rest := [vI (w32 (x7 + (-2))), vR g (r0 + 3)]) (s_W_joined hz hG hx10 hx12 hx13 hq20) dX3_tells_247 mw_W_joined ml_W_32 st_W_joined rfl rfl rfl rfl (Nat.le_refl _) (Nat.le_of_eq hb.symm) (fun hp21 => ?_)
    show Zt _ _ _ _ 250 _ [vI q19, vI (w32 (x7 + (-2))), vR g (r0 + 3)] (z, I, J, G)
    obtain ⟨hg22, h⟩ := guardE h
    refine y_iast dX3_tells_250 (law_sh2 hr0) (Nat.succ_pos _) (Nat.le_trans (law_le2 hr0) hz) (inR_w32 _) hg22 hp21 ?_
    refine z_iinc (L' := [some (vR g r0), none, none, none, none, none, none, some (vI (w32 ((w32 (x7 + (-2))) + 1))), some (vI x8), some (vI x9), some (vI x10), some (vI x11), some (vI x12), some (vI x13)]) dX3_tells_251 rfl rfl rfl rfl ?_
    refine z_iinc (L' := [some (vR g r0), none, none, none, none, none, none, some (vI (w32 ((w32 (x7 + (-2))) + 1))), some (vI x8), some (vI (w32 (x9 + 1))), some (vI x10), some (vI x11), some (vI x12), some (vI x13)]) dX3_tells_254 rfl rfl rfl rfl ?_
    refine z_goto (tgt := 54) dX3_tells_257 (by decide) ?_
    refine z_weak (L' := [some (vR g r0), none, none, none, none, none, none, some (vI (w32 ((w32 (x7 + (-2))) + 1))), some (vI x8), some (vI (w32 (x9 + 1))), none, none, none, none]) (lsS (lsN (lsN (lsN (lsN (lsN (lsN (lsS (lsS (lsS (lsN (lsN (lsN (lsN ls0)))))))))))))) ?_
    exact kS _ (someE h).symm ⟨(inR_w32 _), hx8, (inR_w32 _)⟩
  replace h := ifF (fun q => q hc18) h
  refine z_iload dX3_tells_221 rfl ?_
  refine z_iload dX3_tells_223 rfl ?_
  refine z_icmp_lt (tgt := 254) dX3_tells_225 (by decide) hx12 hx13 (fun hc23 => ?_) (fun hc23 => ?_)
  · replace h := ifT hc23 h
    refine z_iinc (L' := [some (vR g r0), none, none, none, none, none, none, some (vI (w32 (x7 + (-2)))), some (vI x8), some (vI (w32 (x9 + 1))), some (vI x10), some (vI x11), some (vI x12), some (vI x13)]) dX3_tells_254 rfl rfl rfl rfl ?_
    refine z_goto (tgt := 54) dX3_tells_257 (by decide) ?_
    refine z_weak (L' := [some (vR g r0), none, none, none, none, none, none, some (vI (w32 (x7 + (-2)))), some (vI x8), some (vI (w32 (x9 + 1))), none, none, none, none]) (lsS (lsN (lsN (lsN (lsN (lsN (lsN (lsS (lsS (lsS (lsN (lsN (lsN (lsN ls0)))))))))))))) ?_
    exact kS _ (someE h).symm ⟨(inR_w32 _), hx8, (inR_w32 _)⟩
  replace h := ifF hc23 h
  refine z_iload dX3_tells_228 rfl ?_
  refine z_istore (L' := [some (vR g r0), none, none, none, none, none, none, some (vI (w32 (x7 + (-2)))), some (vI x11), some (vI x9), some (vI x10), some (vI x11), some (vI x12), some (vI x13)]) dX3_tells_230 rfl rfl rfl ?_
  refine z_goto (tgt := 254) dX3_tells_232 (by decide) ?_
  refine z_iinc (L' := [some (vR g r0), none, none, none, none, none, none, some (vI (w32 (x7 + (-2)))), some (vI x11), some (vI (w32 (x9 + 1))), some (vI x10), some (vI x11), some (vI x12), some (vI x13)]) dX3_tells_254 rfl rfl rfl rfl ?_
  refine z_goto (tgt := 54) dX3_tells_257 (by decide) ?_
  refine z_weak (L' := [some (vR g r0), none, none, none, none, none, none, some (vI (w32 (x7 + (-2)))), some (vI x11), some (vI (w32 (x9 + 1))), none, none, none, none]) (lsS (lsN (lsN (lsN (lsN (lsN (lsN (lsS (lsS (lsS (lsN (lsN (lsN (lsN ls0)))))))))))))) ?_
  exact kS _ (someE h).symm ⟨(inR_w32 _), hx11, (inR_w32 _)⟩
set_option maxHeartbeats 1000000 in
theorem t_W_tells_L54 {l : Launch} {g : GX} {φ : CX} {z : Nat} {G : Nat → Nat → Nat} {F : Nat} (hb : cb φ = z) (hz : 295 ≤ z) (hG : lyX G) {r0 : Nat} {x7 : Int} {x8 : Int} {x9 : Int} {I J : Nat → Nat → Int} (hr0 : isLaw r0) (hx7 : inR x7) (hx8 : inR x8) (hx9 : inR x9) {res : ((Int × MI) ⊕ ((MI) ⊕ ((MI) ⊕ ((MI) ⊕ (MI))))) ⊕ (Int × Int × Int × MI)} (h : f_W_tells_L54 F r0 x7 x8 x9 I = some res) (kE : ∀ e : (Int × MI) ⊕ ((MI) ⊕ ((MI) ⊕ ((MI) ⊕ (MI)))), res = .inl e → ((fun w : (Int × MI) ⊕ ((MI) ⊕ ((MI) ⊕ ((MI) ⊕ (MI)))) => (match w with | .inl e0 => ((inR e0.1) → Zt l g φ mu_W_tells 100 [some (vR g r0), none, none, none, none, none, none, some (vI e0.1), none, none, none, none, none, none] [] (z, e0.2, J, G)) | .inr o0 => (match o0 with | .inl e1 => ((True) → Zt l g φ mu_W_tells 137 [none, none, none, none, none, none, none, none, none, none, none, none, none, none] [] (z, e1, J, G)) | .inr o1 => (match o1 with | .inl e2 => ((True) → Zt l g φ mu_W_tells 174 [none, none, none, none, none, none, none, none, none, none, none, none, none, none] [] (z, e2, J, G)) | .inr o2 => (match o2 with | .inl e3 => ((True) → Zt l g φ mu_W_tells 209 [none, none, none, none, none, none, none, none, none, none, none, none, none, none] [] (z, e3, J, G)) | .inr o3 => ((True) → Zt l g φ mu_W_tells 260 [none, none, none, none, none, none, none, none, none, none, none, none, none, none] [] (z, o3, J, G))))))) e)) (kS : ∀ s : Int × Int × Int × MI, res = .inr s → (inR s.1 ∧ inR s.2.1 ∧ inR s.2.2.1) → Zt l g φ mu_W_tells 54 [some (vR g r0), none, none, none, none, none, none, some (vI s.1), some (vI s.2.1), some (vI s.2.2.1), none, none, none, none] [] (z, s.2.2.2, J, G)) : Zt l g φ mu_W_tells 54 [some (vR g r0), none, none, none, none, none, none, some (vI x7), some (vI x8), some (vI x9), none, none, none, none] [] (z, I, J, G) := by
  refine z_iload dX3_tells_54 rfl ?_
  refine z_aload_n dX3_tells_56 rfl ?_
  refine z_nm (fun hN1 => ?_)
  refine y_getI dX3_tells_57 cl3 (law_sh hr0) (law_pos hr0) (Nat.le_trans (law_le hr0) hz) 4 rfl rfl (fl_W_24) ?_
  refine z_icmp_ge (tgt := 260) dX3_tells_60 (by decide) hx9 (hN1.1 r0 4) (fun hc2 => ?_) (fun hc2 => ?_)
  · replace h := ifT hc2 h
    refine z_weak (L' := [none, none, none, none, none, none, none, none, none, none, none, none, none, none]) (lsN (lsN (lsN (lsN (lsN (lsN (lsN (lsN (lsN (lsN (lsN (lsN (lsN (lsN ls0)))))))))))))) ?_
    exact kE _ (someE h).symm trivial
  replace h := ifF hc2 h
  refine z_iload dX3_tells_63 rfl ?_
  refine z_aload_n dX3_tells_65 rfl ?_
  refine y_getI dX3_tells_66 cl3 (law_sh hr0) (law_pos hr0) (Nat.le_trans (law_le hr0) hz) 4 rfl rfl (fl_W_24) ?_
  refine z_icmp_ge (tgt := 260) dX3_tells_69 (by decide) hx8 (hN1.1 r0 4) (fun hc3 => ?_) (fun hc3 => ?_)
  · replace h := ifT hc3 h
    refine z_weak (L' := [none, none, none, none, none, none, none, none, none, none, none, none, none, none]) (lsN (lsN (lsN (lsN (lsN (lsN (lsN (lsN (lsN (lsN (lsN (lsN (lsN (lsN ls0)))))))))))))) ?_
    exact kE _ (someE h).symm trivial
  replace h := ifF hc3 h
  refine z_aload_n dX3_tells_72 rfl ?_
  refine y_getR dX3_tells_73 cl3 (law_sh hr0) (law_pos hr0) (Nat.le_trans (law_le hr0) hz) 0 rfl rfl (fl_W_9) (law_g0 hG hr0) (Nat.succ_pos _) ?_
  refine z_iload dX3_tells_76 rfl ?_
  obtain ⟨hg4, h⟩ := guardE h
  refine y_iald dX3_tells_78 (law_sh0 hr0) (Nat.succ_pos _) (Nat.le_trans (law_le0 hr0) hz) hx8 hg4 ?_
  refine z_istore (L' := [some (vR g r0), none, none, none, none, none, none, some (vI x7), some (vI x8), some (vI x9), some (vI (I (r0 + 1) (x8).toNat)), none, none, none]) dX3_tells_79 rfl rfl rfl ?_
  refine z_aload_n dX3_tells_81 rfl ?_
  refine y_getR dX3_tells_82 cl3 (law_sh hr0) (law_pos hr0) (Nat.le_trans (law_le hr0) hz) 1 rfl rfl (fl_W_15) (law_g1 hG hr0) (Nat.succ_pos _) ?_
  refine z_iload dX3_tells_85 rfl ?_
  refine y_iald dX3_tells_87 (law_sh1 hr0) (Nat.succ_pos _) (Nat.le_trans (law_le1 hr0) hz) hx8 hg4 ?_
  refine z_istore (L' := [some (vR g r0), none, none, none, none, none, none, some (vI x7), some (vI x8), some (vI x9), some (vI (I (r0 + 1) (x8).toNat)), some (vI (I (r0 + 2) (x8).toNat)), none, none]) dX3_tells_88 rfl rfl rfl ?_
  refine z_iinc (L' := [some (vR g r0), none, none, none, none, none, none, some (vI x7), some (vI (w32 (x8 + 1))), some (vI x9), some (vI (I (r0 + 1) (x8).toNat)), some (vI (I (r0 + 2) (x8).toNat)), none, none]) dX3_tells_90 rfl rfl rfl rfl ?_
  refine z_iload dX3_tells_93 rfl ?_
  refine z_bipush dX3_tells_95 (by decide +kernel) ?_
  refine z_icmp_ne (tgt := 119) dX3_tells_97 (by decide) (hN1.1 (r0 + 1) (x8).toNat) (inRd (x := 7) (by decide)) (fun hc5 => ?_) (fun hc5 => ?_)
  · replace h := ifT hc5 h
    refine z_iload dX3_tells_119 rfl ?_
    refine z_if_eq (tgt := 130) dX3_tells_121 (by decide) (hN1.1 (r0 + 1) (x8).toNat) (fun hc6 => ?_) (fun hc6 => ?_)
    · replace h := ifT hc6 h
      exact t_W_tells_b130in54 hb hz hG hr0 hx7 (inR_w32 _) hx9 (hN1.1 (r0 + 1) (x8).toNat) (hN1.1 (r0 + 2) (x8).toNat) h kE kS
    replace h := ifF hc6 h
    refine z_iload dX3_tells_124 rfl ?_
    refine z_iconst dX3_tells_126 ?_
    refine z_icmp_ne (tgt := 168) dX3_tells_127 (by decide) (hN1.1 (r0 + 1) (x8).toNat) (inRd (x := 1) (by decide)) (fun hc13 => ?_) (fun hc13 => ?_)
    · replace h := ifT hc13 h
      refine z_iload dX3_tells_168 rfl ?_
      refine z_iconst dX3_tells_170 ?_
      refine z_icmp_ge (tgt := 176) dX3_tells_171 (by decide) hx7 (inRd (x := 2) (by decide)) (fun hc14 => ?_) (fun hc14 => ?_)
      · replace h := ifT hc14 h
        refine z_aload_n dX3_tells_176 rfl ?_
        refine y_getR dX3_tells_177 cl3 (law_sh hr0) (law_pos hr0) (Nat.le_trans (law_le hr0) hz) 2 rfl rfl (fl_W_18) (law_g2 hG hr0) (Nat.succ_pos _) ?_
        refine z_iload dX3_tells_180 rfl ?_
        refine z_iconst dX3_tells_182 ?_
        refine z_isub dX3_tells_183 ?_
        obtain ⟨hg15, h⟩ := guardE h
        refine y_iald dX3_tells_184 (law_sh2 hr0) (Nat.succ_pos _) (Nat.le_trans (law_le2 hr0) hz) (inR_w32 _) hg15 ?_
        refine z_istore (L' := [some (vR g r0), none, none, none, none, none, none, some (vI x7), some (vI (w32 (x8 + 1))), some (vI x9), some (vI (I (r0 + 1) (x8).toNat)), some (vI (I (r0 + 2) (x8).toNat)), some (vI (I (r0 + 3) ((w32 (x7 - 2))).toNat)), none]) dX3_tells_185 rfl rfl rfl ?_
        refine z_aload_n dX3_tells_187 rfl ?_
        refine y_getR dX3_tells_188 cl3 (law_sh hr0) (law_pos hr0) (Nat.le_trans (law_le hr0) hz) 2 rfl rfl (fl_W_18) (law_g2 hG hr0) (Nat.succ_pos _) ?_
        refine z_iload dX3_tells_191 rfl ?_
        refine z_iconst dX3_tells_193 ?_
        refine z_isub dX3_tells_194 ?_
        obtain ⟨hg16, h⟩ := guardE h
        refine y_iald dX3_tells_195 (law_sh2 hr0) (Nat.succ_pos _) (Nat.le_trans (law_le2 hr0) hz) (inR_w32 _) hg16 ?_
        refine z_istore (L' := [some (vR g r0), none, none, none, none, none, none, some (vI x7), some (vI (w32 (x8 + 1))), some (vI x9), some (vI (I (r0 + 1) (x8).toNat)), some (vI (I (r0 + 2) (x8).toNat)), some (vI (I (r0 + 3) ((w32 (x7 - 2))).toNat)), some (vI (I (r0 + 3) ((w32 (x7 - 1))).toNat))]) dX3_tells_196 rfl rfl rfl ?_
        refine z_iload dX3_tells_198 rfl ?_
        refine z_iconst dX3_tells_200 ?_
        refine z_icmp_ne (tgt := 211) dX3_tells_201 (by decide) (hN1.1 (r0 + 1) (x8).toNat) (inRd (x := 5) (by decide)) (fun hc17 => ?_) (fun hc17 => ?_)
        · replace h := ifT hc17 h
          exact t_W_tells_b211in54 hb hz hG hr0 hx7 (inR_w32 _) hx9 (hN1.1 (r0 + 1) (x8).toNat) (hN1.1 (r0 + 2) (x8).toNat) (hN1.1 (r0 + 3) ((w32 (x7 - 2))).toNat) (hN1.1 (r0 + 3) ((w32 (x7 - 1))).toNat) h kE kS
        replace h := ifF (fun q => q hc17) h
        refine z_iload dX3_tells_204 rfl ?_
        refine z_if_ne (tgt := 211) dX3_tells_206 (by decide) (hN1.1 (r0 + 3) ((w32 (x7 - 1))).toNat) (fun hc24 => ?_) (fun hc24 => ?_)
        · replace h := ifT hc24 h
          exact t_W_tells_b211in54 hb hz hG hr0 hx7 (inR_w32 _) hx9 (hN1.1 (r0 + 1) (x8).toNat) (hN1.1 (r0 + 2) (x8).toNat) (hN1.1 (r0 + 3) ((w32 (x7 - 2))).toNat) (hN1.1 (r0 + 3) ((w32 (x7 - 1))).toNat) h kE kS
        replace h := ifF (fun q => q hc24) h
        refine z_weak (L' := [none, none, none, none, none, none, none, none, none, none, none, none, none, none]) (lsN (lsN (lsN (lsN (lsN (lsN (lsN (lsN (lsN (lsN (lsN (lsN (lsN (lsN ls0)))))))))))))) ?_
        exact kE _ (someE h).symm trivial
      replace h := ifF hc14 h
      refine z_weak (L' := [none, none, none, none, none, none, none, none, none, none, none, none, none, none]) (lsN (lsN (lsN (lsN (lsN (lsN (lsN (lsN (lsN (lsN (lsN (lsN (lsN (lsN ls0)))))))))))))) ?_
      exact kE _ (someE h).symm trivial
    replace h := ifF (fun q => q hc13) h
    exact t_W_tells_b130in54 hb hz hG hr0 hx7 (inR_w32 _) hx9 (hN1.1 (r0 + 1) (x8).toNat) (hN1.1 (r0 + 2) (x8).toNat) h kE kS
  replace h := ifF (fun q => q hc5) h
  refine z_weak (L' := [some (vR g r0), none, none, none, none, none, none, some (vI x7), none, none, none, none, none, none]) (lsS (lsN (lsN (lsN (lsN (lsN (lsN (lsS (lsN (lsN (lsN (lsN (lsN (lsN ls0)))))))))))))) ?_
  exact kE _ (someE h).symm hx7
theorem l_W_tells_L54 {l : Launch} {g : GX} {φ : CX} {z : Nat} {G : Nat → Nat → Nat} {F : Nat} (hb : cb φ = z) (hz : 295 ≤ z) (hG : lyX G) {r0 : Nat} {J : Nat → Nat → Int} (hr0 : isLaw r0) (n : Nat) (s : Int × Int × Int × MI) (e : (Int × MI) ⊕ ((MI) ⊕ ((MI) ⊕ ((MI) ⊕ (MI))))) (h : iter (fun s : Int × Int × Int × MI => f_W_tells_L54 F r0 s.1 s.2.1 s.2.2.1 s.2.2.2) n s = some e) (hs : inR s.1 ∧ inR s.2.1 ∧ inR s.2.2.1) (k : ((fun w : (Int × MI) ⊕ ((MI) ⊕ ((MI) ⊕ ((MI) ⊕ (MI)))) => (match w with | .inl e0 => ((inR e0.1) → Zt l g φ mu_W_tells 100 [some (vR g r0), none, none, none, none, none, none, some (vI e0.1), none, none, none, none, none, none] [] (z, e0.2, J, G)) | .inr o0 => (match o0 with | .inl e1 => ((True) → Zt l g φ mu_W_tells 137 [none, none, none, none, none, none, none, none, none, none, none, none, none, none] [] (z, e1, J, G)) | .inr o1 => (match o1 with | .inl e2 => ((True) → Zt l g φ mu_W_tells 174 [none, none, none, none, none, none, none, none, none, none, none, none, none, none] [] (z, e2, J, G)) | .inr o2 => (match o2 with | .inl e3 => ((True) → Zt l g φ mu_W_tells 209 [none, none, none, none, none, none, none, none, none, none, none, none, none, none] [] (z, e3, J, G)) | .inr o3 => ((True) → Zt l g φ mu_W_tells 260 [none, none, none, none, none, none, none, none, none, none, none, none, none, none] [] (z, o3, J, G))))))) e)) : Zt l g φ mu_W_tells 54 [some (vR g r0), none, none, none, none, none, none, some (vI s.1), some (vI s.2.1), some (vI s.2.2.1), none, none, none, none] [] (z, s.2.2.2, J, G) := by
  refine iter_ind (Z := fun s : Int × Int × Int × MI => Zt l g φ mu_W_tells 54 [some (vR g r0), none, none, none, none, none, none, some (vI s.1), some (vI s.2.1), some (vI s.2.2.1), none, none, none, none] [] (z, s.2.2.2, J, G)) (ZE := fun e : (Int × MI) ⊕ ((MI) ⊕ ((MI) ⊕ ((MI) ⊕ (MI)))) => ((fun w : (Int × MI) ⊕ ((MI) ⊕ ((MI) ⊕ ((MI) ⊕ (MI)))) => (match w with | .inl e0 => ((inR e0.1) → Zt l g φ mu_W_tells 100 [some (vR g r0), none, none, none, none, none, none, some (vI e0.1), none, none, none, none, none, none] [] (z, e0.2, J, G)) | .inr o0 => (match o0 with | .inl e1 => ((True) → Zt l g φ mu_W_tells 137 [none, none, none, none, none, none, none, none, none, none, none, none, none, none] [] (z, e1, J, G)) | .inr o1 => (match o1 with | .inl e2 => ((True) → Zt l g φ mu_W_tells 174 [none, none, none, none, none, none, none, none, none, none, none, none, none, none] [] (z, e2, J, G)) | .inr o2 => (match o2 with | .inl e3 => ((True) → Zt l g φ mu_W_tells 209 [none, none, none, none, none, none, none, none, none, none, none, none, none, none] [] (z, e3, J, G)) | .inr o3 => ((True) → Zt l g φ mu_W_tells 260 [none, none, none, none, none, none, none, none, none, none, none, none, none, none] [] (z, o3, J, G))))))) e)) (Rg := fun s : Int × Int × Int × MI => inR s.1 ∧ inR s.2.1 ∧ inR s.2.2.1) ?_ n s e h hs k
  intro s r hr hst kE kS
  exact t_W_tells_L54 hb hz hG hr0 hr.1 hr.2.1 hr.2.2 hst kE kS
set_option maxHeartbeats 1000000 in
theorem s_W_tells {l : Launch} {g : GX} {z : Nat} {G : Nat → Nat → Nat} {F : Nat} (hz : 295 ≤ z) (hG : lyX G) {r0 : Nat} {x1 : Int} {x2 : Int} {x3 : Int} {x4 : Int} {x5 : Int} {x6 : Int} {I J : Nat → Nat → Int} (hr0 : isLaw r0) (hx1 : inR x1) (hx2 : inR x2) (hx3 : inR x3) (hx4 : inR x4) (hx5 : inR x5) (hx6 : inR x6) {res : Int × MI} (h : f_W_tells F r0 x1 x2 x3 x4 x5 x6 I = some res) : Spec l g 1 yX3_tells cX3_tells 14 (some .int) [vR g r0, vI x1, vI x2, vI x3, vI x4, vI x5, vI x6] (z, I, J, G) (some (vI res.1)) (inR res.1) (z, res.2, J, G) := by
  refine spec_of (μ := mu_W_tells) (k := 7) (L0 := [some (vR g r0), some (vI x1), some (vI x2), some (vI x3), some (vI x4), some (vI x5), some (vI x6), none, none, none, none, none, none, none]) rfl mw_W_tells rfl rfl (Nat.le_refl _) (fun φ hb hE => ?_)
  refine z_aload_n dX3_tells_0 rfl ?_
  refine y_getR dX3_tells_1 cl3 (law_sh hr0) (law_pos hr0) (Nat.le_trans (law_le hr0) hz) 3 rfl rfl (fl_W_21) (law_g3 hG hr0) (Nat.succ_pos _) ?_
  refine z_iconst dX3_tells_4 ?_
  refine z_iload_n dX3_tells_5 rfl ?_
  refine y_iast dX3_tells_6 (law_sh3 hr0) (Nat.succ_pos _) (Nat.le_trans (law_le3 hr0) hz) (inRd (x := 0) (by decide)) (by decide) hx1 ?_
  refine z_aload_n dX3_tells_7 rfl ?_
  refine y_getR dX3_tells_8 cl3 (law_sh hr0) (law_pos hr0) (Nat.le_trans (law_le hr0) hz) 3 rfl rfl (fl_W_21) (law_g3 hG hr0) (Nat.succ_pos _) ?_
  refine z_iconst dX3_tells_11 ?_
  refine z_iload_n dX3_tells_12 rfl ?_
  refine y_iast dX3_tells_13 (law_sh3 hr0) (Nat.succ_pos _) (Nat.le_trans (law_le3 hr0) hz) (inRd (x := 1) (by decide)) (by decide) hx2 ?_
  refine z_aload_n dX3_tells_14 rfl ?_
  refine y_getR dX3_tells_15 cl3 (law_sh hr0) (law_pos hr0) (Nat.le_trans (law_le hr0) hz) 3 rfl rfl (fl_W_21) (law_g3 hG hr0) (Nat.succ_pos _) ?_
  refine z_iconst dX3_tells_18 ?_
  refine z_iload_n dX3_tells_19 rfl ?_
  refine y_iast dX3_tells_20 (law_sh3 hr0) (Nat.succ_pos _) (Nat.le_trans (law_le3 hr0) hz) (inRd (x := 2) (by decide)) (by decide) hx3 ?_
  refine z_aload_n dX3_tells_21 rfl ?_
  refine y_getR dX3_tells_22 cl3 (law_sh hr0) (law_pos hr0) (Nat.le_trans (law_le hr0) hz) 3 rfl rfl (fl_W_21) (law_g3 hG hr0) (Nat.succ_pos _) ?_
  refine z_iconst dX3_tells_25 ?_
  refine z_iload dX3_tells_26 rfl ?_
  refine y_iast dX3_tells_28 (law_sh3 hr0) (Nat.succ_pos _) (Nat.le_trans (law_le3 hr0) hz) (inRd (x := 3) (by decide)) (by decide) hx4 ?_
  refine z_aload_n dX3_tells_29 rfl ?_
  refine y_getR dX3_tells_30 cl3 (law_sh hr0) (law_pos hr0) (Nat.le_trans (law_le hr0) hz) 3 rfl rfl (fl_W_21) (law_g3 hG hr0) (Nat.succ_pos _) ?_
  refine z_iconst dX3_tells_33 ?_
  refine z_iload dX3_tells_34 rfl ?_
  refine y_iast dX3_tells_36 (law_sh3 hr0) (Nat.succ_pos _) (Nat.le_trans (law_le3 hr0) hz) (inRd (x := 4) (by decide)) (by decide) hx5 ?_
  refine z_aload_n dX3_tells_37 rfl ?_
  refine y_getR dX3_tells_38 cl3 (law_sh hr0) (law_pos hr0) (Nat.le_trans (law_le hr0) hz) 3 rfl rfl (fl_W_21) (law_g3 hG hr0) (Nat.succ_pos _) ?_
  refine z_iconst dX3_tells_41 ?_
  refine z_iload dX3_tells_42 rfl ?_
  refine y_iast dX3_tells_44 (law_sh3 hr0) (Nat.succ_pos _) (Nat.le_trans (law_le3 hr0) hz) (inRd (x := 5) (by decide)) (by decide) hx6 ?_
  refine z_iconst dX3_tells_45 ?_
  refine z_istore (L' := [some (vR g r0), some (vI x1), some (vI x2), some (vI x3), some (vI x4), some (vI x5), some (vI x6), some (vI 0), none, none, none, none, none, none]) dX3_tells_46 rfl rfl rfl ?_
  refine z_iconst dX3_tells_48 ?_
  refine z_istore (L' := [some (vR g r0), some (vI x1), some (vI x2), some (vI x3), some (vI x4), some (vI x5), some (vI x6), some (vI 0), some (vI 0), none, none, none, none, none]) dX3_tells_49 rfl rfl rfl ?_
  refine z_iconst dX3_tells_51 ?_
  refine z_istore (L' := [some (vR g r0), some (vI x1), some (vI x2), some (vI x3), some (vI x4), some (vI x5), some (vI x6), some (vI 0), some (vI 0), some (vI 0), none, none, none, none]) dX3_tells_52 rfl rfl rfl ?_
  refine z_weak (L' := [some (vR g r0), none, none, none, none, none, none, some (vI 0), some (vI 0), some (vI 0), none, none, none, none]) (lsS (lsN (lsN (lsN (lsN (lsN (lsN (lsS (lsS (lsS (lsN (lsN (lsN (lsN ls0)))))))))))))) ?_
  obtain ⟨e25, h26, h⟩ := bindE h
  rcases e25 with e27 | o28
  · refine l_W_tells_L54 hb hz hG hr0 _ _ _ h26 ⟨(inRd (x := 0) (by decide)), (inRd (x := 0) (by decide)), (inRd (x := 0) (by decide))⟩ ?_
    refine fun h29 => ?_
    refine z_iload dX3_tells_100 rfl ?_
    refine z_if_le (tgt := 117) dX3_tells_102 (by decide) h29 (fun hc30 => ?_) (fun hc30 => ?_)
    · replace h := ifT hc30 h
      refine z_iconst dX3_tells_117 ?_
      obtain rfl := someE h
      exact z_iret dX3_tells_118 hE (inRd (x := 0) (by decide)) rfl
    replace h := ifF hc30 h
    refine z_aload_n dX3_tells_105 rfl ?_
    refine y_getR dX3_tells_106 cl3 (law_sh hr0) (law_pos hr0) (Nat.le_trans (law_le hr0) hz) 2 rfl rfl (fl_W_18) (law_g2 hG hr0) (Nat.succ_pos _) ?_
    refine z_iload dX3_tells_109 rfl ?_
    refine z_iconst dX3_tells_111 ?_
    refine z_isub dX3_tells_112 ?_
    obtain ⟨hg31, h⟩ := guardE h
    refine z_nm (fun hN32 => ?_)
    refine y_iald dX3_tells_113 (law_sh2 hr0) (Nat.succ_pos _) (Nat.le_trans (law_le2 hr0) hz) (inR_w32 _) hg31 ?_
    refine z_goto (tgt := 118) dX3_tells_114 (by decide) ?_
    obtain rfl := someE h
    exact z_iret dX3_tells_118 hE (hN32.1 (r0 + 3) ((w32 (e27.1 - 1))).toNat) rfl
  rcases o28 with e33 | o34
  · refine l_W_tells_L54 hb hz hG hr0 _ _ _ h26 ⟨(inRd (x := 0) (by decide)), (inRd (x := 0) (by decide)), (inRd (x := 0) (by decide))⟩ ?_
    refine fun h35 => ?_
    refine z_iconst dX3_tells_137 ?_
    obtain rfl := someE h
    exact z_iret dX3_tells_138 hE (inRd (x := 0) (by decide)) rfl
  rcases o34 with e36 | o37
  · refine l_W_tells_L54 hb hz hG hr0 _ _ _ h26 ⟨(inRd (x := 0) (by decide)), (inRd (x := 0) (by decide)), (inRd (x := 0) (by decide))⟩ ?_
    refine fun h38 => ?_
    refine z_iconst dX3_tells_174 ?_
    obtain rfl := someE h
    exact z_iret dX3_tells_175 hE (inRd (x := 0) (by decide)) rfl
  rcases o37 with e39 | o40
  · refine l_W_tells_L54 hb hz hG hr0 _ _ _ h26 ⟨(inRd (x := 0) (by decide)), (inRd (x := 0) (by decide)), (inRd (x := 0) (by decide))⟩ ?_
    refine fun h41 => ?_
    refine z_iconst dX3_tells_209 ?_
    obtain rfl := someE h
    exact z_iret dX3_tells_210 hE (inRd (x := 0) (by decide)) rfl
  refine l_W_tells_L54 hb hz hG hr0 _ _ _ h26 ⟨(inRd (x := 0) (by decide)), (inRd (x := 0) (by decide)), (inRd (x := 0) (by decide))⟩ ?_
  refine fun h42 => ?_
  refine z_iconst dX3_tells_260 ?_
  obtain rfl := someE h
  exact z_iret dX3_tells_261 hE (inRd (x := 0) (by decide)) rfl
set_option maxHeartbeats 1000000 in
theorem t_B_floodRow_b120in8 {l : Launch} {g : GX} {φ : CX} {z : Nat} {G : Nat → Nat → Nat} {F : Nat} (hb : cb φ = z) (hz : 295 ≤ z) (hG : lyX G) {r0 : Nat} {r1 : Nat} {x2 : Int} {x3 : Int} {x4 : Int} {q0 : Nat} {s1 : Int} {s2 : Int} {s3 : Int} {I J : Nat → Nat → Int} (hr0 : isBed r0) (hr1 : isRiv r1) (hx2 : inR x2) (hx3 : inR x3) (hx4 : inR x4) (hq0 : isBed q0) (hs1 : inR s1) (hs2 : inR s2) (hs3 : inR s3) {res : (MI) ⊕ (Int × MI)} (h : f_B_floodRow_b120in8 F r0 r1 x2 x3 x4 q0 s1 s2 s3 I = some res) (kE : ∀ e : MI, res = .inl e → ((True) → Zt l g φ mu_B_floodRow 129 [none, none, none, none, none, none, none, none, none, none] [] (z, e, J, G))) (kS : ∀ s : Int × MI, res = .inr s → (inR s.1) → Zt l g φ mu_B_floodRow 8 [some (vR g r0), some (vR g r1), some (vI x2), some (vI x3), some (vI s.1), none, none, none, none, none] [] (z, s.2, J, G)) : Zt l g φ mu_B_floodRow 120 [some (vR g r0), some (vR g r1), some (vI x2), some (vI x3), some (vI x4), none, none, none, none, none] [vI s3, vI s2, vI s1, vR g q0] (z, I, J, G) := by
  obtain ⟨q20, hq21, h⟩ := bindE h
  refine z_callV (As := [vI s1, vI s2, vI s3]) (rest := []) (s_B_carryOff hz hG hq0 hs1 hs2 hs3 hq21) dX0_floodRow_120 mw_B_carryOff cl0 (bed_sh hq0) (bed_pos hq0) (Nat.le_trans (bed_le hq0) hz) ml_B_117 im_B_carryOff se_B_carryOff rfl rfl rfl rfl (Nat.le_refl _) (Nat.le_of_eq hb.symm) (fun hp22 => ?_)
  show Zt _ _ _ _ 123 _ [] (z, q20, J, G)
  refine z_iinc (L' := [some (vR g r0), some (vR g r1), some (vI x2), some (vI x3), some (vI (w32 (x4 + (-1)))), none, none, none, none, none]) dX0_floodRow_123 rfl rfl rfl rfl ?_
  refine z_goto (tgt := 8) dX0_floodRow_126 (by decide) ?_
  exact kS _ (someE h).symm (inR_w32 _)
set_option maxHeartbeats 1000000 in
theorem t_B_floodRow_L8 {l : Launch} {g : GX} {φ : CX} {z : Nat} {G : Nat → Nat → Nat} {F : Nat} (hb : cb φ = z) (hz : 295 ≤ z) (hG : lyX G) {r0 : Nat} {r1 : Nat} {x2 : Int} {x3 : Int} {x4 : Int} {I J : Nat → Nat → Int} (hr0 : isBed r0) (hr1 : isRiv r1) (hx2 : inR x2) (hx3 : inR x3) (hx4 : inR x4) {res : (MI) ⊕ (Int × MI)} (h : f_B_floodRow_L8 F r0 r1 x2 x3 x4 I = some res) (kE : ∀ e : MI, res = .inl e → ((True) → Zt l g φ mu_B_floodRow 129 [none, none, none, none, none, none, none, none, none, none] [] (z, e, J, G))) (kS : ∀ s : Int × MI, res = .inr s → (inR s.1) → Zt l g φ mu_B_floodRow 8 [some (vR g r0), some (vR g r1), some (vI x2), some (vI x3), some (vI s.1), none, none, none, none, none] [] (z, s.2, J, G)) : Zt l g φ mu_B_floodRow 8 [some (vR g r0), some (vR g r1), some (vI x2), some (vI x3), some (vI x4), none, none, none, none, none] [] (z, I, J, G) := by
  refine z_iload dX0_floodRow_8 rfl ?_
  refine z_if_lt (tgt := 129) dX0_floodRow_10 (by decide) hx4 (fun hc2 => ?_) (fun hc2 => ?_)
  · replace h := ifT hc2 h
    refine z_weak (L' := [none, none, none, none, none, none, none, none, none, none]) (lsN (lsN (lsN (lsN (lsN (lsN (lsN (lsN (lsN (lsN ls0)))))))))) ?_
    exact kE _ (someE h).symm trivial
  replace h := ifF hc2 h
  refine z_iload dX0_floodRow_13 rfl ?_
  refine z_iload_n dX0_floodRow_15 rfl ?_
  obtain ⟨q3, hq4, h⟩ := bindE h
  refine z_callSN (host := "FarewellStones") (As := [vI x4, vI x3]) (rest := []) (s_X_cellNumber hz hG hx4 hx3 hq4) dX0_floodRow_16 mw_X_cellNumber mlN_B_66 st_X_cellNumber rfl rfl rfl rfl (Nat.le_refl _) (Nat.le_of_eq hb.symm) (fun hp5 => ?_)
  show Zt _ _ _ _ 19 _ [vI q3] (z, I, J, G)
  refine z_istore (L' := [some (vR g r0), some (vR g r1), some (vI x2), some (vI x3), some (vI x4), some (vI q3), none, none, none, none]) dX0_floodRow_19 rfl rfl rfl ?_
  refine z_aload_n dX0_floodRow_21 rfl ?_
  refine y_getR dX0_floodRow_22 cl0 (bed_sh hr0) (bed_pos hr0) (Nat.le_trans (bed_le hr0) hz) 1 rfl rfl (fl_B_9) (bed_g1 hG hr0) (Nat.succ_pos _) ?_
  refine z_iload dX0_floodRow_25 rfl ?_
  obtain ⟨hg6, h⟩ := guardE h
  refine z_nm (fun hN7 => ?_)
  refine y_iald dX0_floodRow_27 (bed_sh1 hr0) (Nat.succ_pos _) (Nat.le_trans (bed_le1 hr0) hz) hp5 hg6 ?_
  refine z_istore (L' := [some (vR g r0), some (vR g r1), some (vI x2), some (vI x3), some (vI x4), some (vI q3), some (vI (I (r0 + 1) (q3).toNat)), none, none, none]) dX0_floodRow_28 rfl rfl rfl ?_
  refine z_iload dX0_floodRow_30 rfl ?_
  refine z_if_ne (tgt := 38) dX0_floodRow_32 (by decide) (hN7.1 (r0 + 1) (q3).toNat) (fun hc8 => ?_) (fun hc8 => ?_)
  · replace h := ifT hc8 h
    refine z_aload_n dX0_floodRow_38 rfl ?_
    refine z_iload dX0_floodRow_39 rfl ?_
    refine z_aload_n dX0_floodRow_41 rfl ?_
    refine y_getI dX0_floodRow_42 cl0 (bed_sh hr0) (bed_pos hr0) (Nat.le_trans (bed_le hr0) hz) 0 rfl rfl (fl_B_30) ?_
    refine z_iconst dX0_floodRow_45 ?_
    refine z_iadd dX0_floodRow_46 ?_
    obtain ⟨q9, hq10, h⟩ := bindE h
    refine z_callV (As := [vI q3, vI (w32 ((I r0 0) + 1))]) (rest := []) (s_B_mossOn hz hG hr0 hp5 (inR_w32 _) hq10) dX0_floodRow_47 mw_B_mossOn cl0 (bed_sh hr0) (bed_pos hr0) (Nat.le_trans (bed_le hr0) hz) ml_B_93 im_B_mossOn se_B_mossOn rfl rfl rfl rfl (Nat.le_refl _) (Nat.le_of_eq hb.symm) (fun hp11 => ?_)
    show Zt _ _ _ _ 50 _ [vI q9] (z, I, J, G)
    refine z_istore (L' := [some (vR g r0), some (vR g r1), some (vI x2), some (vI x3), some (vI x4), some (vI q3), some (vI (I (r0 + 1) (q3).toNat)), some (vI q9), none, none]) dX0_floodRow_50 rfl rfl rfl ?_
    refine z_aload_n dX0_floodRow_52 rfl ?_
    refine y_getNR (host := "FarewellStones") dX0_floodRow_53 cl6 (riv_sh hr1) (riv_pos hr1) (Nat.le_trans (riv_le hr1) hz) 13 rfl rfl (flN_B_96) (riv_g13 hG hr1) (law_pos (riv_is13 hr1)) ?_
    refine z_iload dX0_floodRow_56 rfl ?_
    refine z_aload_n dX0_floodRow_58 rfl ?_
    refine y_getNR (host := "FarewellStones") dX0_floodRow_59 cl6 (riv_sh hr1) (riv_pos hr1) (Nat.le_trans (riv_le hr1) hz) 3 rfl rfl (flN_B_100) (riv_g3 hG hr1) (Nat.succ_pos _) ?_
    refine z_iload dX0_floodRow_62 rfl ?_
    refine y_iald dX0_floodRow_64 (riv_sh3 hr1) (Nat.succ_pos _) (Nat.le_trans (riv_le3 hr1) hz) hp5 hg6 ?_
    refine z_iload_n dX0_floodRow_65 rfl ?_
    refine z_iload dX0_floodRow_66 rfl ?_
    refine z_iload_n dX0_floodRow_68 rfl ?_
    refine z_iload dX0_floodRow_69 rfl ?_
    obtain ⟨q12, hq13, h⟩ := bindE h
    refine z_callV (As := [vI (I (r0 + 1) (q3).toNat), vI (I (r1 + 1) (q3).toNat), vI x2, vI q9, vI x3, vI x4]) (rest := []) (s_W_tells hz hG (riv_is13 hr1) (hN7.1 (r0 + 1) (q3).toNat) (hN7.1 (r1 + 1) (q3).toNat) hx2 hp11 hx3 hx4 hq13) dX0_floodRow_71 mw_W_tells cl3 (law_sh (riv_is13 hr1)) (law_pos (riv_is13 hr1)) (Nat.le_trans (law_le (riv_is13 hr1)) hz) ml_B_103 im_W_tells se_W_tells rfl rfl rfl rfl (Nat.le_refl _) (Nat.le_of_eq hb.symm) (fun hp14 => ?_)
    show Zt _ _ _ _ 74 _ [vI q12.1] (z, q12.2, J, G)
    refine z_istore (L' := [some (vR g r0), some (vR g r1), some (vI x2), some (vI x3), some (vI x4), some (vI q3), some (vI (I (r0 + 1) (q3).toNat)), some (vI q9), some (vI q12.1), none]) dX0_floodRow_74 rfl rfl rfl ?_
    refine z_iconst dX0_floodRow_76 ?_
    refine z_iload dX0_floodRow_77 rfl ?_
    refine z_iload dX0_floodRow_79 rfl ?_
    refine z_min dX0_floodRow_81 hp14 (hN7.1 (r0 + 1) (q3).toNat) (tin3 223 (by decide +kernel) rfl) math_min_s math_i math_min_c rfl rfl (Nat.le_of_eq hb.symm) ?_
    refine z_max dX0_floodRow_84 (inRd (x := 0) (by decide)) (inR_min hp14 (hN7.1 (r0 + 1) (q3).toNat)) (tin4 4 (by decide +kernel) rfl) math_max_s math_i math_max_c rfl rfl (Nat.le_of_eq hb.symm) ?_
    refine z_istore (L' := [some (vR g r0), some (vR g r1), some (vI x2), some (vI x3), some (vI x4), some (vI q3), some (vI (I (r0 + 1) (q3).toNat)), some (vI q9), some (vI q12.1), some (vI (max 0 (min q12.1 (I (r0 + 1) (q3).toNat))))]) dX0_floodRow_87 rfl rfl rfl ?_
    refine z_iload dX0_floodRow_89 rfl ?_
    refine z_if_le (tgt := 123) dX0_floodRow_91 (by decide) (inR_max (inRd (x := 0) (by decide)) (inR_min hp14 (hN7.1 (r0 + 1) (q3).toNat))) (fun hc15 => ?_) (fun hc15 => ?_)
    · replace h := ifT hc15 h
      refine z_iinc (L' := [some (vR g r0), some (vR g r1), some (vI x2), some (vI x3), some (vI (w32 (x4 + (-1)))), some (vI q3), some (vI (I (r0 + 1) (q3).toNat)), some (vI q9), some (vI q12.1), some (vI (max 0 (min q12.1 (I (r0 + 1) (q3).toNat))))]) dX0_floodRow_123 rfl rfl rfl rfl ?_
      refine z_goto (tgt := 8) dX0_floodRow_126 (by decide) ?_
      refine z_weak (L' := [some (vR g r0), some (vR g r1), some (vI x2), some (vI x3), some (vI (w32 (x4 + (-1)))), none, none, none, none, none]) (lsS (lsS (lsS (lsS (lsS (lsN (lsN (lsN (lsN (lsN ls0)))))))))) ?_
      exact kS _ (someE h).symm (inR_w32 _)
    replace h := ifF hc15 h
    refine z_aload_n dX0_floodRow_94 rfl ?_
    refine z_iload dX0_floodRow_95 rfl ?_
    refine z_iload dX0_floodRow_97 rfl ?_
    refine z_aload_n dX0_floodRow_99 rfl ?_
    refine z_iload dX0_floodRow_100 rfl ?_
    refine z_iload_n dX0_floodRow_102 rfl ?_
    refine z_iadd dX0_floodRow_103 ?_
    refine z_iload_n dX0_floodRow_104 rfl ?_
    obtain ⟨q16, hq17, h⟩ := bindE h
    refine z_callV (As := [vI (w32 (x4 + x2)), vI x3]) (rest := [vI (max 0 (min q12.1 (I (r0 + 1) (q3).toNat))), vI q3, vR g r0]) (s_R_has hz hG hr1 (inR_w32 _) hx3 hq17) dX0_floodRow_105 mw_R_has cl6 (riv_sh hr1) (riv_pos hr1) (Nat.le_trans (riv_le hr1) hz) ml_B_62 im_R_has se_R_has rfl rfl rfl rfl (Nat.le_refl _) (Nat.le_of_eq hb.symm) (fun hp18 => ?_)
    show Zt _ _ _ _ 108 _ [vI q16, vI (max 0 (min q12.1 (I (r0 + 1) (q3).toNat))), vI q3, vR g r0] (z, q12.2, J, G)
    refine z_if_eq (tgt := 118) dX0_floodRow_108 (by decide) (inR_bool hp18) (fun hc19 => ?_) (fun hc19 => ?_)
    · replace h := ifT hc19 h
      refine z_bipush dX0_floodRow_118 (by decide +kernel) ?_
      refine z_weak (L' := [some (vR g r0), some (vR g r1), some (vI x2), some (vI x3), some (vI x4), none, none, none, none, none]) (lsS (lsS (lsS (lsS (lsS (lsN (lsN (lsN (lsN (lsN ls0)))))))))) ?_
      exact t_B_floodRow_b120in8 hb hz hG hr0 hr1 hx2 hx3 hx4 hr0 hp5 (inR_max (inRd (x := 0) (by decide)) (inR_min hp14 (hN7.1 (r0 + 1) (q3).toNat))) (inRd (x := (-2)) (by decide)) h kE kS
    replace h := ifF hc19 h
    refine z_iload dX0_floodRow_111 rfl ?_
    refine z_iload_n dX0_floodRow_113 rfl ?_
    refine z_iadd dX0_floodRow_114 ?_
    refine z_goto (tgt := 120) dX0_floodRow_115 (by decide) ?_
    refine z_weak (L' := [some (vR g r0), some (vR g r1), some (vI x2), some (vI x3), some (vI x4), none, none, none, none, none]) (lsS (lsS (lsS (lsS (lsS (lsN (lsN (lsN (lsN (lsN ls0)))))))))) ?_
    exact t_B_floodRow_b120in8 hb hz hG hr0 hr1 hx2 hx3 hx4 hr0 hp5 (inR_max (inRd (x := 0) (by decide)) (inR_min hp14 (hN7.1 (r0 + 1) (q3).toNat))) (inR_w32 _) h kE kS
  replace h := ifF (fun q => q hc8) h
  refine z_goto (tgt := 123) dX0_floodRow_35 (by decide) ?_
  refine z_iinc (L' := [some (vR g r0), some (vR g r1), some (vI x2), some (vI x3), some (vI (w32 (x4 + (-1)))), some (vI q3), some (vI (I (r0 + 1) (q3).toNat)), none, none, none]) dX0_floodRow_123 rfl rfl rfl rfl ?_
  refine z_goto (tgt := 8) dX0_floodRow_126 (by decide) ?_
  refine z_weak (L' := [some (vR g r0), some (vR g r1), some (vI x2), some (vI x3), some (vI (w32 (x4 + (-1)))), none, none, none, none, none]) (lsS (lsS (lsS (lsS (lsS (lsN (lsN (lsN (lsN (lsN ls0)))))))))) ?_
  exact kS _ (someE h).symm (inR_w32 _)
theorem l_B_floodRow_L8 {l : Launch} {g : GX} {φ : CX} {z : Nat} {G : Nat → Nat → Nat} {F : Nat} (hb : cb φ = z) (hz : 295 ≤ z) (hG : lyX G) {r0 : Nat} {r1 : Nat} {x2 : Int} {x3 : Int} {J : Nat → Nat → Int} (hr0 : isBed r0) (hr1 : isRiv r1) (hx2 : inR x2) (hx3 : inR x3) (n : Nat) (s : Int × MI) (e : MI) (h : iter (fun s : Int × MI => f_B_floodRow_L8 F r0 r1 x2 x3 s.1 s.2) n s = some e) (hs : inR s.1) (k : ((True) → Zt l g φ mu_B_floodRow 129 [none, none, none, none, none, none, none, none, none, none] [] (z, e, J, G))) : Zt l g φ mu_B_floodRow 8 [some (vR g r0), some (vR g r1), some (vI x2), some (vI x3), some (vI s.1), none, none, none, none, none] [] (z, s.2, J, G) := by
  refine iter_ind (Z := fun s : Int × MI => Zt l g φ mu_B_floodRow 8 [some (vR g r0), some (vR g r1), some (vI x2), some (vI x3), some (vI s.1), none, none, none, none, none] [] (z, s.2, J, G)) (ZE := fun e : MI => ((True) → Zt l g φ mu_B_floodRow 129 [none, none, none, none, none, none, none, none, none, none] [] (z, e, J, G))) (Rg := fun s : Int × MI => inR s.1) ?_ n s e h hs k
  intro s r hr hst kE kS
  exact t_B_floodRow_L8 hb hz hG hr0 hr1 hx2 hx3 hr hst kE kS
set_option maxHeartbeats 1000000 in
theorem s_B_floodRow {l : Launch} {g : GX} {z : Nat} {G : Nat → Nat → Nat} {F : Nat} (hz : 295 ≤ z) (hG : lyX G) {r0 : Nat} {r1 : Nat} {x2 : Int} {x3 : Int} {I J : Nat → Nat → Int} (hr0 : isBed r0) (hr1 : isRiv r1) (hx2 : inR x2) (hx3 : inR x3) {res : MI} (h : f_B_floodRow F r0 r1 x2 x3 I = some res) : Spec l g 15 yX0_floodRow cX0_floodRow 10 none [vR g r0, vR g r1, vI x2, vI x3] (z, I, J, G) none True (z, res, J, G) := by
  refine spec_of (μ := mu_B_floodRow) (k := 6) (L0 := [some (vR g r0), some (vR g r1), some (vI x2), some (vI x3), none, none, none, none, none, none]) rfl mw_B_floodRow rfl rfl (Nat.le_refl _) (fun φ hb hE => ?_)
  refine z_aload_n dX0_floodRow_0 rfl ?_
  refine z_nm (fun hN1 => ?_)
  refine y_getNI (host := "FarewellStones") dX0_floodRow_1 cl6 (riv_sh hr1) (riv_pos hr1) (Nat.le_trans (riv_le hr1) hz) 0 rfl rfl (flN_B_90) ?_
  refine z_iconst dX0_floodRow_4 ?_
  refine z_isub dX0_floodRow_5 ?_
  refine z_istore (L' := [some (vR g r0), some (vR g r1), some (vI x2), some (vI x3), some (vI (w32 ((I r1 0) - 1))), none, none, none, none, none]) dX0_floodRow_6 rfl rfl rfl ?_
  obtain ⟨e23, h24, h⟩ := bindE h
  refine l_B_floodRow_L8 hb hz hG hr0 hr1 hx2 hx3 _ _ _ h24 (inR_w32 _) ?_
  refine fun h25 => ?_
  obtain rfl := someE h
  exact z_vret dX0_floodRow_129 hE trivial rfl
set_option maxHeartbeats 1000000 in
theorem t_B_passDay_L42 {l : Launch} {g : GX} {φ : CX} {z : Nat} {G : Nat → Nat → Nat} {F : Nat} (hb : cb φ = z) (hz : 295 ≤ z) (hG : lyX G) {r0 : Nat} {r1 : Nat} {x2 : Int} {x3 : Int} {x5 : Int} {x6 : Int} {I J : Nat → Nat → Int} (hr0 : isBed r0) (hr1 : isRiv r1) (hx2 : inR x2) (hx3 : inR x3) (hx5 : inR x5) (hx6 : inR x6) {res : (MI) ⊕ (Int × MI)} (h : f_B_passDay_L42 F r0 r1 x2 x3 x5 x6 I = some res) (kE : ∀ e : MI, res = .inl e → ((True) → Zt l g φ mu_B_passDay 68 [some (vR g r0), some (vR g r1), some (vI x2), some (vI x3), none, some (vI x5), none] [] (z, e, J, G))) (kS : ∀ s : Int × MI, res = .inr s → (inR s.1) → Zt l g φ mu_B_passDay 42 [some (vR g r0), some (vR g r1), some (vI x2), some (vI x3), none, some (vI x5), some (vI s.1)] [] (z, s.2, J, G)) : Zt l g φ mu_B_passDay 42 [some (vR g r0), some (vR g r1), some (vI x2), some (vI x3), none, some (vI x5), some (vI x6)] [] (z, I, J, G) := by
  refine z_iload dX0_passDay_42 rfl ?_
  refine z_iload_n dX0_passDay_44 rfl ?_
  refine z_icmp_ge (tgt := 68) dX0_passDay_45 (by decide) hx6 hx3 (fun hc6 => ?_) (fun hc6 => ?_)
  · replace h := ifT hc6 h
    refine z_weak (L' := [some (vR g r0), some (vR g r1), some (vI x2), some (vI x3), none, some (vI x5), none]) (lsS (lsS (lsS (lsS (lsN (lsS (lsN ls0))))))) ?_
    exact kE _ (someE h).symm trivial
  replace h := ifF hc6 h
  refine z_aload_n dX0_passDay_48 rfl ?_
  refine z_aload_n dX0_passDay_49 rfl ?_
  refine z_aload_n dX0_passDay_50 rfl ?_
  refine y_getNR (host := "FarewellStones") dX0_passDay_51 cl6 (riv_sh hr1) (riv_pos hr1) (Nat.le_trans (riv_le hr1) hz) 12 rfl rfl (flN_B_83) (riv_g12 hG hr1) (Nat.succ_pos _) ?_
  refine z_iload dX0_passDay_54 rfl ?_
  obtain ⟨hg7, h⟩ := guardE h
  refine z_nm (fun hN8 => ?_)
  refine y_iald dX0_passDay_56 (riv_sh12 hr1) (Nat.succ_pos _) (Nat.le_trans (riv_le12 hr1) hz) hx5 hg7 ?_
  refine z_iload dX0_passDay_57 rfl ?_
  obtain ⟨q9, hq10, h⟩ := bindE h
  refine z_callV (As := [vR g r1, vI (I (r1 + 8) (x5).toNat), vI x6]) (rest := []) (s_B_floodRow hz hG hr0 hr1 (hN8.1 (r1 + 8) (x5).toNat) hx6 hq10) dX0_passDay_59 mw_B_floodRow cl0 (bed_sh hr0) (bed_pos hr0) (Nat.le_trans (bed_le hr0) hz) ml_B_86 im_B_floodRow se_B_floodRow rfl rfl rfl rfl (Nat.le_refl _) (Nat.le_of_eq hb.symm) (fun hp11 => ?_)
  show Zt _ _ _ _ 62 _ [] (z, q9, J, G)
  refine z_iinc (L' := [some (vR g r0), some (vR g r1), some (vI x2), some (vI x3), none, some (vI x5), some (vI (w32 (x6 + 1)))]) dX0_passDay_62 rfl rfl rfl rfl ?_
  refine z_goto (tgt := 42) dX0_passDay_65 (by decide) ?_
  exact kS _ (someE h).symm (inR_w32 _)
theorem l_B_passDay_L42 {l : Launch} {g : GX} {φ : CX} {z : Nat} {G : Nat → Nat → Nat} {F : Nat} (hb : cb φ = z) (hz : 295 ≤ z) (hG : lyX G) {r0 : Nat} {r1 : Nat} {x2 : Int} {x3 : Int} {x5 : Int} {J : Nat → Nat → Int} (hr0 : isBed r0) (hr1 : isRiv r1) (hx2 : inR x2) (hx3 : inR x3) (hx5 : inR x5) (n : Nat) (s : Int × MI) (e : MI) (h : iter (fun s : Int × MI => f_B_passDay_L42 F r0 r1 x2 x3 x5 s.1 s.2) n s = some e) (hs : inR s.1) (k : ((True) → Zt l g φ mu_B_passDay 68 [some (vR g r0), some (vR g r1), some (vI x2), some (vI x3), none, some (vI x5), none] [] (z, e, J, G))) : Zt l g φ mu_B_passDay 42 [some (vR g r0), some (vR g r1), some (vI x2), some (vI x3), none, some (vI x5), some (vI s.1)] [] (z, s.2, J, G) := by
  refine iter_ind (Z := fun s : Int × MI => Zt l g φ mu_B_passDay 42 [some (vR g r0), some (vR g r1), some (vI x2), some (vI x3), none, some (vI x5), some (vI s.1)] [] (z, s.2, J, G)) (ZE := fun e : MI => ((True) → Zt l g φ mu_B_passDay 68 [some (vR g r0), some (vR g r1), some (vI x2), some (vI x3), none, some (vI x5), none] [] (z, e, J, G))) (Rg := fun s : Int × MI => inR s.1) ?_ n s e h hs k
  intro s r hr hst kE kS
  exact t_B_passDay_L42 hb hz hG hr0 hr1 hx2 hx3 hx5 hr hst kE kS
set_option maxHeartbeats 1000000 in
theorem t_B_passDay_L6 {l : Launch} {g : GX} {φ : CX} {z : Nat} {G : Nat → Nat → Nat} {F : Nat} (hb : cb φ = z) (hz : 295 ≤ z) (hG : lyX G) {r0 : Nat} {r1 : Nat} {x2 : Int} {x3 : Int} {x4 : Int} {x5 : Int} {I J : Nat → Nat → Int} (hr0 : isBed r0) (hr1 : isRiv r1) (hx2 : inR x2) (hx3 : inR x3) (hx4 : x4 = 0 ∨ x4 = 1) (hx5 : inR x5) {res : (Int × MI) ⊕ (Int × Int × MI)} (h : f_B_passDay_L6 F r0 r1 x2 x3 x4 x5 I = some res) (kE : ∀ e : Int × MI, res = .inl e → (((e.1 = 0 ∨ e.1 = 1)) → Zt l g φ mu_B_passDay 77 [some (vR g r0), none, none, none, some (vI e.1), none, none] [] (z, e.2, J, G))) (kS : ∀ s : Int × Int × MI, res = .inr s → ((s.1 = 0 ∨ s.1 = 1) ∧ inR s.2.1) → Zt l g φ mu_B_passDay 6 [some (vR g r0), some (vR g r1), some (vI x2), some (vI x3), some (vI s.1), some (vI s.2.1), none] [] (z, s.2.2, J, G)) : Zt l g φ mu_B_passDay 6 [some (vR g r0), some (vR g r1), some (vI x2), some (vI x3), some (vI x4), some (vI x5), none] [] (z, I, J, G) := by
  refine z_iload dX0_passDay_6 rfl ?_
  refine z_aload_n dX0_passDay_8 rfl ?_
  refine z_nm (fun hN1 => ?_)
  refine y_getNI (host := "FarewellStones") dX0_passDay_9 cl6 (riv_sh hr1) (riv_pos hr1) (Nat.le_trans (riv_le hr1) hz) 10 rfl rfl (flN_B_77) ?_
  refine z_icmp_ge (tgt := 77) dX0_passDay_12 (by decide) hx5 (hN1.1 r1 10) (fun hc2 => ?_) (fun hc2 => ?_)
  · replace h := ifT hc2 h
    refine z_weak (L' := [some (vR g r0), none, none, none, some (vI x4), none, none]) (lsS (lsN (lsN (lsN (lsS (lsN (lsN ls0))))))) ?_
    exact kE _ (someE h).symm hx4
  replace h := ifF hc2 h
  refine z_iload dX0_passDay_15 rfl ?_
  refine z_bipush dX0_passDay_17 (by decide +kernel) ?_
  refine z_icmp_ge (tgt := 77) dX0_passDay_19 (by decide) hx5 (inRd (x := 8) (by decide)) (fun hc3 => ?_) (fun hc3 => ?_)
  · replace h := ifT hc3 h
    refine z_weak (L' := [some (vR g r0), none, none, none, some (vI x4), none, none]) (lsS (lsN (lsN (lsN (lsS (lsN (lsN ls0))))))) ?_
    exact kE _ (someE h).symm hx4
  replace h := ifF hc3 h
  refine z_aload_n dX0_passDay_22 rfl ?_
  refine y_getNR (host := "FarewellStones") dX0_passDay_23 cl6 (riv_sh hr1) (riv_pos hr1) (Nat.le_trans (riv_le hr1) hz) 11 rfl rfl (flN_B_80) (riv_g11 hG hr1) (Nat.succ_pos _) ?_
  refine z_iload dX0_passDay_26 rfl ?_
  obtain ⟨hg4, h⟩ := guardE h
  refine y_iald dX0_passDay_28 (riv_sh11 hr1) (Nat.succ_pos _) (Nat.le_trans (riv_le11 hr1) hz) hx5 hg4 ?_
  refine z_aload_n dX0_passDay_29 rfl ?_
  refine y_getI dX0_passDay_30 cl0 (bed_sh hr0) (bed_pos hr0) (Nat.le_trans (bed_le hr0) hz) 0 rfl rfl (fl_B_30) ?_
  refine z_icmp_eq (tgt := 39) dX0_passDay_33 (by decide) (hN1.1 (r1 + 7) (x5).toNat) (hN1.1 r0 0) (fun hc5 => ?_) (fun hc5 => ?_)
  · replace h := ifT hc5 h
    refine z_iload_n dX0_passDay_39 rfl ?_
    refine z_istore (L' := [some (vR g r0), some (vR g r1), some (vI x2), some (vI x3), some (vI x4), some (vI x5), some (vI x2)]) dX0_passDay_40 rfl rfl rfl ?_
    refine z_weak (L' := [some (vR g r0), some (vR g r1), some (vI x2), some (vI x3), none, some (vI x5), some (vI x2)]) (lsS (lsS (lsS (lsS (lsN (lsS (lsS ls0))))))) ?_
    obtain ⟨e12, h13, h⟩ := bindE h
    refine l_B_passDay_L42 hb hz hG hr0 hr1 hx2 hx3 hx5 _ _ _ h13 hx2 ?_
    refine fun h14 => ?_
    refine z_iconst dX0_passDay_68 ?_
    refine z_istore (L' := [some (vR g r0), some (vR g r1), some (vI x2), some (vI x3), some (vI 1), some (vI x5), none]) dX0_passDay_69 rfl rfl rfl ?_
    refine z_iinc (L' := [some (vR g r0), some (vR g r1), some (vI x2), some (vI x3), some (vI 1), some (vI (w32 (x5 + 1))), none]) dX0_passDay_71 rfl rfl rfl rfl ?_
    refine z_goto (tgt := 6) dX0_passDay_74 (by decide) ?_
    exact kS _ (someE h).symm ⟨b01_1, (inR_w32 _)⟩
  replace h := ifF hc5 h
  refine z_goto (tgt := 71) dX0_passDay_36 (by decide) ?_
  refine z_iinc (L' := [some (vR g r0), some (vR g r1), some (vI x2), some (vI x3), some (vI x4), some (vI (w32 (x5 + 1))), none]) dX0_passDay_71 rfl rfl rfl rfl ?_
  refine z_goto (tgt := 6) dX0_passDay_74 (by decide) ?_
  exact kS _ (someE h).symm ⟨hx4, (inR_w32 _)⟩
theorem l_B_passDay_L6 {l : Launch} {g : GX} {φ : CX} {z : Nat} {G : Nat → Nat → Nat} {F : Nat} (hb : cb φ = z) (hz : 295 ≤ z) (hG : lyX G) {r0 : Nat} {r1 : Nat} {x2 : Int} {x3 : Int} {J : Nat → Nat → Int} (hr0 : isBed r0) (hr1 : isRiv r1) (hx2 : inR x2) (hx3 : inR x3) (n : Nat) (s : Int × Int × MI) (e : Int × MI) (h : iter (fun s : Int × Int × MI => f_B_passDay_L6 F r0 r1 x2 x3 s.1 s.2.1 s.2.2) n s = some e) (hs : (s.1 = 0 ∨ s.1 = 1) ∧ inR s.2.1) (k : (((e.1 = 0 ∨ e.1 = 1)) → Zt l g φ mu_B_passDay 77 [some (vR g r0), none, none, none, some (vI e.1), none, none] [] (z, e.2, J, G))) : Zt l g φ mu_B_passDay 6 [some (vR g r0), some (vR g r1), some (vI x2), some (vI x3), some (vI s.1), some (vI s.2.1), none] [] (z, s.2.2, J, G) := by
  refine iter_ind (Z := fun s : Int × Int × MI => Zt l g φ mu_B_passDay 6 [some (vR g r0), some (vR g r1), some (vI x2), some (vI x3), some (vI s.1), some (vI s.2.1), none] [] (z, s.2.2, J, G)) (ZE := fun e : Int × MI => (((e.1 = 0 ∨ e.1 = 1)) → Zt l g φ mu_B_passDay 77 [some (vR g r0), none, none, none, some (vI e.1), none, none] [] (z, e.2, J, G))) (Rg := fun s : Int × Int × MI => (s.1 = 0 ∨ s.1 = 1) ∧ inR s.2.1) ?_ n s e h hs k
  intro s r hr hst kE kS
  exact t_B_passDay_L6 hb hz hG hr0 hr1 hx2 hx3 hr.1 hr.2 hst kE kS
set_option maxHeartbeats 1000000 in
theorem s_B_passDay {l : Launch} {g : GX} {z : Nat} {G : Nat → Nat → Nat} {F : Nat} (hz : 295 ≤ z) (hG : lyX G) {r0 : Nat} {r1 : Nat} {x2 : Int} {x3 : Int} {I J : Nat → Nat → Int} (hr0 : isBed r0) (hr1 : isRiv r1) (hx2 : inR x2) (hx3 : inR x3) {res : Int × MI} (h : f_B_passDay F r0 r1 x2 x3 I = some res) : Spec l g 16 yX0_passDay cX0_passDay 7 (some .boolean) [vR g r0, vR g r1, vI x2, vI x3] (z, I, J, G) (some (vI res.1)) (res.1 = 0 ∨ res.1 = 1) (z, res.2, J, G) := by
  refine spec_of (μ := mu_B_passDay) (k := 3) (L0 := [some (vR g r0), some (vR g r1), some (vI x2), some (vI x3), none, none, none]) rfl mw_B_passDay rfl rfl (Nat.le_refl _) (fun φ hb hE => ?_)
  refine z_iconst dX0_passDay_0 ?_
  refine z_istore (L' := [some (vR g r0), some (vR g r1), some (vI x2), some (vI x3), some (vI 0), none, none]) dX0_passDay_1 rfl rfl rfl ?_
  refine z_iconst dX0_passDay_3 ?_
  refine z_istore (L' := [some (vR g r0), some (vR g r1), some (vI x2), some (vI x3), some (vI 0), some (vI 0), none]) dX0_passDay_4 rfl rfl rfl ?_
  obtain ⟨e15, h16, h⟩ := bindE h
  refine l_B_passDay_L6 hb hz hG hr0 hr1 hx2 hx3 _ _ _ h16 ⟨b01_0, (inRd (x := 0) (by decide))⟩ ?_
  refine fun h17 => ?_
  refine z_aload_n dX0_passDay_77 rfl ?_
  refine z_dup dX0_passDay_78 rfl ?_
  refine z_nm (fun hN18 => ?_)
  refine y_getI dX0_passDay_79 cl0 (bed_sh hr0) (bed_pos hr0) (Nat.le_trans (bed_le hr0) hz) 0 rfl rfl (fl_B_30) ?_
  refine z_iconst dX0_passDay_82 ?_
  refine z_iadd dX0_passDay_83 ?_
  refine y_putI dX0_passDay_84 cl0 (bed_sh hr0) (bed_pos hr0) (Nat.le_trans (bed_le hr0) hz) 0 rfl rfl rfl (fl_B_30) rfl rfl (inR_w32 _) ?_
  refine z_iload dX0_passDay_87 rfl ?_
  obtain rfl := someE h
  exact z_zret dX0_passDay_89 hE h17 h17 rfl
set_option maxHeartbeats 1000000 in
theorem t_B_passDays_L3 {l : Launch} {g : GX} {φ : CX} {z : Nat} {G : Nat → Nat → Nat} {F : Nat} (hb : cb φ = z) (hz : 295 ≤ z) (hG : lyX G) {r0 : Nat} {r1 : Nat} {x2 : Int} {x3 : Int} {x4 : Int} {x5 : Int} {I J : Nat → Nat → Int} (hr0 : isBed r0) (hr1 : isRiv r1) (hx2 : inR x2) (hx3 : inR x3) (hx4 : inR x4) (hx5 : inR x5) {res : (MI) ⊕ (Int × MI)} (h : f_B_passDays_L3 F r0 r1 x2 x3 x4 x5 I = some res) (kE : ∀ e : MI, res = .inl e → ((True) → Zt l g φ mu_B_passDays 31 [none, none, none, none, none, none] [] (z, e, J, G))) (kS : ∀ s : Int × MI, res = .inr s → (inR s.1) → Zt l g φ mu_B_passDays 3 [some (vR g r0), some (vR g r1), some (vI x2), some (vI x3), some (vI x4), some (vI s.1)] [] (z, s.2, J, G)) : Zt l g φ mu_B_passDays 3 [some (vR g r0), some (vR g r1), some (vI x2), some (vI x3), some (vI x4), some (vI x5)] [] (z, I, J, G) := by
  refine z_iload dX0_passDays_3 rfl ?_
  refine z_iload_n dX0_passDays_5 rfl ?_
  refine z_icmp_ge (tgt := 31) dX0_passDays_6 (by decide) hx5 hx2 (fun hc1 => ?_) (fun hc1 => ?_)
  · replace h := ifT hc1 h
    refine z_weak (L' := [none, none, none, none, none, none]) (lsN (lsN (lsN (lsN (lsN (lsN ls0)))))) ?_
    exact kE _ (someE h).symm trivial
  replace h := ifF hc1 h
  refine z_iload dX0_passDays_9 rfl ?_
  refine z_bipush dX0_passDays_11 (by decide +kernel) ?_
  refine z_icmp_ge (tgt := 31) dX0_passDays_13 (by decide) hx5 (inRd (x := 100) (by decide)) (fun hc2 => ?_) (fun hc2 => ?_)
  · replace h := ifT hc2 h
    refine z_weak (L' := [none, none, none, none, none, none]) (lsN (lsN (lsN (lsN (lsN (lsN ls0)))))) ?_
    exact kE _ (someE h).symm trivial
  replace h := ifF hc2 h
  refine z_aload_n dX0_passDays_16 rfl ?_
  refine z_aload_n dX0_passDays_17 rfl ?_
  refine z_iload_n dX0_passDays_18 rfl ?_
  refine z_iload dX0_passDays_19 rfl ?_
  obtain ⟨q3, hq4, h⟩ := bindE h
  refine z_callV (As := [vR g r1, vI x3, vI x4]) (rest := []) (s_B_passDay hz hG hr0 hr1 hx3 hx4 hq4) dX0_passDays_21 mw_B_passDay cl0 (bed_sh hr0) (bed_pos hr0) (Nat.le_trans (bed_le hr0) hz) ml_B_73 im_B_passDay se_B_passDay rfl rfl rfl rfl (Nat.le_refl _) (Nat.le_of_eq hb.symm) (fun hp5 => ?_)
  show Zt _ _ _ _ 24 _ [vI q3.1] (z, q3.2, J, G)
  refine z_pop dX0_passDays_24 rfl ?_
  refine z_iinc (L' := [some (vR g r0), some (vR g r1), some (vI x2), some (vI x3), some (vI x4), some (vI (w32 (x5 + 1)))]) dX0_passDays_25 rfl rfl rfl rfl ?_
  refine z_goto (tgt := 3) dX0_passDays_28 (by decide) ?_
  exact kS _ (someE h).symm (inR_w32 _)
theorem l_B_passDays_L3 {l : Launch} {g : GX} {φ : CX} {z : Nat} {G : Nat → Nat → Nat} {F : Nat} (hb : cb φ = z) (hz : 295 ≤ z) (hG : lyX G) {r0 : Nat} {r1 : Nat} {x2 : Int} {x3 : Int} {x4 : Int} {J : Nat → Nat → Int} (hr0 : isBed r0) (hr1 : isRiv r1) (hx2 : inR x2) (hx3 : inR x3) (hx4 : inR x4) (n : Nat) (s : Int × MI) (e : MI) (h : iter (fun s : Int × MI => f_B_passDays_L3 F r0 r1 x2 x3 x4 s.1 s.2) n s = some e) (hs : inR s.1) (k : ((True) → Zt l g φ mu_B_passDays 31 [none, none, none, none, none, none] [] (z, e, J, G))) : Zt l g φ mu_B_passDays 3 [some (vR g r0), some (vR g r1), some (vI x2), some (vI x3), some (vI x4), some (vI s.1)] [] (z, s.2, J, G) := by
  refine iter_ind (Z := fun s : Int × MI => Zt l g φ mu_B_passDays 3 [some (vR g r0), some (vR g r1), some (vI x2), some (vI x3), some (vI x4), some (vI s.1)] [] (z, s.2, J, G)) (ZE := fun e : MI => ((True) → Zt l g φ mu_B_passDays 31 [none, none, none, none, none, none] [] (z, e, J, G))) (Rg := fun s : Int × MI => inR s.1) ?_ n s e h hs k
  intro s r hr hst kE kS
  exact t_B_passDays_L3 hb hz hG hr0 hr1 hx2 hx3 hx4 hr hst kE kS
set_option maxHeartbeats 1000000 in
theorem s_B_passDays {l : Launch} {g : GX} {z : Nat} {G : Nat → Nat → Nat} {F : Nat} (hz : 295 ≤ z) (hG : lyX G) {r0 : Nat} {r1 : Nat} {x2 : Int} {x3 : Int} {x4 : Int} {I J : Nat → Nat → Int} (hr0 : isBed r0) (hr1 : isRiv r1) (hx2 : inR x2) (hx3 : inR x3) (hx4 : inR x4) {res : MI} (h : f_B_passDays F r0 r1 x2 x3 x4 I = some res) : Spec l g 17 yX0_passDays cX0_passDays 6 none [vR g r0, vR g r1, vI x2, vI x3, vI x4] (z, I, J, G) none True (z, res, J, G) := by
  refine spec_of (μ := mu_B_passDays) (k := 1) (L0 := [some (vR g r0), some (vR g r1), some (vI x2), some (vI x3), some (vI x4), none]) rfl mw_B_passDays rfl rfl (Nat.le_refl _) (fun φ hb hE => ?_)
  refine z_iconst dX0_passDays_0 ?_
  refine z_istore (L' := [some (vR g r0), some (vR g r1), some (vI x2), some (vI x3), some (vI x4), some (vI 0)]) dX0_passDays_1 rfl rfl rfl ?_
  obtain ⟨e6, h7, h⟩ := bindE h
  refine l_B_passDays_L3 hb hz hG hr0 hr1 hx2 hx3 hx4 _ _ _ h7 (inRd (x := 0) (by decide)) ?_
  refine fun h8 => ?_
  obtain rfl := someE h
  exact z_vret dX0_passDays_31 hE trivial rfl
set_option maxHeartbeats 1000000 in
theorem s_B_mossAt {l : Launch} {g : GX} {z : Nat} {G : Nat → Nat → Nat} {F : Nat} (hz : 295 ≤ z) (hG : lyX G) {r0 : Nat} {x1 : Int} {I J : Nat → Nat → Int} (hr0 : isBed r0) (hx1 : inR x1) {res : Int} (h : f_B_mossAt F r0 x1 I = some res) : Spec l g 15 yX0_mossAt cX0_mossAt 2 (some .int) [vR g r0, vI x1] (z, I, J, G) (some (vI res)) (inR res) (z, I, J, G) := by
  refine spec_of (μ := mu_B_mossAt) (k := 0) (L0 := [some (vR g r0), some (vI x1)]) rfl mw_B_mossAt rfl rfl (Nat.le_refl _) (fun φ hb hE => ?_)
  refine z_aload_n dX0_mossAt_0 rfl ?_
  refine z_iload_n dX0_mossAt_1 rfl ?_
  refine z_aload_n dX0_mossAt_2 rfl ?_
  refine z_nm (fun hN1 => ?_)
  refine y_getI dX0_mossAt_3 cl0 (bed_sh hr0) (bed_pos hr0) (Nat.le_trans (bed_le hr0) hz) 0 rfl rfl (fl_B_30) ?_
  obtain ⟨q2, hq3, h⟩ := bindE h
  refine z_callV (As := [vI x1, vI (I r0 0)]) (rest := []) (s_B_mossOn hz hG hr0 hx1 (hN1.1 r0 0) hq3) dX0_mossAt_6 mw_B_mossOn cl0 (bed_sh hr0) (bed_pos hr0) (Nat.le_trans (bed_le hr0) hz) ml_B_93 im_B_mossOn se_B_mossOn rfl rfl rfl rfl (Nat.le_refl _) (Nat.le_of_eq hb.symm) (fun hp4 => ?_)
  show Zt _ _ _ _ 9 _ [vI q2] (z, I, J, G)
  obtain rfl := someE h
  exact z_iret dX0_mossAt_9 hE hp4 rfl
set_option maxHeartbeats 1000000 in
theorem s_B_isStep {l : Launch} {g : GX} {z : Nat} {G : Nat → Nat → Nat} {F : Nat} (hz : 295 ≤ z) (hG : lyX G) {r0 : Nat} {r1 : Nat} {x2 : Int} {I J : Nat → Nat → Int} (hr0 : isBed r0) (hr1 : isRiv r1) (hx2 : inR x2) {res : Int} (h : f_B_isStep F r0 r1 x2 I = some res) : Spec l g 0 yX0_isStep cX0_isStep 3 (some .boolean) [vR g r0, vR g r1, vI x2] (z, I, J, G) (some (vI res)) (res = 0 ∨ res = 1) (z, I, J, G) := by
  refine spec_of (μ := mu_B_isStep) (k := 0) (L0 := [some (vR g r0), some (vR g r1), some (vI x2)]) rfl mw_B_isStep rfl rfl (Nat.le_refl _) (fun φ hb hE => ?_)
  refine z_aload_n dX0_isStep_0 rfl ?_
  refine y_getR dX0_isStep_1 cl0 (bed_sh hr0) (bed_pos hr0) (Nat.le_trans (bed_le hr0) hz) 1 rfl rfl (fl_B_9) (bed_g1 hG hr0) (Nat.succ_pos _) ?_
  refine z_iload_n dX0_isStep_4 rfl ?_
  obtain ⟨hg1, h⟩ := guardE h
  refine z_nm (fun hN2 => ?_)
  refine y_iald dX0_isStep_5 (bed_sh1 hr0) (Nat.succ_pos _) (Nat.le_trans (bed_le1 hr0) hz) hx2 hg1 ?_
  refine z_aload_n dX0_isStep_6 rfl ?_
  refine y_getNR (host := "FarewellStones") dX0_isStep_7 cl6 (riv_sh hr1) (riv_pos hr1) (Nat.le_trans (riv_le hr1) hz) 3 rfl rfl (flN_B_100) (riv_g3 hG hr1) (Nat.succ_pos _) ?_
  refine z_iload_n dX0_isStep_10 rfl ?_
  refine y_iald dX0_isStep_11 (riv_sh3 hr1) (Nat.succ_pos _) (Nat.le_trans (riv_le3 hr1) hz) hx2 hg1 ?_
  refine z_icmp_lt (tgt := 19) dX0_isStep_12 (by decide) (hN2.1 (r0 + 1) (x2).toNat) (hN2.1 (r1 + 1) (x2).toNat) (fun hc3 => ?_) (fun hc3 => ?_)
  · replace h := ifT hc3 h
    refine z_iconst dX0_isStep_19 ?_
    obtain rfl := someE h
    exact z_zret dX0_isStep_20 hE b01_0 b01_0 rfl
  replace h := ifF hc3 h
  refine z_iconst dX0_isStep_15 ?_
  refine z_goto (tgt := 20) dX0_isStep_16 (by decide) ?_
  obtain rfl := someE h
  exact z_zret dX0_isStep_20 hE b01_1 b01_1 rfl
set_option maxHeartbeats 1000000 in
theorem s_B_slippery {l : Launch} {g : GX} {z : Nat} {G : Nat → Nat → Nat} {F : Nat} (hz : 295 ≤ z) (hG : lyX G) {r0 : Nat} {r1 : Nat} {x2 : Int} {I J : Nat → Nat → Int} (hr0 : isBed r0) (hr1 : isRiv r1) (hx2 : inR x2) {res : Int × MI} (h : f_B_slippery F r0 r1 x2 I = some res) : Spec l g 16 yX0_slippery cX0_slippery 4 (some .int) [vR g r0, vR g r1, vI x2] (z, I, J, G) (some (vI res.1)) (inR res.1) (z, res.2, J, G) := by
  refine spec_of (μ := mu_B_slippery) (k := 1) (L0 := [some (vR g r0), some (vR g r1), some (vI x2), none]) rfl mw_B_slippery rfl rfl (Nat.le_refl _) (fun φ hb hE => ?_)
  refine z_aload_n dX0_slippery_0 rfl ?_
  refine y_getNR (host := "FarewellStones") dX0_slippery_1 cl6 (riv_sh hr1) (riv_pos hr1) (Nat.le_trans (riv_le hr1) hz) 14 rfl rfl (flN_B_125) (riv_g14 hG hr1) (law_pos (riv_is14 hr1)) ?_
  refine z_aload_n dX0_slippery_4 rfl ?_
  refine y_getR dX0_slippery_5 cl0 (bed_sh hr0) (bed_pos hr0) (Nat.le_trans (bed_le hr0) hz) 1 rfl rfl (fl_B_9) (bed_g1 hG hr0) (Nat.succ_pos _) ?_
  refine z_iload_n dX0_slippery_8 rfl ?_
  obtain ⟨hg1, h⟩ := guardE h
  refine z_nm (fun hN2 => ?_)
  refine y_iald dX0_slippery_9 (bed_sh1 hr0) (Nat.succ_pos _) (Nat.le_trans (bed_le1 hr0) hz) hx2 hg1 ?_
  refine z_aload_n dX0_slippery_10 rfl ?_
  refine y_getNR (host := "FarewellStones") dX0_slippery_11 cl6 (riv_sh hr1) (riv_pos hr1) (Nat.le_trans (riv_le hr1) hz) 3 rfl rfl (flN_B_100) (riv_g3 hG hr1) (Nat.succ_pos _) ?_
  refine z_iload_n dX0_slippery_14 rfl ?_
  refine y_iald dX0_slippery_15 (riv_sh3 hr1) (Nat.succ_pos _) (Nat.le_trans (riv_le3 hr1) hz) hx2 hg1 ?_
  refine z_iconst dX0_slippery_16 ?_
  refine z_aload_n dX0_slippery_17 rfl ?_
  refine z_iload_n dX0_slippery_18 rfl ?_
  obtain ⟨q3, hq4, h⟩ := bindE h
  refine z_callV (As := [vI x2]) (rest := [vI 0, vI (I (r1 + 1) (x2).toNat), vI (I (r0 + 1) (x2).toNat), vR g (r1 + 14)]) (s_B_mossAt hz hG hr0 hx2 hq4) dX0_slippery_19 mw_B_mossAt cl0 (bed_sh hr0) (bed_pos hr0) (Nat.le_trans (bed_le hr0) hz) ml_B_128 im_B_mossAt se_B_mossAt rfl rfl rfl rfl (Nat.le_refl _) (Nat.le_of_eq hb.symm) (fun hp5 => ?_)
  show Zt _ _ _ _ 22 _ [vI q3, vI 0, vI (I (r1 + 1) (x2).toNat), vI (I (r0 + 1) (x2).toNat), vR g (r1 + 14)] (z, I, J, G)
  refine z_iload_n dX0_slippery_22 rfl ?_
  refine z_bipush dX0_slippery_23 (by decide +kernel) ?_
  refine z_idiv dX0_slippery_25 (inRd (x := 12) (by decide)) (by decide) ?_
  refine z_iload_n dX0_slippery_26 rfl ?_
  refine z_bipush dX0_slippery_27 (by decide +kernel) ?_
  refine z_irem dX0_slippery_29 (inRd (x := 12) (by decide)) (by decide) ?_
  obtain ⟨q6, hq7, h⟩ := bindE h
  refine z_callV (As := [vI (I (r0 + 1) (x2).toNat), vI (I (r1 + 1) (x2).toNat), vI 0, vI q3, vI (div32 x2 12), vI (rem32 x2 12)]) (rest := []) (s_W_tells hz hG (riv_is14 hr1) (hN2.1 (r0 + 1) (x2).toNat) (hN2.1 (r1 + 1) (x2).toNat) (inRd (x := 0) (by decide)) hp5 inR_div inR_rem hq7) dX0_slippery_30 mw_W_tells cl3 (law_sh (riv_is14 hr1)) (law_pos (riv_is14 hr1)) (Nat.le_trans (law_le (riv_is14 hr1)) hz) ml_B_103 im_W_tells se_W_tells rfl rfl rfl rfl (Nat.le_refl _) (Nat.le_of_eq hb.symm) (fun hp8 => ?_)
  show Zt _ _ _ _ 33 _ [vI q6.1] (z, q6.2, J, G)
  refine z_istore_n (L' := [some (vR g r0), some (vR g r1), some (vI x2), some (vI q6.1)]) dX0_slippery_33 rfl rfl rfl ?_
  refine z_iconst dX0_slippery_34 ?_
  refine z_iload_n dX0_slippery_35 rfl ?_
  refine z_bipush dX0_slippery_36 (by decide +kernel) ?_
  refine z_min dX0_slippery_38 hp8 (inRd (x := 100) (by decide)) (tin3 223 (by decide +kernel) rfl) math_min_s math_i math_min_c rfl rfl (Nat.le_of_eq hb.symm) ?_
  refine z_max dX0_slippery_41 (inRd (x := 0) (by decide)) (inR_min hp8 (inRd (x := 100) (by decide))) (tin4 4 (by decide +kernel) rfl) math_max_s math_i math_max_c rfl rfl (Nat.le_of_eq hb.symm) ?_
  obtain rfl := someE h
  exact z_iret dX0_slippery_44 hE (inR_max (inRd (x := 0) (by decide)) (inR_min hp8 (inRd (x := 100) (by decide)))) rfl
set_option maxHeartbeats 1000000 in
theorem t_B_ownerAt_L17 {l : Launch} {g : GX} {φ : CX} {z : Nat} {G : Nat → Nat → Nat} {F : Nat} (hb : cb φ = z) (hz : 295 ≤ z) (hG : lyX G) {r0 : Nat} {x2 : Int} {x3 : Int} {x4 : Int} {I J : Nat → Nat → Int} (hr0 : isBed r0) (hx2 : inR x2) (hx3 : inR x3) (hx4 : inR x4) {res : (Int) ⊕ (Int × Int)} (h : f_B_ownerAt_L17 F r0 x2 x3 x4 I = some res) (kE : ∀ e : Int, res = .inl e → ((inR e) → Zt l g φ mu_B_ownerAt 40 [none, none, none, some (vI e), none] [] (z, I, J, G))) (kS : ∀ s : Int × Int, res = .inr s → (inR s.1 ∧ inR s.2) → Zt l g φ mu_B_ownerAt 17 [some (vR g r0), none, some (vI x2), some (vI s.1), some (vI s.2)] [] (z, I, J, G)) : Zt l g φ mu_B_ownerAt 17 [some (vR g r0), none, some (vI x2), some (vI x3), some (vI x4)] [] (z, I, J, G) := by
  refine z_iload dX0_ownerAt_17 rfl ?_
  refine z_iload_n dX0_ownerAt_19 rfl ?_
  refine z_icmp_le (tgt := 40) dX0_ownerAt_20 (by decide) hx4 hx2 (fun hc3 => ?_) (fun hc3 => ?_)
  · replace h := ifT hc3 h
    refine z_weak (L' := [none, none, none, some (vI x3), none]) (lsN (lsN (lsN (lsS (lsN ls0))))) ?_
    exact kE _ (someE h).symm hx3
  replace h := ifF hc3 h
  refine z_iload_n dX0_ownerAt_23 rfl ?_
  refine z_if_lt (tgt := 40) dX0_ownerAt_24 (by decide) hx3 (fun hc4 => ?_) (fun hc4 => ?_)
  · replace h := ifT hc4 h
    refine z_weak (L' := [none, none, none, some (vI x3), none]) (lsN (lsN (lsN (lsS (lsN ls0))))) ?_
    exact kE _ (someE h).symm hx3
  replace h := ifF hc4 h
  refine z_aload_n dX0_ownerAt_27 rfl ?_
  refine y_getR dX0_ownerAt_28 cl0 (bed_sh hr0) (bed_pos hr0) (Nat.le_trans (bed_le hr0) hz) 4 rfl rfl (fl_B_21) (bed_g4 hG hr0) (Nat.succ_pos _) ?_
  refine z_iload_n dX0_ownerAt_31 rfl ?_
  obtain ⟨hg5, h⟩ := guardE h
  refine z_nm (fun hN6 => ?_)
  refine y_iald dX0_ownerAt_32 (bed_sh4 hr0) (Nat.succ_pos _) (Nat.le_trans (bed_le4 hr0) hz) hx3 hg5 ?_
  refine z_istore_n (L' := [some (vR g r0), none, some (vI x2), some (vI (I (r0 + 4) (x3).toNat)), some (vI x4)]) dX0_ownerAt_33 rfl rfl rfl ?_
  refine z_iinc (L' := [some (vR g r0), none, some (vI x2), some (vI (I (r0 + 4) (x3).toNat)), some (vI (w32 (x4 + (-1))))]) dX0_ownerAt_34 rfl rfl rfl rfl ?_
  refine z_goto (tgt := 17) dX0_ownerAt_37 (by decide) ?_
  exact kS _ (someE h).symm ⟨(hN6.1 (r0 + 4) (x3).toNat), (inR_w32 _)⟩
theorem l_B_ownerAt_L17 {l : Launch} {g : GX} {φ : CX} {z : Nat} {G : Nat → Nat → Nat} {F : Nat} (hb : cb φ = z) (hz : 295 ≤ z) (hG : lyX G) {r0 : Nat} {x2 : Int} {I : Nat → Nat → Int} {J : Nat → Nat → Int} (hr0 : isBed r0) (hx2 : inR x2) (n : Nat) (s : Int × Int) (e : Int) (h : iter (fun s : Int × Int => f_B_ownerAt_L17 F r0 x2 s.1 s.2 I) n s = some e) (hs : inR s.1 ∧ inR s.2) (k : ((inR e) → Zt l g φ mu_B_ownerAt 40 [none, none, none, some (vI e), none] [] (z, I, J, G))) : Zt l g φ mu_B_ownerAt 17 [some (vR g r0), none, some (vI x2), some (vI s.1), some (vI s.2)] [] (z, I, J, G) := by
  refine iter_ind (Z := fun s : Int × Int => Zt l g φ mu_B_ownerAt 17 [some (vR g r0), none, some (vI x2), some (vI s.1), some (vI s.2)] [] (z, I, J, G)) (ZE := fun e : Int => ((inR e) → Zt l g φ mu_B_ownerAt 40 [none, none, none, some (vI e), none] [] (z, I, J, G))) (Rg := fun s : Int × Int => inR s.1 ∧ inR s.2) ?_ n s e h hs k
  intro s r hr hst kE kS
  exact t_B_ownerAt_L17 hb hz hG hr0 hx2 hr.1 hr.2 hst kE kS
set_option maxHeartbeats 1000000 in
theorem s_B_ownerAt {l : Launch} {g : GX} {z : Nat} {G : Nat → Nat → Nat} {F : Nat} (hz : 295 ≤ z) (hG : lyX G) {r0 : Nat} {x1 : Int} {x2 : Int} {I J : Nat → Nat → Int} (hr0 : isBed r0) (hx1 : inR x1) (hx2 : inR x2) {res : Int} (h : f_B_ownerAt F r0 x1 x2 I = some res) : Spec l g 0 yX0_ownerAt cX0_ownerAt 5 (some .int) [vR g r0, vI x1, vI x2] (z, I, J, G) (some (vI res)) (inR res) (z, I, J, G) := by
  refine spec_of (μ := mu_B_ownerAt) (k := 2) (L0 := [some (vR g r0), some (vI x1), some (vI x2), none, none]) rfl mw_B_ownerAt rfl rfl (Nat.le_refl _) (fun φ hb hE => ?_)
  refine z_aload_n dX0_ownerAt_0 rfl ?_
  refine y_getR dX0_ownerAt_1 cl0 (bed_sh hr0) (bed_pos hr0) (Nat.le_trans (bed_le hr0) hz) 2 rfl rfl (fl_B_15) (bed_g2 hG hr0) (Nat.succ_pos _) ?_
  refine z_iload_n dX0_ownerAt_4 rfl ?_
  obtain ⟨hg1, h⟩ := guardE h
  refine z_nm (fun hN2 => ?_)
  refine y_iald dX0_ownerAt_5 (bed_sh2 hr0) (Nat.succ_pos _) (Nat.le_trans (bed_le2 hr0) hz) hx1 hg1 ?_
  refine z_istore_n (L' := [some (vR g r0), some (vI x1), some (vI x2), some (vI (I (r0 + 2) (x1).toNat)), none]) dX0_ownerAt_6 rfl rfl rfl ?_
  refine z_aload_n dX0_ownerAt_7 rfl ?_
  refine y_getR dX0_ownerAt_8 cl0 (bed_sh hr0) (bed_pos hr0) (Nat.le_trans (bed_le hr0) hz) 1 rfl rfl (fl_B_9) (bed_g1 hG hr0) (Nat.succ_pos _) ?_
  refine z_iload_n dX0_ownerAt_11 rfl ?_
  refine y_iald dX0_ownerAt_12 (bed_sh1 hr0) (Nat.succ_pos _) (Nat.le_trans (bed_le1 hr0) hz) hx1 hg1 ?_
  refine z_iconst dX0_ownerAt_13 ?_
  refine z_isub dX0_ownerAt_14 ?_
  refine z_istore (L' := [some (vR g r0), some (vI x1), some (vI x2), some (vI (I (r0 + 2) (x1).toNat)), some (vI (w32 ((I (r0 + 1) (x1).toNat) - 1)))]) dX0_ownerAt_15 rfl rfl rfl ?_
  refine z_weak (L' := [some (vR g r0), none, some (vI x2), some (vI (I (r0 + 2) (x1).toNat)), some (vI (w32 ((I (r0 + 1) (x1).toNat) - 1)))]) (lsS (lsN (lsS (lsS (lsS ls0))))) ?_
  obtain ⟨e7, h8, h⟩ := bindE h
  refine l_B_ownerAt_L17 hb hz hG hr0 hx2 _ _ _ h8 ⟨(hN2.1 (r0 + 2) (x1).toNat), (inR_w32 _)⟩ ?_
  refine fun h9 => ?_
  refine z_iload_n dX0_ownerAt_40 rfl ?_
  refine z_if_ge (tgt := 48) dX0_ownerAt_41 (by decide) h9 (fun hc10 => ?_) (fun hc10 => ?_)
  · replace h := ifT hc10 h
    refine z_iload_n dX0_ownerAt_48 rfl ?_
    refine z_bipush dX0_ownerAt_49 (by decide +kernel) ?_
    refine z_idiv dX0_ownerAt_51 (inRd (x := 9) (by decide)) (by decide) ?_
    obtain rfl := someE h
    exact z_iret dX0_ownerAt_52 hE inR_div rfl
  replace h := ifF hc10 h
  refine z_iconst dX0_ownerAt_44 ?_
  refine z_goto (tgt := 52) dX0_ownerAt_45 (by decide) ?_
  obtain rfl := someE h
  exact z_iret dX0_ownerAt_52 hE (inRd (x := (-1)) (by decide)) rfl
set_option maxHeartbeats 1000000 in
theorem t_B_countOf_b41in13 {l : Launch} {g : GX} {φ : CX} {z : Nat} {G : Nat → Nat → Nat} {F : Nat} (hb : cb φ = z) (hz : 295 ≤ z) (hG : lyX G) {r0 : Nat} {x1 : Int} {x2 : Int} {x3 : Int} {x4 : Int} {x5 : Int} {I J : Nat → Nat → Int} (hr0 : isBed r0) (hx1 : inR x1) (hx2 : inR x2) (hx3 : inR x3) (hx4 : inR x4) (hx5 : inR x5) {res : (Int) ⊕ (Int × Int × Int)} (h : f_B_countOf_b41in13 F r0 x1 x2 x3 x4 x5 I = some res) (kE : ∀ e : Int, res = .inl e → ((inR e) → Zt l g φ mu_B_countOf 56 [none, none, none, some (vI e), none, none] [] (z, I, J, G))) (kS : ∀ s : Int × Int × Int, res = .inr s → (inR s.1 ∧ inR s.2.1 ∧ inR s.2.2) → Zt l g φ mu_B_countOf 13 [some (vR g r0), some (vI x1), some (vI x2), some (vI s.1), some (vI s.2.1), some (vI s.2.2)] [] (z, I, J, G)) : Zt l g φ mu_B_countOf 41 [some (vR g r0), some (vI x1), some (vI x2), some (vI x3), some (vI x4), some (vI x5)] [] (z, I, J, G) := by
  refine z_aload_n dX0_countOf_41 rfl ?_
  refine y_getR dX0_countOf_42 cl0 (bed_sh hr0) (bed_pos hr0) (Nat.le_trans (bed_le hr0) hz) 4 rfl rfl (fl_B_21) (bed_g4 hG hr0) (Nat.succ_pos _) ?_
  refine z_iload dX0_countOf_45 rfl ?_
  obtain ⟨hg8, h⟩ := guardE h
  refine z_nm (fun hN9 => ?_)
  refine y_iald dX0_countOf_47 (bed_sh4 hr0) (Nat.succ_pos _) (Nat.le_trans (bed_le4 hr0) hz) hx4 hg8 ?_
  refine z_istore (L' := [some (vR g r0), some (vI x1), some (vI x2), some (vI x3), some (vI (I (r0 + 4) (x4).toNat)), some (vI x5)]) dX0_countOf_48 rfl rfl rfl ?_
  refine z_iinc (L' := [some (vR g r0), some (vI x1), some (vI x2), some (vI x3), some (vI (I (r0 + 4) (x4).toNat)), some (vI (w32 (x5 + 1)))]) dX0_countOf_50 rfl rfl rfl rfl ?_
  refine z_goto (tgt := 13) dX0_countOf_53 (by decide) ?_
  exact kS _ (someE h).symm ⟨hx3, (hN9.1 (r0 + 4) (x4).toNat), (inR_w32 _)⟩
set_option maxHeartbeats 1000000 in
theorem t_B_countOf_L13 {l : Launch} {g : GX} {φ : CX} {z : Nat} {G : Nat → Nat → Nat} {F : Nat} (hb : cb φ = z) (hz : 295 ≤ z) (hG : lyX G) {r0 : Nat} {x1 : Int} {x2 : Int} {x3 : Int} {x4 : Int} {x5 : Int} {I J : Nat → Nat → Int} (hr0 : isBed r0) (hx1 : inR x1) (hx2 : inR x2) (hx3 : inR x3) (hx4 : inR x4) (hx5 : inR x5) {res : (Int) ⊕ (Int × Int × Int)} (h : f_B_countOf_L13 F r0 x1 x2 x3 x4 x5 I = some res) (kE : ∀ e : Int, res = .inl e → ((inR e) → Zt l g φ mu_B_countOf 56 [none, none, none, some (vI e), none, none] [] (z, I, J, G))) (kS : ∀ s : Int × Int × Int, res = .inr s → (inR s.1 ∧ inR s.2.1 ∧ inR s.2.2) → Zt l g φ mu_B_countOf 13 [some (vR g r0), some (vI x1), some (vI x2), some (vI s.1), some (vI s.2.1), some (vI s.2.2)] [] (z, I, J, G)) : Zt l g φ mu_B_countOf 13 [some (vR g r0), some (vI x1), some (vI x2), some (vI x3), some (vI x4), some (vI x5)] [] (z, I, J, G) := by
  refine z_iload dX0_countOf_13 rfl ?_
  refine z_aload_n dX0_countOf_15 rfl ?_
  refine y_getR dX0_countOf_16 cl0 (bed_sh hr0) (bed_pos hr0) (Nat.le_trans (bed_le hr0) hz) 1 rfl rfl (fl_B_9) (bed_g1 hG hr0) (Nat.succ_pos _) ?_
  refine z_iload_n dX0_countOf_19 rfl ?_
  obtain ⟨hg3, h⟩ := guardE h
  refine z_nm (fun hN4 => ?_)
  refine y_iald dX0_countOf_20 (bed_sh1 hr0) (Nat.succ_pos _) (Nat.le_trans (bed_le1 hr0) hz) hx2 hg3 ?_
  refine z_icmp_ge (tgt := 56) dX0_countOf_21 (by decide) hx5 (hN4.1 (r0 + 1) (x2).toNat) (fun hc5 => ?_) (fun hc5 => ?_)
  · replace h := ifT hc5 h
    refine z_weak (L' := [none, none, none, some (vI x3), none, none]) (lsN (lsN (lsN (lsS (lsN (lsN ls0)))))) ?_
    exact kE _ (someE h).symm hx3
  replace h := ifF hc5 h
  refine z_iload dX0_countOf_24 rfl ?_
  refine z_if_lt (tgt := 56) dX0_countOf_26 (by decide) hx4 (fun hc6 => ?_) (fun hc6 => ?_)
  · replace h := ifT hc6 h
    refine z_weak (L' := [none, none, none, some (vI x3), none, none]) (lsN (lsN (lsN (lsS (lsN (lsN ls0)))))) ?_
    exact kE _ (someE h).symm hx3
  replace h := ifF hc6 h
  refine z_iload dX0_countOf_29 rfl ?_
  refine z_bipush dX0_countOf_31 (by decide +kernel) ?_
  refine z_idiv dX0_countOf_33 (inRd (x := 9) (by decide)) (by decide) ?_
  refine z_iload_n dX0_countOf_34 rfl ?_
  refine z_icmp_ne (tgt := 41) dX0_countOf_35 (by decide) inR_div hx1 (fun hc7 => ?_) (fun hc7 => ?_)
  · replace h := ifT hc7 h
    exact t_B_countOf_b41in13 hb hz hG hr0 hx1 hx2 hx3 hx4 hx5 h kE kS
  replace h := ifF (fun q => q hc7) h
  refine z_iinc (L' := [some (vR g r0), some (vI x1), some (vI x2), some (vI (w32 (x3 + 1))), some (vI x4), some (vI x5)]) dX0_countOf_38 rfl rfl rfl rfl ?_
  exact t_B_countOf_b41in13 hb hz hG hr0 hx1 hx2 (inR_w32 _) hx4 hx5 h kE kS
theorem l_B_countOf_L13 {l : Launch} {g : GX} {φ : CX} {z : Nat} {G : Nat → Nat → Nat} {F : Nat} (hb : cb φ = z) (hz : 295 ≤ z) (hG : lyX G) {r0 : Nat} {x1 : Int} {x2 : Int} {I : Nat → Nat → Int} {J : Nat → Nat → Int} (hr0 : isBed r0) (hx1 : inR x1) (hx2 : inR x2) (n : Nat) (s : Int × Int × Int) (e : Int) (h : iter (fun s : Int × Int × Int => f_B_countOf_L13 F r0 x1 x2 s.1 s.2.1 s.2.2 I) n s = some e) (hs : inR s.1 ∧ inR s.2.1 ∧ inR s.2.2) (k : ((inR e) → Zt l g φ mu_B_countOf 56 [none, none, none, some (vI e), none, none] [] (z, I, J, G))) : Zt l g φ mu_B_countOf 13 [some (vR g r0), some (vI x1), some (vI x2), some (vI s.1), some (vI s.2.1), some (vI s.2.2)] [] (z, I, J, G) := by
  refine iter_ind (Z := fun s : Int × Int × Int => Zt l g φ mu_B_countOf 13 [some (vR g r0), some (vI x1), some (vI x2), some (vI s.1), some (vI s.2.1), some (vI s.2.2)] [] (z, I, J, G)) (ZE := fun e : Int => ((inR e) → Zt l g φ mu_B_countOf 56 [none, none, none, some (vI e), none, none] [] (z, I, J, G))) (Rg := fun s : Int × Int × Int => inR s.1 ∧ inR s.2.1 ∧ inR s.2.2) ?_ n s e h hs k
  intro s r hr hst kE kS
  exact t_B_countOf_L13 hb hz hG hr0 hx1 hx2 hr.1 hr.2.1 hr.2.2 hst kE kS
set_option maxHeartbeats 1000000 in
theorem s_B_countOf {l : Launch} {g : GX} {z : Nat} {G : Nat → Nat → Nat} {F : Nat} (hz : 295 ≤ z) (hG : lyX G) {r0 : Nat} {x1 : Int} {x2 : Int} {I J : Nat → Nat → Int} (hr0 : isBed r0) (hx1 : inR x1) (hx2 : inR x2) {res : Int} (h : f_B_countOf F r0 x1 x2 I = some res) : Spec l g 0 yX0_countOf cX0_countOf 6 (some .int) [vR g r0, vI x1, vI x2] (z, I, J, G) (some (vI res)) (inR res) (z, I, J, G) := by
  refine spec_of (μ := mu_B_countOf) (k := 3) (L0 := [some (vR g r0), some (vI x1), some (vI x2), none, none, none]) rfl mw_B_countOf rfl rfl (Nat.le_refl _) (fun φ hb hE => ?_)
  refine z_iconst dX0_countOf_0 ?_
  refine z_istore_n (L' := [some (vR g r0), some (vI x1), some (vI x2), some (vI 0), none, none]) dX0_countOf_1 rfl rfl rfl ?_
  refine z_aload_n dX0_countOf_2 rfl ?_
  refine y_getR dX0_countOf_3 cl0 (bed_sh hr0) (bed_pos hr0) (Nat.le_trans (bed_le hr0) hz) 2 rfl rfl (fl_B_15) (bed_g2 hG hr0) (Nat.succ_pos _) ?_
  refine z_iload_n dX0_countOf_6 rfl ?_
  obtain ⟨hg1, h⟩ := guardE h
  refine z_nm (fun hN2 => ?_)
  refine y_iald dX0_countOf_7 (bed_sh2 hr0) (Nat.succ_pos _) (Nat.le_trans (bed_le2 hr0) hz) hx2 hg1 ?_
  refine z_istore (L' := [some (vR g r0), some (vI x1), some (vI x2), some (vI 0), some (vI (I (r0 + 2) (x2).toNat)), none]) dX0_countOf_8 rfl rfl rfl ?_
  refine z_iconst dX0_countOf_10 ?_
  refine z_istore (L' := [some (vR g r0), some (vI x1), some (vI x2), some (vI 0), some (vI (I (r0 + 2) (x2).toNat)), some (vI 0)]) dX0_countOf_11 rfl rfl rfl ?_
  obtain ⟨e10, h11, h⟩ := bindE h
  refine l_B_countOf_L13 hb hz hG hr0 hx1 hx2 _ _ _ h11 ⟨(inRd (x := 0) (by decide)), (hN2.1 (r0 + 2) (x2).toNat), (inRd (x := 0) (by decide))⟩ ?_
  refine fun h12 => ?_
  refine z_iload_n dX0_countOf_56 rfl ?_
  obtain rfl := someE h
  exact z_iret dX0_countOf_57 hE h12 rfl
set_option maxHeartbeats 1000000 in
theorem t_B_countLying_L4 {l : Launch} {g : GX} {φ : CX} {z : Nat} {G : Nat → Nat → Nat} {F : Nat} (hb : cb φ = z) (hz : 295 ≤ z) (hG : lyX G) {r0 : Nat} {x1 : Int} {x2 : Int} {I J : Nat → Nat → Int} (hr0 : isBed r0) (hx1 : inR x1) (hx2 : inR x2) {res : (Int) ⊕ (Int × Int)} (h : f_B_countLying_L4 F r0 x1 x2 I = some res) (kE : ∀ e : Int, res = .inl e → ((inR e) → Zt l g φ mu_B_countLying 32 [none, some (vI e), none] [] (z, I, J, G))) (kS : ∀ s : Int × Int, res = .inr s → (inR s.1 ∧ inR s.2) → Zt l g φ mu_B_countLying 4 [some (vR g r0), some (vI s.1), some (vI s.2)] [] (z, I, J, G)) : Zt l g φ mu_B_countLying 4 [some (vR g r0), some (vI x1), some (vI x2)] [] (z, I, J, G) := by
  refine z_iload_n dX0_countLying_4 rfl ?_
  refine z_bipush dX0_countLying_5 (by decide +kernel) ?_
  refine z_icmp_ge (tgt := 32) dX0_countLying_7 (by decide) hx2 (inRd (x := 8) (by decide)) (fun hc1 => ?_) (fun hc1 => ?_)
  · replace h := ifT hc1 h
    refine z_weak (L' := [none, some (vI x1), none]) (lsN (lsS (lsN ls0))) ?_
    exact kE _ (someE h).symm hx1
  replace h := ifF hc1 h
  refine z_iload_n dX0_countLying_10 rfl ?_
  refine z_aload_n dX0_countLying_11 rfl ?_
  refine y_getR dX0_countLying_12 cl0 (bed_sh hr0) (bed_pos hr0) (Nat.le_trans (bed_le hr0) hz) 5 rfl rfl (fl_B_24) (bed_g5 hG hr0) (Nat.succ_pos _) ?_
  refine z_iload_n dX0_countLying_15 rfl ?_
  obtain ⟨hg2, h⟩ := guardE h
  refine z_nm (fun hN3 => ?_)
  refine y_iald dX0_countLying_16 (bed_sh5 hr0) (Nat.succ_pos _) (Nat.le_trans (bed_le5 hr0) hz) hx2 hg2 ?_
  refine z_aload_n dX0_countLying_17 rfl ?_
  refine y_getR dX0_countLying_18 cl0 (bed_sh hr0) (bed_pos hr0) (Nat.le_trans (bed_le hr0) hz) 6 rfl rfl (fl_B_27) (bed_g6 hG hr0) (Nat.succ_pos _) ?_
  refine z_iload_n dX0_countLying_21 rfl ?_
  refine y_iald dX0_countLying_22 (bed_sh6 hr0) (Nat.succ_pos _) (Nat.le_trans (bed_le6 hr0) hz) hx2 hg2 ?_
  refine z_isub dX0_countLying_23 ?_
  refine z_iadd dX0_countLying_24 ?_
  refine z_istore_n (L' := [some (vR g r0), some (vI (w32 (x1 + (w32 ((I (r0 + 5) (x2).toNat) - (I (r0 + 6) (x2).toNat)))))), some (vI x2)]) dX0_countLying_25 rfl rfl rfl ?_
  refine z_iinc (L' := [some (vR g r0), some (vI (w32 (x1 + (w32 ((I (r0 + 5) (x2).toNat) - (I (r0 + 6) (x2).toNat)))))), some (vI (w32 (x2 + 1)))]) dX0_countLying_26 rfl rfl rfl rfl ?_
  refine z_goto (tgt := 4) dX0_countLying_29 (by decide) ?_
  exact kS _ (someE h).symm ⟨(inR_w32 _), (inR_w32 _)⟩
theorem l_B_countLying_L4 {l : Launch} {g : GX} {φ : CX} {z : Nat} {G : Nat → Nat → Nat} {F : Nat} (hb : cb φ = z) (hz : 295 ≤ z) (hG : lyX G) {r0 : Nat} {I : Nat → Nat → Int} {J : Nat → Nat → Int} (hr0 : isBed r0) (n : Nat) (s : Int × Int) (e : Int) (h : iter (fun s : Int × Int => f_B_countLying_L4 F r0 s.1 s.2 I) n s = some e) (hs : inR s.1 ∧ inR s.2) (k : ((inR e) → Zt l g φ mu_B_countLying 32 [none, some (vI e), none] [] (z, I, J, G))) : Zt l g φ mu_B_countLying 4 [some (vR g r0), some (vI s.1), some (vI s.2)] [] (z, I, J, G) := by
  refine iter_ind (Z := fun s : Int × Int => Zt l g φ mu_B_countLying 4 [some (vR g r0), some (vI s.1), some (vI s.2)] [] (z, I, J, G)) (ZE := fun e : Int => ((inR e) → Zt l g φ mu_B_countLying 32 [none, some (vI e), none] [] (z, I, J, G))) (Rg := fun s : Int × Int => inR s.1 ∧ inR s.2) ?_ n s e h hs k
  intro s r hr hst kE kS
  exact t_B_countLying_L4 hb hz hG hr0 hr.1 hr.2 hst kE kS
set_option maxHeartbeats 1000000 in
theorem s_B_countLying {l : Launch} {g : GX} {z : Nat} {G : Nat → Nat → Nat} {F : Nat} (hz : 295 ≤ z) (hG : lyX G) {r0 : Nat} {I J : Nat → Nat → Int} (hr0 : isBed r0) {res : Int} (h : f_B_countLying F r0 I = some res) : Spec l g 0 yX0_countLying cX0_countLying 3 (some .int) [vR g r0] (z, I, J, G) (some (vI res)) (inR res) (z, I, J, G) := by
  refine spec_of (μ := mu_B_countLying) (k := 2) (L0 := [some (vR g r0), none, none]) rfl mw_B_countLying rfl rfl (Nat.le_refl _) (fun φ hb hE => ?_)
  refine z_iconst dX0_countLying_0 ?_
  refine z_istore_n (L' := [some (vR g r0), some (vI 0), none]) dX0_countLying_1 rfl rfl rfl ?_
  refine z_iconst dX0_countLying_2 ?_
  refine z_istore_n (L' := [some (vR g r0), some (vI 0), some (vI 0)]) dX0_countLying_3 rfl rfl rfl ?_
  obtain ⟨e4, h5, h⟩ := bindE h
  refine l_B_countLying_L4 hb hz hG hr0 _ _ _ h5 ⟨(inRd (x := 0) (by decide)), (inRd (x := 0) (by decide))⟩ ?_
  refine fun h6 => ?_
  refine z_iload_n dX0_countLying_32 rfl ?_
  obtain rfl := someE h
  exact z_iret dX0_countLying_33 hE h6 rfl
set_option maxHeartbeats 1000000 in
theorem t_B_countLost_L4 {l : Launch} {g : GX} {φ : CX} {z : Nat} {G : Nat → Nat → Nat} {F : Nat} (hb : cb φ = z) (hz : 295 ≤ z) (hG : lyX G) {r0 : Nat} {x1 : Int} {x2 : Int} {I J : Nat → Nat → Int} (hr0 : isBed r0) (hx1 : inR x1) (hx2 : inR x2) {res : (Int) ⊕ (Int × Int)} (h : f_B_countLost_L4 F r0 x1 x2 I = some res) (kE : ∀ e : Int, res = .inl e → ((inR e) → Zt l g φ mu_B_countLost 25 [none, some (vI e), none] [] (z, I, J, G))) (kS : ∀ s : Int × Int, res = .inr s → (inR s.1 ∧ inR s.2) → Zt l g φ mu_B_countLost 4 [some (vR g r0), some (vI s.1), some (vI s.2)] [] (z, I, J, G)) : Zt l g φ mu_B_countLost 4 [some (vR g r0), some (vI x1), some (vI x2)] [] (z, I, J, G) := by
  refine z_iload_n dX0_countLost_4 rfl ?_
  refine z_bipush dX0_countLost_5 (by decide +kernel) ?_
  refine z_icmp_ge (tgt := 25) dX0_countLost_7 (by decide) hx2 (inRd (x := 8) (by decide)) (fun hc1 => ?_) (fun hc1 => ?_)
  · replace h := ifT hc1 h
    refine z_weak (L' := [none, some (vI x1), none]) (lsN (lsS (lsN ls0))) ?_
    exact kE _ (someE h).symm hx1
  replace h := ifF hc1 h
  refine z_iload_n dX0_countLost_10 rfl ?_
  refine z_aload_n dX0_countLost_11 rfl ?_
  refine y_getR dX0_countLost_12 cl0 (bed_sh hr0) (bed_pos hr0) (Nat.le_trans (bed_le hr0) hz) 6 rfl rfl (fl_B_27) (bed_g6 hG hr0) (Nat.succ_pos _) ?_
  refine z_iload_n dX0_countLost_15 rfl ?_
  obtain ⟨hg2, h⟩ := guardE h
  refine z_nm (fun hN3 => ?_)
  refine y_iald dX0_countLost_16 (bed_sh6 hr0) (Nat.succ_pos _) (Nat.le_trans (bed_le6 hr0) hz) hx2 hg2 ?_
  refine z_iadd dX0_countLost_17 ?_
  refine z_istore_n (L' := [some (vR g r0), some (vI (w32 (x1 + (I (r0 + 6) (x2).toNat)))), some (vI x2)]) dX0_countLost_18 rfl rfl rfl ?_
  refine z_iinc (L' := [some (vR g r0), some (vI (w32 (x1 + (I (r0 + 6) (x2).toNat)))), some (vI (w32 (x2 + 1)))]) dX0_countLost_19 rfl rfl rfl rfl ?_
  refine z_goto (tgt := 4) dX0_countLost_22 (by decide) ?_
  exact kS _ (someE h).symm ⟨(inR_w32 _), (inR_w32 _)⟩
theorem l_B_countLost_L4 {l : Launch} {g : GX} {φ : CX} {z : Nat} {G : Nat → Nat → Nat} {F : Nat} (hb : cb φ = z) (hz : 295 ≤ z) (hG : lyX G) {r0 : Nat} {I : Nat → Nat → Int} {J : Nat → Nat → Int} (hr0 : isBed r0) (n : Nat) (s : Int × Int) (e : Int) (h : iter (fun s : Int × Int => f_B_countLost_L4 F r0 s.1 s.2 I) n s = some e) (hs : inR s.1 ∧ inR s.2) (k : ((inR e) → Zt l g φ mu_B_countLost 25 [none, some (vI e), none] [] (z, I, J, G))) : Zt l g φ mu_B_countLost 4 [some (vR g r0), some (vI s.1), some (vI s.2)] [] (z, I, J, G) := by
  refine iter_ind (Z := fun s : Int × Int => Zt l g φ mu_B_countLost 4 [some (vR g r0), some (vI s.1), some (vI s.2)] [] (z, I, J, G)) (ZE := fun e : Int => ((inR e) → Zt l g φ mu_B_countLost 25 [none, some (vI e), none] [] (z, I, J, G))) (Rg := fun s : Int × Int => inR s.1 ∧ inR s.2) ?_ n s e h hs k
  intro s r hr hst kE kS
  exact t_B_countLost_L4 hb hz hG hr0 hr.1 hr.2 hst kE kS
set_option maxHeartbeats 1000000 in
theorem s_B_countLost {l : Launch} {g : GX} {z : Nat} {G : Nat → Nat → Nat} {F : Nat} (hz : 295 ≤ z) (hG : lyX G) {r0 : Nat} {I J : Nat → Nat → Int} (hr0 : isBed r0) {res : Int} (h : f_B_countLost F r0 I = some res) : Spec l g 0 yX0_countLost cX0_countLost 3 (some .int) [vR g r0] (z, I, J, G) (some (vI res)) (inR res) (z, I, J, G) := by
  refine spec_of (μ := mu_B_countLost) (k := 2) (L0 := [some (vR g r0), none, none]) rfl mw_B_countLost rfl rfl (Nat.le_refl _) (fun φ hb hE => ?_)
  refine z_iconst dX0_countLost_0 ?_
  refine z_istore_n (L' := [some (vR g r0), some (vI 0), none]) dX0_countLost_1 rfl rfl rfl ?_
  refine z_iconst dX0_countLost_2 ?_
  refine z_istore_n (L' := [some (vR g r0), some (vI 0), some (vI 0)]) dX0_countLost_3 rfl rfl rfl ?_
  obtain ⟨e4, h5, h⟩ := bindE h
  refine l_B_countLost_L4 hb hz hG hr0 _ _ _ h5 ⟨(inRd (x := 0) (by decide)), (inRd (x := 0) (by decide))⟩ ?_
  refine fun h6 => ?_
  refine z_iload_n dX0_countLost_25 rfl ?_
  obtain rfl := someE h
  exact z_iret dX0_countLost_26 hE h6 rfl
set_option maxHeartbeats 1000000 in
theorem t_B_countSteps_L4 {l : Launch} {g : GX} {φ : CX} {z : Nat} {G : Nat → Nat → Nat} {F : Nat} (hb : cb φ = z) (hz : 295 ≤ z) (hG : lyX G) {r0 : Nat} {r1 : Nat} {x2 : Int} {x3 : Int} {I J : Nat → Nat → Int} (hr0 : isBed r0) (hr1 : isRiv r1) (hx2 : inR x2) (hx3 : inR x3) {res : (Int) ⊕ (Int × Int)} (h : f_B_countSteps_L4 F r0 r1 x2 x3 I = some res) (kE : ∀ e : Int, res = .inl e → ((inR e) → Zt l g φ mu_B_countSteps 43 [none, none, some (vI e), none] [] (z, I, J, G))) (kS : ∀ s : Int × Int, res = .inr s → (inR s.1 ∧ inR s.2) → Zt l g φ mu_B_countSteps 4 [some (vR g r0), some (vR g r1), some (vI s.1), some (vI s.2)] [] (z, I, J, G)) : Zt l g φ mu_B_countSteps 4 [some (vR g r0), some (vR g r1), some (vI x2), some (vI x3)] [] (z, I, J, G) := by
  refine z_iload_n dX0_countSteps_4 rfl ?_
  refine z_bipush dX0_countSteps_5 (by decide +kernel) ?_
  refine z_icmp_ge (tgt := 43) dX0_countSteps_7 (by decide) hx3 (inRd (x := 96) (by decide)) (fun hc1 => ?_) (fun hc1 => ?_)
  · replace h := ifT hc1 h
    refine z_weak (L' := [none, none, some (vI x2), none]) (lsN (lsN (lsS (lsN ls0)))) ?_
    exact kE _ (someE h).symm hx2
  replace h := ifF hc1 h
  refine z_aload_n dX0_countSteps_10 rfl ?_
  refine z_iload_n dX0_countSteps_11 rfl ?_
  refine z_bipush dX0_countSteps_12 (by decide +kernel) ?_
  refine z_irem dX0_countSteps_14 (inRd (x := 12) (by decide)) (by decide) ?_
  refine z_iload_n dX0_countSteps_15 rfl ?_
  refine z_bipush dX0_countSteps_16 (by decide +kernel) ?_
  refine z_idiv dX0_countSteps_18 (inRd (x := 12) (by decide)) (by decide) ?_
  obtain ⟨q2, hq3, h⟩ := bindE h
  refine z_callV (As := [vI (rem32 x3 12), vI (div32 x3 12)]) (rest := []) (s_R_has hz hG hr1 inR_rem inR_div hq3) dX0_countSteps_19 mw_R_has cl6 (riv_sh hr1) (riv_pos hr1) (Nat.le_trans (riv_le hr1) hz) ml_B_62 im_R_has se_R_has rfl rfl rfl rfl (Nat.le_refl _) (Nat.le_of_eq hb.symm) (fun hp4 => ?_)
  show Zt _ _ _ _ 22 _ [vI q2] (z, I, J, G)
  refine z_if_eq (tgt := 37) dX0_countSteps_22 (by decide) (inR_bool hp4) (fun hc5 => ?_) (fun hc5 => ?_)
  · replace h := ifT hc5 h
    refine z_iinc (L' := [some (vR g r0), some (vR g r1), some (vI x2), some (vI (w32 (x3 + 1)))]) dX0_countSteps_37 rfl rfl rfl rfl ?_
    refine z_goto (tgt := 4) dX0_countSteps_40 (by decide) ?_
    exact kS _ (someE h).symm ⟨hx2, (inR_w32 _)⟩
  replace h := ifF hc5 h
  refine z_aload_n dX0_countSteps_25 rfl ?_
  refine z_aload_n dX0_countSteps_26 rfl ?_
  refine z_iload_n dX0_countSteps_27 rfl ?_
  obtain ⟨q6, hq7, h⟩ := bindE h
  refine z_callV (As := [vR g r1, vI x3]) (rest := []) (s_B_isStep hz hG hr0 hr1 hx3 hq7) dX0_countSteps_28 mw_B_isStep cl0 (bed_sh hr0) (bed_pos hr0) (Nat.le_trans (bed_le hr0) hz) ml_B_132 im_B_isStep se_B_isStep rfl rfl rfl rfl (Nat.le_refl _) (Nat.le_of_eq hb.symm) (fun hp8 => ?_)
  show Zt _ _ _ _ 31 _ [vI q6] (z, I, J, G)
  refine z_if_eq (tgt := 37) dX0_countSteps_31 (by decide) (inR_bool hp8) (fun hc9 => ?_) (fun hc9 => ?_)
  · replace h := ifT hc9 h
    refine z_iinc (L' := [some (vR g r0), some (vR g r1), some (vI x2), some (vI (w32 (x3 + 1)))]) dX0_countSteps_37 rfl rfl rfl rfl ?_
    refine z_goto (tgt := 4) dX0_countSteps_40 (by decide) ?_
    exact kS _ (someE h).symm ⟨hx2, (inR_w32 _)⟩
  replace h := ifF hc9 h
  refine z_iinc (L' := [some (vR g r0), some (vR g r1), some (vI (w32 (x2 + 1))), some (vI x3)]) dX0_countSteps_34 rfl rfl rfl rfl ?_
  refine z_iinc (L' := [some (vR g r0), some (vR g r1), some (vI (w32 (x2 + 1))), some (vI (w32 (x3 + 1)))]) dX0_countSteps_37 rfl rfl rfl rfl ?_
  refine z_goto (tgt := 4) dX0_countSteps_40 (by decide) ?_
  exact kS _ (someE h).symm ⟨(inR_w32 _), (inR_w32 _)⟩
theorem l_B_countSteps_L4 {l : Launch} {g : GX} {φ : CX} {z : Nat} {G : Nat → Nat → Nat} {F : Nat} (hb : cb φ = z) (hz : 295 ≤ z) (hG : lyX G) {r0 : Nat} {r1 : Nat} {I : Nat → Nat → Int} {J : Nat → Nat → Int} (hr0 : isBed r0) (hr1 : isRiv r1) (n : Nat) (s : Int × Int) (e : Int) (h : iter (fun s : Int × Int => f_B_countSteps_L4 F r0 r1 s.1 s.2 I) n s = some e) (hs : inR s.1 ∧ inR s.2) (k : ((inR e) → Zt l g φ mu_B_countSteps 43 [none, none, some (vI e), none] [] (z, I, J, G))) : Zt l g φ mu_B_countSteps 4 [some (vR g r0), some (vR g r1), some (vI s.1), some (vI s.2)] [] (z, I, J, G) := by
  refine iter_ind (Z := fun s : Int × Int => Zt l g φ mu_B_countSteps 4 [some (vR g r0), some (vR g r1), some (vI s.1), some (vI s.2)] [] (z, I, J, G)) (ZE := fun e : Int => ((inR e) → Zt l g φ mu_B_countSteps 43 [none, none, some (vI e), none] [] (z, I, J, G))) (Rg := fun s : Int × Int => inR s.1 ∧ inR s.2) ?_ n s e h hs k
  intro s r hr hst kE kS
  exact t_B_countSteps_L4 hb hz hG hr0 hr1 hr.1 hr.2 hst kE kS
set_option maxHeartbeats 1000000 in
theorem s_B_countSteps {l : Launch} {g : GX} {z : Nat} {G : Nat → Nat → Nat} {F : Nat} (hz : 295 ≤ z) (hG : lyX G) {r0 : Nat} {r1 : Nat} {I J : Nat → Nat → Int} (hr0 : isBed r0) (hr1 : isRiv r1) {res : Int} (h : f_B_countSteps F r0 r1 I = some res) : Spec l g 1 yX0_countSteps cX0_countSteps 4 (some .int) [vR g r0, vR g r1] (z, I, J, G) (some (vI res)) (inR res) (z, I, J, G) := by
  refine spec_of (μ := mu_B_countSteps) (k := 2) (L0 := [some (vR g r0), some (vR g r1), none, none]) rfl mw_B_countSteps rfl rfl (Nat.le_refl _) (fun φ hb hE => ?_)
  refine z_iconst dX0_countSteps_0 ?_
  refine z_istore_n (L' := [some (vR g r0), some (vR g r1), some (vI 0), none]) dX0_countSteps_1 rfl rfl rfl ?_
  refine z_iconst dX0_countSteps_2 ?_
  refine z_istore_n (L' := [some (vR g r0), some (vR g r1), some (vI 0), some (vI 0)]) dX0_countSteps_3 rfl rfl rfl ?_
  obtain ⟨e10, h11, h⟩ := bindE h
  refine l_B_countSteps_L4 hb hz hG hr0 hr1 _ _ _ h11 ⟨(inRd (x := 0) (by decide)), (inRd (x := 0) (by decide))⟩ ?_
  refine fun h12 => ?_
  refine z_iload_n dX0_countSteps_43 rfl ?_
  obtain rfl := someE h
  exact z_iret dX0_countSteps_44 hE h12 rfl
set_option maxHeartbeats 1000000 in
theorem t_B_weighSlippery_b56in2 {l : Launch} {g : GX} {φ : CX} {z : Nat} {G : Nat → Nat → Nat} {F : Nat} (hb : cb φ = z) (hz : 295 ≤ z) (hG : lyX G) {r0 : Nat} {r1 : Nat} {x3 : Int} {s1 : Int} {s2 : Int} {I J : Nat → Nat → Int} (hr0 : isBed r0) (hr1 : isRiv r1) (hx3 : inR x3) (hs1 : inR s1) (hs2 : inR s2) {res : (MI) ⊕ (Int × MI)} (h : f_B_weighSlippery_b56in2 F r0 r1 x3 s1 s2 I = some res) (kE : ∀ e : MI, res = .inl e → ((True) → Zt l g φ mu_B_weighSlippery 63 [none, none, none, none, none] [] (z, e, J, G))) (kS : ∀ s : Int × MI, res = .inr s → (inR s.1) → Zt l g φ mu_B_weighSlippery 2 [some (vR g r0), some (vR g r1), some (vR g 245), some (vI s.1), none] [] (z, s.2, J, G)) : Zt l g φ mu_B_weighSlippery 56 [some (vR g r0), some (vR g r1), some (vR g 245), some (vI x3), none] [vI s2, vI s1, vR g 245] (z, I, J, G) := by
  obtain ⟨hg7, h⟩ := guardE h
  refine y_iast dX0_weighSlippery_56 sh_245 (by decide) (Nat.le_trans (by decide) hz) hs1 hg7 hs2 ?_
  refine z_iinc (L' := [some (vR g r0), some (vR g r1), some (vR g 245), some (vI (w32 (x3 + 1))), none]) dX0_weighSlippery_57 rfl rfl rfl rfl ?_
  refine z_goto (tgt := 2) dX0_weighSlippery_60 (by decide) ?_
  exact kS _ (someE h).symm (inR_w32 _)
set_option maxHeartbeats 1000000 in
theorem t_B_weighSlippery_b37in2 {l : Launch} {g : GX} {φ : CX} {z : Nat} {G : Nat → Nat → Nat} {F : Nat} (hb : cb φ = z) (hz : 295 ≤ z) (hG : lyX G) {r0 : Nat} {r1 : Nat} {x3 : Int} {s0 : Int} {I J : Nat → Nat → Int} (hr0 : isBed r0) (hr1 : isRiv r1) (hx3 : inR x3) (hs0 : inR s0) (hb0 : s0 = 0 ∨ s0 = 1) {res : (MI) ⊕ (Int × MI)} (h : f_B_weighSlippery_b37in2 F r0 r1 x3 s0 I = some res) (kE : ∀ e : MI, res = .inl e → ((True) → Zt l g φ mu_B_weighSlippery 63 [none, none, none, none, none] [] (z, e, J, G))) (kS : ∀ s : Int × MI, res = .inr s → (inR s.1) → Zt l g φ mu_B_weighSlippery 2 [some (vR g r0), some (vR g r1), some (vR g 245), some (vI s.1), none] [] (z, s.2, J, G)) : Zt l g φ mu_B_weighSlippery 37 [some (vR g r0), some (vR g r1), some (vR g 245), some (vI x3), none] [vI s0] (z, I, J, G) := by
  refine z_istore (L' := [some (vR g r0), some (vR g r1), some (vR g 245), some (vI x3), some (vI s0)]) dX0_weighSlippery_37 rfl rfl rfl ?_
  refine z_aload_n dX0_weighSlippery_39 rfl ?_
  refine z_iload_n dX0_weighSlippery_40 rfl ?_
  refine z_iload dX0_weighSlippery_41 rfl ?_
  refine z_if_eq (tgt := 55) dX0_weighSlippery_43 (by decide) hs0 (fun hc6 => ?_) (fun hc6 => ?_)
  · replace h := ifT hc6 h
    refine z_iconst dX0_weighSlippery_55 ?_
    refine z_weak (L' := [some (vR g r0), some (vR g r1), some (vR g 245), some (vI x3), none]) (lsS (lsS (lsS (lsS (lsN ls0))))) ?_
    exact t_B_weighSlippery_b56in2 hb hz hG hr0 hr1 hx3 hx3 (inRd (x := (-1)) (by decide)) h kE kS
  replace h := ifF hc6 h
  refine z_aload_n dX0_weighSlippery_46 rfl ?_
  refine z_aload_n dX0_weighSlippery_47 rfl ?_
  refine z_iload_n dX0_weighSlippery_48 rfl ?_
  obtain ⟨q8, hq9, h⟩ := bindE h
  refine z_callV (As := [vR g r1, vI x3]) (rest := [vI x3, vR g 245]) (s_B_slippery hz hG hr0 hr1 hx3 hq9) dX0_weighSlippery_49 mw_B_slippery cl0 (bed_sh hr0) (bed_pos hr0) (Nat.le_trans (bed_le hr0) hz) ml_B_136 im_B_slippery se_B_slippery rfl rfl rfl rfl (Nat.le_refl _) (Nat.le_of_eq hb.symm) (fun hp10 => ?_)
  show Zt _ _ _ _ 52 _ [vI q8.1, vI x3, vR g 245] (z, q8.2, J, G)
  refine z_goto (tgt := 56) dX0_weighSlippery_52 (by decide) ?_
  refine z_weak (L' := [some (vR g r0), some (vR g r1), some (vR g 245), some (vI x3), none]) (lsS (lsS (lsS (lsS (lsN ls0))))) ?_
  exact t_B_weighSlippery_b56in2 hb hz hG hr0 hr1 hx3 hx3 hp10 h kE kS
set_option maxHeartbeats 1000000 in
theorem t_B_weighSlippery_b36in2 {l : Launch} {g : GX} {φ : CX} {z : Nat} {G : Nat → Nat → Nat} {F : Nat} (hb : cb φ = z) (hz : 295 ≤ z) (hG : lyX G) {r0 : Nat} {r1 : Nat} {x3 : Int} {I J : Nat → Nat → Int} (hr0 : isBed r0) (hr1 : isRiv r1) (hx3 : inR x3) {res : (MI) ⊕ (Int × MI)} (h : f_B_weighSlippery_b36in2 F r0 r1 x3 I = some res) (kE : ∀ e : MI, res = .inl e → ((True) → Zt l g φ mu_B_weighSlippery 63 [none, none, none, none, none] [] (z, e, J, G))) (kS : ∀ s : Int × MI, res = .inr s → (inR s.1) → Zt l g φ mu_B_weighSlippery 2 [some (vR g r0), some (vR g r1), some (vR g 245), some (vI s.1), none] [] (z, s.2, J, G)) : Zt l g φ mu_B_weighSlippery 36 [some (vR g r0), some (vR g r1), some (vR g 245), some (vI x3), none] [] (z, I, J, G) := by
  refine z_iconst dX0_weighSlippery_36 ?_
  exact t_B_weighSlippery_b37in2 hb hz hG hr0 hr1 hx3 (inRd (x := 0) (by decide)) b01_0 h kE kS
set_option maxHeartbeats 1000000 in
theorem t_B_weighSlippery_L2 {l : Launch} {g : GX} {φ : CX} {z : Nat} {G : Nat → Nat → Nat} {F : Nat} (hb : cb φ = z) (hz : 295 ≤ z) (hG : lyX G) {r0 : Nat} {r1 : Nat} {x3 : Int} {I J : Nat → Nat → Int} (hr0 : isBed r0) (hr1 : isRiv r1) (hx3 : inR x3) {res : (MI) ⊕ (Int × MI)} (h : f_B_weighSlippery_L2 F r0 r1 x3 I = some res) (kE : ∀ e : MI, res = .inl e → ((True) → Zt l g φ mu_B_weighSlippery 63 [none, none, none, none, none] [] (z, e, J, G))) (kS : ∀ s : Int × MI, res = .inr s → (inR s.1) → Zt l g φ mu_B_weighSlippery 2 [some (vR g r0), some (vR g r1), some (vR g 245), some (vI s.1), none] [] (z, s.2, J, G)) : Zt l g φ mu_B_weighSlippery 2 [some (vR g r0), some (vR g r1), some (vR g 245), some (vI x3), none] [] (z, I, J, G) := by
  refine z_iload_n dX0_weighSlippery_2 rfl ?_
  refine z_bipush dX0_weighSlippery_3 (by decide +kernel) ?_
  refine z_icmp_ge (tgt := 63) dX0_weighSlippery_5 (by decide) hx3 (inRd (x := 96) (by decide)) (fun hc1 => ?_) (fun hc1 => ?_)
  · replace h := ifT hc1 h
    refine z_weak (L' := [none, none, none, none, none]) (lsN (lsN (lsN (lsN (lsN ls0))))) ?_
    exact kE _ (someE h).symm trivial
  replace h := ifF hc1 h
  refine z_aload_n dX0_weighSlippery_8 rfl ?_
  refine z_iload_n dX0_weighSlippery_9 rfl ?_
  refine z_bipush dX0_weighSlippery_10 (by decide +kernel) ?_
  refine z_irem dX0_weighSlippery_12 (inRd (x := 12) (by decide)) (by decide) ?_
  refine z_iload_n dX0_weighSlippery_13 rfl ?_
  refine z_bipush dX0_weighSlippery_14 (by decide +kernel) ?_
  refine z_idiv dX0_weighSlippery_16 (inRd (x := 12) (by decide)) (by decide) ?_
  obtain ⟨q2, hq3, h⟩ := bindE h
  refine z_callV (As := [vI (rem32 x3 12), vI (div32 x3 12)]) (rest := []) (s_R_has hz hG hr1 inR_rem inR_div hq3) dX0_weighSlippery_17 mw_R_has cl6 (riv_sh hr1) (riv_pos hr1) (Nat.le_trans (riv_le hr1) hz) ml_B_62 im_R_has se_R_has rfl rfl rfl rfl (Nat.le_refl _) (Nat.le_of_eq hb.symm) (fun hp4 => ?_)
  show Zt _ _ _ _ 20 _ [vI q2] (z, I, J, G)
  refine z_if_eq (tgt := 36) dX0_weighSlippery_20 (by decide) (inR_bool hp4) (fun hc5 => ?_) (fun hc5 => ?_)
  · replace h := ifT hc5 h
    exact t_B_weighSlippery_b36in2 hb hz hG hr0 hr1 hx3 h kE kS
  replace h := ifF hc5 h
  refine z_aload_n dX0_weighSlippery_23 rfl ?_
  refine z_aload_n dX0_weighSlippery_24 rfl ?_
  refine z_iload_n dX0_weighSlippery_25 rfl ?_
  obtain ⟨q11, hq12, h⟩ := bindE h
  refine z_callV (As := [vR g r1, vI x3]) (rest := []) (s_B_isStep hz hG hr0 hr1 hx3 hq12) dX0_weighSlippery_26 mw_B_isStep cl0 (bed_sh hr0) (bed_pos hr0) (Nat.le_trans (bed_le hr0) hz) ml_B_132 im_B_isStep se_B_isStep rfl rfl rfl rfl (Nat.le_refl _) (Nat.le_of_eq hb.symm) (fun hp13 => ?_)
  show Zt _ _ _ _ 29 _ [vI q11] (z, I, J, G)
  refine z_if_eq (tgt := 36) dX0_weighSlippery_29 (by decide) (inR_bool hp13) (fun hc14 => ?_) (fun hc14 => ?_)
  · replace h := ifT hc14 h
    exact t_B_weighSlippery_b36in2 hb hz hG hr0 hr1 hx3 h kE kS
  replace h := ifF hc14 h
  refine z_iconst dX0_weighSlippery_32 ?_
  refine z_goto (tgt := 37) dX0_weighSlippery_33 (by decide) ?_
  exact t_B_weighSlippery_b37in2 hb hz hG hr0 hr1 hx3 (inRd (x := 1) (by decide)) b01_1 h kE kS
theorem l_B_weighSlippery_L2 {l : Launch} {g : GX} {φ : CX} {z : Nat} {G : Nat → Nat → Nat} {F : Nat} (hb : cb φ = z) (hz : 295 ≤ z) (hG : lyX G) {r0 : Nat} {r1 : Nat} {J : Nat → Nat → Int} (hr0 : isBed r0) (hr1 : isRiv r1) (n : Nat) (s : Int × MI) (e : MI) (h : iter (fun s : Int × MI => f_B_weighSlippery_L2 F r0 r1 s.1 s.2) n s = some e) (hs : inR s.1) (k : ((True) → Zt l g φ mu_B_weighSlippery 63 [none, none, none, none, none] [] (z, e, J, G))) : Zt l g φ mu_B_weighSlippery 2 [some (vR g r0), some (vR g r1), some (vR g 245), some (vI s.1), none] [] (z, s.2, J, G) := by
  refine iter_ind (Z := fun s : Int × MI => Zt l g φ mu_B_weighSlippery 2 [some (vR g r0), some (vR g r1), some (vR g 245), some (vI s.1), none] [] (z, s.2, J, G)) (ZE := fun e : MI => ((True) → Zt l g φ mu_B_weighSlippery 63 [none, none, none, none, none] [] (z, e, J, G))) (Rg := fun s : Int × MI => inR s.1) ?_ n s e h hs k
  intro s r hr hst kE kS
  exact t_B_weighSlippery_L2 hb hz hG hr0 hr1 hr hst kE kS
set_option maxHeartbeats 1000000 in
theorem s_B_weighSlippery {l : Launch} {g : GX} {z : Nat} {G : Nat → Nat → Nat} {F : Nat} (hz : 295 ≤ z) (hG : lyX G) {r0 : Nat} {r1 : Nat} {I J : Nat → Nat → Int} (hr0 : isBed r0) (hr1 : isRiv r1) {res : MI} (h : f_B_weighSlippery F r0 r1 I = some res) : Spec l g 17 yX0_weighSlippery cX0_weighSlippery 5 none [vR g r0, vR g r1, vR g 245] (z, I, J, G) none True (z, res, J, G) := by
  refine spec_of (μ := mu_B_weighSlippery) (k := 2) (L0 := [some (vR g r0), some (vR g r1), some (vR g 245), none, none]) rfl mw_B_weighSlippery rfl rfl (Nat.le_refl _) (fun φ hb hE => ?_)
  refine z_iconst dX0_weighSlippery_0 ?_
  refine z_istore_n (L' := [some (vR g r0), some (vR g r1), some (vR g 245), some (vI 0), none]) dX0_weighSlippery_1 rfl rfl rfl ?_
  obtain ⟨e15, h16, h⟩ := bindE h
  refine l_B_weighSlippery_L2 hb hz hG hr0 hr1 _ _ _ h16 (inRd (x := 0) (by decide)) ?_
  refine fun h17 => ?_
  obtain rfl := someE h
  exact z_vret dX0_weighSlippery_63 hE trivial rfl
set_option maxHeartbeats 1000000 in
theorem t_B_weighLack_b50in2 {l : Launch} {g : GX} {φ : CX} {z : Nat} {G : Nat → Nat → Nat} {F : Nat} (hb : cb φ = z) (hz : 295 ≤ z) (hG : lyX G) {r0 : Nat} {r1 : Nat} {x3 : Int} {s1 : Int} {s2 : Int} {I J : Nat → Nat → Int} (hr0 : isBed r0) (hr1 : isRiv r1) (hx3 : inR x3) (hs1 : inR s1) (hs2 : inR s2) {res : (MI) ⊕ (Int × MI)} (h : f_B_weighLack_b50in2 F r0 r1 x3 s1 s2 I = some res) (kE : ∀ e : MI, res = .inl e → ((True) → Zt l g φ mu_B_weighLack 57 [none, none, none, none, none] [] (z, e, J, G))) (kS : ∀ s : Int × MI, res = .inr s → (inR s.1) → Zt l g φ mu_B_weighLack 2 [some (vR g r0), some (vR g r1), some (vR g 245), some (vI s.1), none] [] (z, s.2, J, G)) : Zt l g φ mu_B_weighLack 50 [some (vR g r0), some (vR g r1), some (vR g 245), some (vI x3), none] [vI s2, vI s1, vR g 245] (z, I, J, G) := by
  obtain ⟨hg6, h⟩ := guardE h
  refine y_iast dX0_weighLack_50 sh_245 (by decide) (Nat.le_trans (by decide) hz) hs1 hg6 hs2 ?_
  refine z_iinc (L' := [some (vR g r0), some (vR g r1), some (vR g 245), some (vI (w32 (x3 + 1))), none]) dX0_weighLack_51 rfl rfl rfl rfl ?_
  refine z_goto (tgt := 2) dX0_weighLack_54 (by decide) ?_
  exact kS _ (someE h).symm (inR_w32 _)
set_option maxHeartbeats 1000000 in
theorem t_B_weighLack_L2 {l : Launch} {g : GX} {φ : CX} {z : Nat} {G : Nat → Nat → Nat} {F : Nat} (hb : cb φ = z) (hz : 295 ≤ z) (hG : lyX G) {r0 : Nat} {r1 : Nat} {x3 : Int} {I J : Nat → Nat → Int} (hr0 : isBed r0) (hr1 : isRiv r1) (hx3 : inR x3) {res : (MI) ⊕ (Int × MI)} (h : f_B_weighLack_L2 F r0 r1 x3 I = some res) (kE : ∀ e : MI, res = .inl e → ((True) → Zt l g φ mu_B_weighLack 57 [none, none, none, none, none] [] (z, e, J, G))) (kS : ∀ s : Int × MI, res = .inr s → (inR s.1) → Zt l g φ mu_B_weighLack 2 [some (vR g r0), some (vR g r1), some (vR g 245), some (vI s.1), none] [] (z, s.2, J, G)) : Zt l g φ mu_B_weighLack 2 [some (vR g r0), some (vR g r1), some (vR g 245), some (vI x3), none] [] (z, I, J, G) := by
  refine z_iload_n dX0_weighLack_2 rfl ?_
  refine z_bipush dX0_weighLack_3 (by decide +kernel) ?_
  refine z_icmp_ge (tgt := 57) dX0_weighLack_5 (by decide) hx3 (inRd (x := 96) (by decide)) (fun hc1 => ?_) (fun hc1 => ?_)
  · replace h := ifT hc1 h
    refine z_weak (L' := [none, none, none, none, none]) (lsN (lsN (lsN (lsN (lsN ls0))))) ?_
    exact kE _ (someE h).symm trivial
  replace h := ifF hc1 h
  refine z_aload_n dX0_weighLack_8 rfl ?_
  refine z_iload_n dX0_weighLack_9 rfl ?_
  refine z_bipush dX0_weighLack_10 (by decide +kernel) ?_
  refine z_irem dX0_weighLack_12 (inRd (x := 12) (by decide)) (by decide) ?_
  refine z_iload_n dX0_weighLack_13 rfl ?_
  refine z_bipush dX0_weighLack_14 (by decide +kernel) ?_
  refine z_idiv dX0_weighLack_16 (inRd (x := 12) (by decide)) (by decide) ?_
  obtain ⟨q2, hq3, h⟩ := bindE h
  refine z_callV (As := [vI (rem32 x3 12), vI (div32 x3 12)]) (rest := []) (s_R_has hz hG hr1 inR_rem inR_div hq3) dX0_weighLack_17 mw_R_has cl6 (riv_sh hr1) (riv_pos hr1) (Nat.le_trans (riv_le hr1) hz) ml_B_62 im_R_has se_R_has rfl rfl rfl rfl (Nat.le_refl _) (Nat.le_of_eq hb.symm) (fun hp4 => ?_)
  show Zt _ _ _ _ 20 _ [vI q2] (z, I, J, G)
  refine z_istore (L' := [some (vR g r0), some (vR g r1), some (vR g 245), some (vI x3), some (vI q2)]) dX0_weighLack_20 rfl rfl rfl ?_
  refine z_aload_n dX0_weighLack_22 rfl ?_
  refine z_iload_n dX0_weighLack_23 rfl ?_
  refine z_iload dX0_weighLack_24 rfl ?_
  refine z_if_eq (tgt := 49) dX0_weighLack_26 (by decide) (inR_bool hp4) (fun hc5 => ?_) (fun hc5 => ?_)
  · replace h := ifT hc5 h
    refine z_iconst dX0_weighLack_49 ?_
    refine z_weak (L' := [some (vR g r0), some (vR g r1), some (vR g 245), some (vI x3), none]) (lsS (lsS (lsS (lsS (lsN ls0))))) ?_
    exact t_B_weighLack_b50in2 hb hz hG hr0 hr1 hx3 hx3 (inRd (x := (-1)) (by decide)) h kE kS
  replace h := ifF hc5 h
  refine z_iconst dX0_weighLack_29 ?_
  refine z_aload_n dX0_weighLack_30 rfl ?_
  refine y_getNR (host := "FarewellStones") dX0_weighLack_31 cl6 (riv_sh hr1) (riv_pos hr1) (Nat.le_trans (riv_le hr1) hz) 3 rfl rfl (flN_B_100) (riv_g3 hG hr1) (Nat.succ_pos _) ?_
  refine z_iload_n dX0_weighLack_34 rfl ?_
  obtain ⟨hg7, h⟩ := guardE h
  refine z_nm (fun hN8 => ?_)
  refine y_iald dX0_weighLack_35 (riv_sh3 hr1) (Nat.succ_pos _) (Nat.le_trans (riv_le3 hr1) hz) hx3 hg7 ?_
  refine z_aload_n dX0_weighLack_36 rfl ?_
  refine y_getR dX0_weighLack_37 cl0 (bed_sh hr0) (bed_pos hr0) (Nat.le_trans (bed_le hr0) hz) 1 rfl rfl (fl_B_9) (bed_g1 hG hr0) (Nat.succ_pos _) ?_
  refine z_iload_n dX0_weighLack_40 rfl ?_
  refine y_iald dX0_weighLack_41 (bed_sh1 hr0) (Nat.succ_pos _) (Nat.le_trans (bed_le1 hr0) hz) hx3 hg7 ?_
  refine z_isub dX0_weighLack_42 ?_
  refine z_max dX0_weighLack_43 (inRd (x := 0) (by decide)) (inR_w32 _) (tin4 4 (by decide +kernel) rfl) math_max_s math_i math_max_c rfl rfl (Nat.le_of_eq hb.symm) ?_
  refine z_goto (tgt := 50) dX0_weighLack_46 (by decide) ?_
  refine z_weak (L' := [some (vR g r0), some (vR g r1), some (vR g 245), some (vI x3), none]) (lsS (lsS (lsS (lsS (lsN ls0))))) ?_
  exact t_B_weighLack_b50in2 hb hz hG hr0 hr1 hx3 hx3 (inR_max (inRd (x := 0) (by decide)) (inR_w32 _)) h kE kS
theorem l_B_weighLack_L2 {l : Launch} {g : GX} {φ : CX} {z : Nat} {G : Nat → Nat → Nat} {F : Nat} (hb : cb φ = z) (hz : 295 ≤ z) (hG : lyX G) {r0 : Nat} {r1 : Nat} {J : Nat → Nat → Int} (hr0 : isBed r0) (hr1 : isRiv r1) (n : Nat) (s : Int × MI) (e : MI) (h : iter (fun s : Int × MI => f_B_weighLack_L2 F r0 r1 s.1 s.2) n s = some e) (hs : inR s.1) (k : ((True) → Zt l g φ mu_B_weighLack 57 [none, none, none, none, none] [] (z, e, J, G))) : Zt l g φ mu_B_weighLack 2 [some (vR g r0), some (vR g r1), some (vR g 245), some (vI s.1), none] [] (z, s.2, J, G) := by
  refine iter_ind (Z := fun s : Int × MI => Zt l g φ mu_B_weighLack 2 [some (vR g r0), some (vR g r1), some (vR g 245), some (vI s.1), none] [] (z, s.2, J, G)) (ZE := fun e : MI => ((True) → Zt l g φ mu_B_weighLack 57 [none, none, none, none, none] [] (z, e, J, G))) (Rg := fun s : Int × MI => inR s.1) ?_ n s e h hs k
  intro s r hr hst kE kS
  exact t_B_weighLack_L2 hb hz hG hr0 hr1 hr hst kE kS
set_option maxHeartbeats 1000000 in
theorem s_B_weighLack {l : Launch} {g : GX} {z : Nat} {G : Nat → Nat → Nat} {F : Nat} (hz : 295 ≤ z) (hG : lyX G) {r0 : Nat} {r1 : Nat} {I J : Nat → Nat → Int} (hr0 : isBed r0) (hr1 : isRiv r1) {res : MI} (h : f_B_weighLack F r0 r1 I = some res) : Spec l g 14 yX0_weighLack cX0_weighLack 5 none [vR g r0, vR g r1, vR g 245] (z, I, J, G) none True (z, res, J, G) := by
  refine spec_of (μ := mu_B_weighLack) (k := 2) (L0 := [some (vR g r0), some (vR g r1), some (vR g 245), none, none]) rfl mw_B_weighLack rfl rfl (Nat.le_refl _) (fun φ hb hE => ?_)
  refine z_iconst dX0_weighLack_0 ?_
  refine z_istore_n (L' := [some (vR g r0), some (vR g r1), some (vR g 245), some (vI 0), none]) dX0_weighLack_1 rfl rfl rfl ?_
  obtain ⟨e9, h10, h⟩ := bindE h
  refine l_B_weighLack_L2 hb hz hG hr0 hr1 _ _ _ h10 (inRd (x := 0) (by decide)) ?_
  refine fun h11 => ?_
  obtain rfl := someE h
  exact z_vret dX0_weighLack_57 hE trivial rfl
set_option maxHeartbeats 1000000 in
theorem t_B_weighHeight_b44 {l : Launch} {g : GX} {φ : CX} {z : Nat} {G : Nat → Nat → Nat} {F : Nat} (hb : cb φ = z) (hz : 295 ≤ z) (hG : lyX G) {s1 : Int} {s2 : Int} {I J : Nat → Nat → Int} (hs1 : inR s1) (hs2 : inR s2) {res : MI} (h : f_B_weighHeight_b44 F s1 s2 I = some res) (hE : ends g φ none none True (z, res, J, G)) : Zt l g φ mu_B_weighHeight 44 [none, none, none, none, none] [vI s2, vI s1, vR g 245] (z, I, J, G) := by
  obtain ⟨hg6, h⟩ := guardE h
  refine y_iast dX0_weighHeight_44 sh_245 (by decide) (Nat.le_trans (by decide) hz) hs1 hg6 hs2 ?_
  obtain rfl := someE h
  exact z_vret dX0_weighHeight_45 hE trivial rfl
set_option maxHeartbeats 1000000 in
theorem t_B_weighHeight_b30 {l : Launch} {g : GX} {φ : CX} {z : Nat} {G : Nat → Nat → Nat} {F : Nat} (hb : cb φ = z) (hz : 295 ≤ z) (hG : lyX G) {x1 : Int} {s0 : Int} {I J : Nat → Nat → Int} (hx1 : inR x1) (hs0 : inR s0) (hb0 : s0 = 0 ∨ s0 = 1) {res : MI} (h : f_B_weighHeight_b30 F x1 s0 I = some res) (hE : ends g φ none none True (z, res, J, G)) : Zt l g φ mu_B_weighHeight 30 [none, some (vI x1), none, some (vR g 245), none] [vI s0] (z, I, J, G) := by
  refine z_istore (L' := [none, some (vI x1), none, some (vR g 245), some (vI s0)]) dX0_weighHeight_30 rfl rfl rfl ?_
  refine z_aload_n dX0_weighHeight_32 rfl ?_
  refine z_iload_n dX0_weighHeight_33 rfl ?_
  refine z_iload dX0_weighHeight_34 rfl ?_
  refine z_if_eq (tgt := 43) dX0_weighHeight_36 (by decide) hs0 (fun hc5 => ?_) (fun hc5 => ?_)
  · replace h := ifT hc5 h
    refine z_iconst dX0_weighHeight_43 ?_
    refine z_weak (L' := [none, none, none, none, none]) (lsN (lsN (lsN (lsN (lsN ls0))))) ?_
    exact t_B_weighHeight_b44 hb hz hG hx1 (inRd (x := (-1)) (by decide)) h hE
  replace h := ifF hc5 h
  refine z_iconst dX0_weighHeight_39 ?_
  refine z_goto (tgt := 44) dX0_weighHeight_40 (by decide) ?_
  refine z_weak (L' := [none, none, none, none, none]) (lsN (lsN (lsN (lsN (lsN ls0))))) ?_
  exact t_B_weighHeight_b44 hb hz hG hx1 (inRd (x := 0) (by decide)) h hE
set_option maxHeartbeats 1000000 in
theorem t_B_weighHeight_b29 {l : Launch} {g : GX} {φ : CX} {z : Nat} {G : Nat → Nat → Nat} {F : Nat} (hb : cb φ = z) (hz : 295 ≤ z) (hG : lyX G) {x1 : Int} {I J : Nat → Nat → Int} (hx1 : inR x1) {res : MI} (h : f_B_weighHeight_b29 F x1 I = some res) (hE : ends g φ none none True (z, res, J, G)) : Zt l g φ mu_B_weighHeight 29 [none, some (vI x1), none, some (vR g 245), none] [] (z, I, J, G) := by
  refine z_iconst dX0_weighHeight_29 ?_
  exact t_B_weighHeight_b30 hb hz hG hx1 (inRd (x := 0) (by decide)) b01_0 h hE
set_option maxHeartbeats 1000000 in
theorem s_B_weighHeight {l : Launch} {g : GX} {z : Nat} {G : Nat → Nat → Nat} {F : Nat} (hz : 295 ≤ z) (hG : lyX G) {r0 : Nat} {x1 : Int} {x2 : Int} {I J : Nat → Nat → Int} (hr0 : isRiv r0) (hx1 : inR x1) (hx2 : inR x2) {res : MI} (h : f_B_weighHeight F r0 x1 x2 I = some res) : Spec l g 1 yX0_weighHeight cX0_weighHeight 5 none [vR g r0, vI x1, vI x2, vR g 245] (z, I, J, G) none True (z, res, J, G) := by
  refine spec_of (μ := mu_B_weighHeight) (k := 1) (L0 := [some (vR g r0), some (vI x1), some (vI x2), some (vR g 245), none]) rfl mw_B_weighHeight rfl rfl (Nat.le_refl _) (fun φ hb hE => ?_)
  refine z_aload_n dX0_weighHeight_0 rfl ?_
  refine z_iload_n dX0_weighHeight_1 rfl ?_
  refine z_bipush dX0_weighHeight_2 (by decide +kernel) ?_
  refine z_irem dX0_weighHeight_4 (inRd (x := 12) (by decide)) (by decide) ?_
  refine z_iload_n dX0_weighHeight_5 rfl ?_
  refine z_bipush dX0_weighHeight_6 (by decide +kernel) ?_
  refine z_idiv dX0_weighHeight_8 (inRd (x := 12) (by decide)) (by decide) ?_
  obtain ⟨q1, hq2, h⟩ := bindE h
  refine z_callV (As := [vI (rem32 x1 12), vI (div32 x1 12)]) (rest := []) (s_R_has hz hG hr0 inR_rem inR_div hq2) dX0_weighHeight_9 mw_R_has cl6 (riv_sh hr0) (riv_pos hr0) (Nat.le_trans (riv_le hr0) hz) ml_B_62 im_R_has se_R_has rfl rfl rfl rfl (Nat.le_refl _) (Nat.le_of_eq hb.symm) (fun hp3 => ?_)
  show Zt _ _ _ _ 12 _ [vI q1] (z, I, J, G)
  refine z_if_eq (tgt := 29) dX0_weighHeight_12 (by decide) (inR_bool hp3) (fun hc4 => ?_) (fun hc4 => ?_)
  · replace h := ifT hc4 h
    refine z_weak (L' := [none, some (vI x1), none, some (vR g 245), none]) (lsN (lsS (lsN (lsS (lsN ls0))))) ?_
    exact t_B_weighHeight_b29 hb hz hG hx1 h hE
  replace h := ifF hc4 h
  refine z_iload_n dX0_weighHeight_15 rfl ?_
  refine z_aload_n dX0_weighHeight_16 rfl ?_
  refine y_getNR (host := "FarewellStones") dX0_weighHeight_17 cl6 (riv_sh hr0) (riv_pos hr0) (Nat.le_trans (riv_le hr0) hz) 3 rfl rfl (flN_B_100) (riv_g3 hG hr0) (Nat.succ_pos _) ?_
  refine z_iload_n dX0_weighHeight_20 rfl ?_
  obtain ⟨hg7, h⟩ := guardE h
  refine z_nm (fun hN8 => ?_)
  refine y_iald dX0_weighHeight_21 (riv_sh3 hr0) (Nat.succ_pos _) (Nat.le_trans (riv_le3 hr0) hz) hx1 hg7 ?_
  refine z_icmp_lt (tgt := 29) dX0_weighHeight_22 (by decide) hx2 (hN8.1 (r0 + 1) (x1).toNat) (fun hc9 => ?_) (fun hc9 => ?_)
  · replace h := ifT hc9 h
    refine z_weak (L' := [none, some (vI x1), none, some (vR g 245), none]) (lsN (lsS (lsN (lsS (lsN ls0))))) ?_
    exact t_B_weighHeight_b29 hb hz hG hx1 h hE
  replace h := ifF hc9 h
  refine z_iconst dX0_weighHeight_25 ?_
  refine z_goto (tgt := 30) dX0_weighHeight_26 (by decide) ?_
  refine z_weak (L' := [none, some (vI x1), none, some (vR g 245), none]) (lsN (lsS (lsN (lsS (lsN ls0))))) ?_
  exact t_B_weighHeight_b30 hb hz hG hx1 (inRd (x := 1) (by decide)) b01_1 h hE
set_option maxHeartbeats 1000000 in
theorem t_B_weighSteps_L2 {l : Launch} {g : GX} {φ : CX} {z : Nat} {G : Nat → Nat → Nat} {F : Nat} (hb : cb φ = z) (hz : 295 ≤ z) (hG : lyX G) {r0 : Nat} {r1 : Nat} {x3 : Int} {I J : Nat → Nat → Int} (hr0 : isBed r0) (hr1 : isRiv r1) (hx3 : inR x3) {res : (MI) ⊕ (Int × MI)} (h : f_B_weighSteps_L2 F r0 r1 x3 I = some res) (kE : ∀ e : MI, res = .inl e → ((True) → Zt l g φ mu_B_weighSteps 26 [none, none, none, none] [] (z, e, J, G))) (kS : ∀ s : Int × MI, res = .inr s → (inR s.1) → Zt l g φ mu_B_weighSteps 2 [some (vR g r0), some (vR g r1), some (vR g 245), some (vI s.1)] [] (z, s.2, J, G)) : Zt l g φ mu_B_weighSteps 2 [some (vR g r0), some (vR g r1), some (vR g 245), some (vI x3)] [] (z, I, J, G) := by
  refine z_iload_n dX0_weighSteps_2 rfl ?_
  refine z_bipush dX0_weighSteps_3 (by decide +kernel) ?_
  refine z_icmp_ge (tgt := 26) dX0_weighSteps_5 (by decide) hx3 (inRd (x := 96) (by decide)) (fun hc1 => ?_) (fun hc1 => ?_)
  · replace h := ifT hc1 h
    refine z_weak (L' := [none, none, none, none]) (lsN (lsN (lsN (lsN ls0)))) ?_
    exact kE _ (someE h).symm trivial
  replace h := ifF hc1 h
  refine z_aload_n dX0_weighSteps_8 rfl ?_
  refine z_iload_n dX0_weighSteps_9 rfl ?_
  refine z_aload_n dX0_weighSteps_10 rfl ?_
  refine y_getR dX0_weighSteps_11 cl0 (bed_sh hr0) (bed_pos hr0) (Nat.le_trans (bed_le hr0) hz) 1 rfl rfl (fl_B_9) (bed_g1 hG hr0) (Nat.succ_pos _) ?_
  refine z_iload_n dX0_weighSteps_14 rfl ?_
  obtain ⟨hg2, h⟩ := guardE h
  refine z_nm (fun hN3 => ?_)
  refine y_iald dX0_weighSteps_15 (bed_sh1 hr0) (Nat.succ_pos _) (Nat.le_trans (bed_le1 hr0) hz) hx3 hg2 ?_
  refine z_aload_n dX0_weighSteps_16 rfl ?_
  obtain ⟨q4, hq5, h⟩ := bindE h
  refine z_callS (As := [vR g r1, vI x3, vI (I (r0 + 1) (x3).toNat), vR g 245]) (rest := []) (s_B_weighHeight hz hG hr1 hx3 (hN3.1 (r0 + 1) (x3).toNat) hq5) dX0_weighSteps_17 mw_B_weighHeight ml_B_139 st_B_weighHeight rfl rfl rfl rfl (Nat.le_refl _) (Nat.le_of_eq hb.symm) (fun hp6 => ?_)
  show Zt _ _ _ _ 20 _ [] (z, q4, J, G)
  refine z_iinc (L' := [some (vR g r0), some (vR g r1), some (vR g 245), some (vI (w32 (x3 + 1)))]) dX0_weighSteps_20 rfl rfl rfl rfl ?_
  refine z_goto (tgt := 2) dX0_weighSteps_23 (by decide) ?_
  exact kS _ (someE h).symm (inR_w32 _)
theorem l_B_weighSteps_L2 {l : Launch} {g : GX} {φ : CX} {z : Nat} {G : Nat → Nat → Nat} {F : Nat} (hb : cb φ = z) (hz : 295 ≤ z) (hG : lyX G) {r0 : Nat} {r1 : Nat} {J : Nat → Nat → Int} (hr0 : isBed r0) (hr1 : isRiv r1) (n : Nat) (s : Int × MI) (e : MI) (h : iter (fun s : Int × MI => f_B_weighSteps_L2 F r0 r1 s.1 s.2) n s = some e) (hs : inR s.1) (k : ((True) → Zt l g φ mu_B_weighSteps 26 [none, none, none, none] [] (z, e, J, G))) : Zt l g φ mu_B_weighSteps 2 [some (vR g r0), some (vR g r1), some (vR g 245), some (vI s.1)] [] (z, s.2, J, G) := by
  refine iter_ind (Z := fun s : Int × MI => Zt l g φ mu_B_weighSteps 2 [some (vR g r0), some (vR g r1), some (vR g 245), some (vI s.1)] [] (z, s.2, J, G)) (ZE := fun e : MI => ((True) → Zt l g φ mu_B_weighSteps 26 [none, none, none, none] [] (z, e, J, G))) (Rg := fun s : Int × MI => inR s.1) ?_ n s e h hs k
  intro s r hr hst kE kS
  exact t_B_weighSteps_L2 hb hz hG hr0 hr1 hr hst kE kS
set_option maxHeartbeats 1000000 in
theorem s_B_weighSteps {l : Launch} {g : GX} {z : Nat} {G : Nat → Nat → Nat} {F : Nat} (hz : 295 ≤ z) (hG : lyX G) {r0 : Nat} {r1 : Nat} {I J : Nat → Nat → Int} (hr0 : isBed r0) (hr1 : isRiv r1) {res : MI} (h : f_B_weighSteps F r0 r1 I = some res) : Spec l g 2 yX0_weighSteps cX0_weighSteps 4 none [vR g r0, vR g r1, vR g 245] (z, I, J, G) none True (z, res, J, G) := by
  refine spec_of (μ := mu_B_weighSteps) (k := 1) (L0 := [some (vR g r0), some (vR g r1), some (vR g 245), none]) rfl mw_B_weighSteps rfl rfl (Nat.le_refl _) (fun φ hb hE => ?_)
  refine z_iconst dX0_weighSteps_0 ?_
  refine z_istore_n (L' := [some (vR g r0), some (vR g r1), some (vR g 245), some (vI 0)]) dX0_weighSteps_1 rfl rfl rfl ?_
  obtain ⟨e7, h8, h⟩ := bindE h
  refine l_B_weighSteps_L2 hb hz hG hr0 hr1 _ _ _ h8 (inRd (x := 0) (by decide)) ?_
  refine fun h9 => ?_
  obtain rfl := someE h
  exact z_vret dX0_weighSteps_26 hE trivial rfl
set_option maxHeartbeats 1000000 in
theorem t_B_weighWithout_L3 {l : Launch} {g : GX} {φ : CX} {z : Nat} {G : Nat → Nat → Nat} {F : Nat} (hb : cb φ = z) (hz : 295 ≤ z) (hG : lyX G) {r0 : Nat} {r1 : Nat} {x2 : Int} {x4 : Int} {I J : Nat → Nat → Int} (hr0 : isBed r0) (hr1 : isRiv r1) (hx2 : inR x2) (hx4 : inR x4) {res : (MI) ⊕ (Int × MI)} (h : f_B_weighWithout_L3 F r0 r1 x2 x4 I = some res) (kE : ∀ e : MI, res = .inl e → ((True) → Zt l g φ mu_B_weighWithout 38 [none, none, none, none, none] [] (z, e, J, G))) (kS : ∀ s : Int × MI, res = .inr s → (inR s.1) → Zt l g φ mu_B_weighWithout 3 [some (vR g r0), some (vR g r1), some (vI x2), some (vR g 245), some (vI s.1)] [] (z, s.2, J, G)) : Zt l g φ mu_B_weighWithout 3 [some (vR g r0), some (vR g r1), some (vI x2), some (vR g 245), some (vI x4)] [] (z, I, J, G) := by
  refine z_iload dX0_weighWithout_3 rfl ?_
  refine z_bipush dX0_weighWithout_5 (by decide +kernel) ?_
  refine z_icmp_ge (tgt := 38) dX0_weighWithout_7 (by decide) hx4 (inRd (x := 96) (by decide)) (fun hc1 => ?_) (fun hc1 => ?_)
  · replace h := ifT hc1 h
    refine z_weak (L' := [none, none, none, none, none]) (lsN (lsN (lsN (lsN (lsN ls0))))) ?_
    exact kE _ (someE h).symm trivial
  replace h := ifF hc1 h
  refine z_aload_n dX0_weighWithout_10 rfl ?_
  refine z_iload dX0_weighWithout_11 rfl ?_
  refine z_aload_n dX0_weighWithout_13 rfl ?_
  refine y_getR dX0_weighWithout_14 cl0 (bed_sh hr0) (bed_pos hr0) (Nat.le_trans (bed_le hr0) hz) 1 rfl rfl (fl_B_9) (bed_g1 hG hr0) (Nat.succ_pos _) ?_
  refine z_iload dX0_weighWithout_17 rfl ?_
  obtain ⟨hg2, h⟩ := guardE h
  refine z_nm (fun hN3 => ?_)
  refine y_iald dX0_weighWithout_19 (bed_sh1 hr0) (Nat.succ_pos _) (Nat.le_trans (bed_le1 hr0) hz) hx4 hg2 ?_
  refine z_aload_n dX0_weighWithout_20 rfl ?_
  refine z_iload_n dX0_weighWithout_21 rfl ?_
  refine z_iload dX0_weighWithout_22 rfl ?_
  obtain ⟨q4, hq5, h⟩ := bindE h
  refine z_callV (As := [vI x2, vI x4]) (rest := [vI (I (r0 + 1) (x4).toNat), vI x4, vR g r1]) (s_B_countOf hz hG hr0 hx2 hx4 hq5) dX0_weighWithout_24 mw_B_countOf cl0 (bed_sh hr0) (bed_pos hr0) (Nat.le_trans (bed_le hr0) hz) ml_B_143 im_B_countOf se_B_countOf rfl rfl rfl rfl (Nat.le_refl _) (Nat.le_of_eq hb.symm) (fun hp6 => ?_)
  show Zt _ _ _ _ 27 _ [vI q4, vI (I (r0 + 1) (x4).toNat), vI x4, vR g r1] (z, I, J, G)
  refine z_isub dX0_weighWithout_27 ?_
  refine z_aload_n dX0_weighWithout_28 rfl ?_
  obtain ⟨q7, hq8, h⟩ := bindE h
  refine z_callS (As := [vR g r1, vI x4, vI (w32 ((I (r0 + 1) (x4).toNat) - q4)), vR g 245]) (rest := []) (s_B_weighHeight hz hG hr1 hx4 (inR_w32 _) hq8) dX0_weighWithout_29 mw_B_weighHeight ml_B_139 st_B_weighHeight rfl rfl rfl rfl (Nat.le_refl _) (Nat.le_of_eq hb.symm) (fun hp9 => ?_)
  show Zt _ _ _ _ 32 _ [] (z, q7, J, G)
  refine z_iinc (L' := [some (vR g r0), some (vR g r1), some (vI x2), some (vR g 245), some (vI (w32 (x4 + 1)))]) dX0_weighWithout_32 rfl rfl rfl rfl ?_
  refine z_goto (tgt := 3) dX0_weighWithout_35 (by decide) ?_
  exact kS _ (someE h).symm (inR_w32 _)
theorem l_B_weighWithout_L3 {l : Launch} {g : GX} {φ : CX} {z : Nat} {G : Nat → Nat → Nat} {F : Nat} (hb : cb φ = z) (hz : 295 ≤ z) (hG : lyX G) {r0 : Nat} {r1 : Nat} {x2 : Int} {J : Nat → Nat → Int} (hr0 : isBed r0) (hr1 : isRiv r1) (hx2 : inR x2) (n : Nat) (s : Int × MI) (e : MI) (h : iter (fun s : Int × MI => f_B_weighWithout_L3 F r0 r1 x2 s.1 s.2) n s = some e) (hs : inR s.1) (k : ((True) → Zt l g φ mu_B_weighWithout 38 [none, none, none, none, none] [] (z, e, J, G))) : Zt l g φ mu_B_weighWithout 3 [some (vR g r0), some (vR g r1), some (vI x2), some (vR g 245), some (vI s.1)] [] (z, s.2, J, G) := by
  refine iter_ind (Z := fun s : Int × MI => Zt l g φ mu_B_weighWithout 3 [some (vR g r0), some (vR g r1), some (vI x2), some (vR g 245), some (vI s.1)] [] (z, s.2, J, G)) (ZE := fun e : MI => ((True) → Zt l g φ mu_B_weighWithout 38 [none, none, none, none, none] [] (z, e, J, G))) (Rg := fun s : Int × MI => inR s.1) ?_ n s e h hs k
  intro s r hr hst kE kS
  exact t_B_weighWithout_L3 hb hz hG hr0 hr1 hx2 hr hst kE kS
set_option maxHeartbeats 1000000 in
theorem s_B_weighWithout {l : Launch} {g : GX} {z : Nat} {G : Nat → Nat → Nat} {F : Nat} (hz : 295 ≤ z) (hG : lyX G) {r0 : Nat} {r1 : Nat} {x2 : Int} {I J : Nat → Nat → Int} (hr0 : isBed r0) (hr1 : isRiv r1) (hx2 : inR x2) {res : MI} (h : f_B_weighWithout F r0 r1 x2 I = some res) : Spec l g 2 yX0_weighWithout cX0_weighWithout 5 none [vR g r0, vR g r1, vI x2, vR g 245] (z, I, J, G) none True (z, res, J, G) := by
  refine spec_of (μ := mu_B_weighWithout) (k := 1) (L0 := [some (vR g r0), some (vR g r1), some (vI x2), some (vR g 245), none]) rfl mw_B_weighWithout rfl rfl (Nat.le_refl _) (fun φ hb hE => ?_)
  refine z_iconst dX0_weighWithout_0 ?_
  refine z_istore (L' := [some (vR g r0), some (vR g r1), some (vI x2), some (vR g 245), some (vI 0)]) dX0_weighWithout_1 rfl rfl rfl ?_
  obtain ⟨e10, h11, h⟩ := bindE h
  refine l_B_weighWithout_L3 hb hz hG hr0 hr1 hx2 _ _ _ h11 (inRd (x := 0) (by decide)) ?_
  refine fun h12 => ?_
  obtain rfl := someE h
  exact z_vret dX0_weighWithout_38 hE trivial rfl
set_option maxHeartbeats 1000000 in
theorem t_B_weighAlone_L3 {l : Launch} {g : GX} {φ : CX} {z : Nat} {G : Nat → Nat → Nat} {F : Nat} (hb : cb φ = z) (hz : 295 ≤ z) (hG : lyX G) {r0 : Nat} {r1 : Nat} {x2 : Int} {x4 : Int} {I J : Nat → Nat → Int} (hr0 : isBed r0) (hr1 : isRiv r1) (hx2 : inR x2) (hx4 : inR x4) {res : (MI) ⊕ (Int × MI)} (h : f_B_weighAlone_L3 F r0 r1 x2 x4 I = some res) (kE : ∀ e : MI, res = .inl e → ((True) → Zt l g φ mu_B_weighAlone 30 [none, none, none, none, none] [] (z, e, J, G))) (kS : ∀ s : Int × MI, res = .inr s → (inR s.1) → Zt l g φ mu_B_weighAlone 3 [some (vR g r0), some (vR g r1), some (vI x2), some (vR g 245), some (vI s.1)] [] (z, s.2, J, G)) : Zt l g φ mu_B_weighAlone 3 [some (vR g r0), some (vR g r1), some (vI x2), some (vR g 245), some (vI x4)] [] (z, I, J, G) := by
  refine z_iload dX0_weighAlone_3 rfl ?_
  refine z_bipush dX0_weighAlone_5 (by decide +kernel) ?_
  refine z_icmp_ge (tgt := 30) dX0_weighAlone_7 (by decide) hx4 (inRd (x := 96) (by decide)) (fun hc1 => ?_) (fun hc1 => ?_)
  · replace h := ifT hc1 h
    refine z_weak (L' := [none, none, none, none, none]) (lsN (lsN (lsN (lsN (lsN ls0))))) ?_
    exact kE _ (someE h).symm trivial
  replace h := ifF hc1 h
  refine z_aload_n dX0_weighAlone_10 rfl ?_
  refine z_iload dX0_weighAlone_11 rfl ?_
  refine z_aload_n dX0_weighAlone_13 rfl ?_
  refine z_iload_n dX0_weighAlone_14 rfl ?_
  refine z_iload dX0_weighAlone_15 rfl ?_
  obtain ⟨q2, hq3, h⟩ := bindE h
  refine z_callV (As := [vI x2, vI x4]) (rest := [vI x4, vR g r1]) (s_B_countOf hz hG hr0 hx2 hx4 hq3) dX0_weighAlone_17 mw_B_countOf cl0 (bed_sh hr0) (bed_pos hr0) (Nat.le_trans (bed_le hr0) hz) ml_B_143 im_B_countOf se_B_countOf rfl rfl rfl rfl (Nat.le_refl _) (Nat.le_of_eq hb.symm) (fun hp4 => ?_)
  show Zt _ _ _ _ 20 _ [vI q2, vI x4, vR g r1] (z, I, J, G)
  refine z_aload_n dX0_weighAlone_20 rfl ?_
  obtain ⟨q5, hq6, h⟩ := bindE h
  refine z_callS (As := [vR g r1, vI x4, vI q2, vR g 245]) (rest := []) (s_B_weighHeight hz hG hr1 hx4 hp4 hq6) dX0_weighAlone_21 mw_B_weighHeight ml_B_139 st_B_weighHeight rfl rfl rfl rfl (Nat.le_refl _) (Nat.le_of_eq hb.symm) (fun hp7 => ?_)
  show Zt _ _ _ _ 24 _ [] (z, q5, J, G)
  refine z_iinc (L' := [some (vR g r0), some (vR g r1), some (vI x2), some (vR g 245), some (vI (w32 (x4 + 1)))]) dX0_weighAlone_24 rfl rfl rfl rfl ?_
  refine z_goto (tgt := 3) dX0_weighAlone_27 (by decide) ?_
  exact kS _ (someE h).symm (inR_w32 _)
theorem l_B_weighAlone_L3 {l : Launch} {g : GX} {φ : CX} {z : Nat} {G : Nat → Nat → Nat} {F : Nat} (hb : cb φ = z) (hz : 295 ≤ z) (hG : lyX G) {r0 : Nat} {r1 : Nat} {x2 : Int} {J : Nat → Nat → Int} (hr0 : isBed r0) (hr1 : isRiv r1) (hx2 : inR x2) (n : Nat) (s : Int × MI) (e : MI) (h : iter (fun s : Int × MI => f_B_weighAlone_L3 F r0 r1 x2 s.1 s.2) n s = some e) (hs : inR s.1) (k : ((True) → Zt l g φ mu_B_weighAlone 30 [none, none, none, none, none] [] (z, e, J, G))) : Zt l g φ mu_B_weighAlone 3 [some (vR g r0), some (vR g r1), some (vI x2), some (vR g 245), some (vI s.1)] [] (z, s.2, J, G) := by
  refine iter_ind (Z := fun s : Int × MI => Zt l g φ mu_B_weighAlone 3 [some (vR g r0), some (vR g r1), some (vI x2), some (vR g 245), some (vI s.1)] [] (z, s.2, J, G)) (ZE := fun e : MI => ((True) → Zt l g φ mu_B_weighAlone 30 [none, none, none, none, none] [] (z, e, J, G))) (Rg := fun s : Int × MI => inR s.1) ?_ n s e h hs k
  intro s r hr hst kE kS
  exact t_B_weighAlone_L3 hb hz hG hr0 hr1 hx2 hr hst kE kS
set_option maxHeartbeats 1000000 in
theorem s_B_weighAlone {l : Launch} {g : GX} {z : Nat} {G : Nat → Nat → Nat} {F : Nat} (hz : 295 ≤ z) (hG : lyX G) {r0 : Nat} {r1 : Nat} {x2 : Int} {I J : Nat → Nat → Int} (hr0 : isBed r0) (hr1 : isRiv r1) (hx2 : inR x2) {res : MI} (h : f_B_weighAlone F r0 r1 x2 I = some res) : Spec l g 2 yX0_weighAlone cX0_weighAlone 5 none [vR g r0, vR g r1, vI x2, vR g 245] (z, I, J, G) none True (z, res, J, G) := by
  refine spec_of (μ := mu_B_weighAlone) (k := 1) (L0 := [some (vR g r0), some (vR g r1), some (vI x2), some (vR g 245), none]) rfl mw_B_weighAlone rfl rfl (Nat.le_refl _) (fun φ hb hE => ?_)
  refine z_iconst dX0_weighAlone_0 ?_
  refine z_istore (L' := [some (vR g r0), some (vR g r1), some (vI x2), some (vR g 245), some (vI 0)]) dX0_weighAlone_1 rfl rfl rfl ?_
  obtain ⟨e8, h9, h⟩ := bindE h
  refine l_B_weighAlone_L3 hb hz hG hr0 hr1 hx2 _ _ _ h9 (inRd (x := 0) (by decide)) ?_
  refine fun h10 => ?_
  obtain rfl := someE h
  exact z_vret dX0_weighAlone_30 hE trivial rfl
set_option maxHeartbeats 1000000 in
theorem s_R_countLeaps {l : Launch} {g : GX} {z : Nat} {G : Nat → Nat → Nat} {F : Nat} (hz : 295 ≤ z) (hG : lyX G) {r0 : Nat} {I J : Nat → Nat → Int} (hr0 : isRiv r0) {res : Int} (h : f_R_countLeaps F r0 I = some res) : Spec l g 14 yX6_countLeaps cX6_countLeaps 1 (some .int) [vR g r0] (z, I, J, G) (some (vI res)) (inR res) (z, I, J, G) := by
  refine spec_of (μ := mu_R_countLeaps) (k := 0) (L0 := [some (vR g r0)]) rfl mw_R_countLeaps rfl rfl (Nat.le_refl _) (fun φ hb hE => ?_)
  refine z_iconst dX6_countLeaps_0 ?_
  refine z_aload_n dX6_countLeaps_1 rfl ?_
  refine z_nm (fun hN1 => ?_)
  refine y_getI dX6_countLeaps_2 cl6 (riv_sh hr0) (riv_pos hr0) (Nat.le_trans (riv_le hr0) hz) 2 rfl rfl (fl_R_53) ?_
  refine z_imul dX6_countLeaps_5 ?_
  refine z_aload_n dX6_countLeaps_6 rfl ?_
  refine y_getI dX6_countLeaps_7 cl6 (riv_sh hr0) (riv_pos hr0) (Nat.le_trans (riv_le hr0) hz) 2 rfl rfl (fl_R_53) ?_
  refine z_iconst dX6_countLeaps_10 ?_
  refine z_iadd dX6_countLeaps_11 ?_
  refine z_imul dX6_countLeaps_12 ?_
  refine z_gsX (host := "FarewellStones") dX6_countLeaps_13 (nin4 154 (by decide +kernel) rfl) ?_
  refine z_lenX dX6_countLeaps_16 ?_
  refine z_min dX6_countLeaps_17 (inR_w32 _) (inRd (x := 40) (by decide)) (tin4 156 (by decide +kernel) rfl) math_min_s math_i math_min_c rfl rfl (Nat.le_of_eq hb.symm) ?_
  obtain rfl := someE h
  exact z_iret dX6_countLeaps_20 hE (inR_min (inR_w32 _) (inRd (x := 40) (by decide))) rfl
set_option maxHeartbeats 1000000 in
theorem s_R_leapFrom {l : Launch} {g : GX} {z : Nat} {G : Nat → Nat → Nat} {F : Nat} (hz : 295 ≤ z) (hG : lyX G) {r0 : Nat} {x1 : Int} {x2 : Int} {I J : Nat → Nat → Int} (hr0 : isRiv r0) (hx1 : inR x1) (hx2 : inR x2) {res : Int} (h : f_R_leapFrom F r0 x1 x2 I = some res) : Spec l g 1 yX6_leapFrom cX6_leapFrom 5 (some .int) [vR g r0, vI x1, vI x2] (z, I, J, G) (some (vI res)) (inR res) (z, I, J, G) := by
  refine spec_of (μ := mu_R_leapFrom) (k := 2) (L0 := [some (vR g r0), some (vI x1), some (vI x2), none, none]) rfl mw_R_leapFrom rfl rfl (Nat.le_refl _) (fun φ hb hE => ?_)
  refine z_iload_n dX6_leapFrom_0 rfl ?_
  refine z_bipush dX6_leapFrom_1 (by decide +kernel) ?_
  refine z_irem dX6_leapFrom_3 (inRd (x := 12) (by decide)) (by decide) ?_
  refine z_gsX (host := "FarewellStones") dX6_leapFrom_4 (nin4 154 (by decide +kernel) rfl) ?_
  refine z_iload_n dX6_leapFrom_7 rfl ?_
  obtain ⟨hg1, h⟩ := guardE h
  refine z_ialdX dX6_leapFrom_8 hx2 hg1 ?_
  refine z_iadd dX6_leapFrom_9 ?_
  refine z_istore_n (L' := [some (vR g r0), some (vI x1), some (vI x2), some (vI (w32 ((rem32 x1 12) + (LX (x2).toNat)))), none]) dX6_leapFrom_10 rfl rfl rfl ?_
  refine z_iload_n dX6_leapFrom_11 rfl ?_
  refine z_bipush dX6_leapFrom_12 (by decide +kernel) ?_
  refine z_idiv dX6_leapFrom_14 (inRd (x := 12) (by decide)) (by decide) ?_
  refine z_gsY (host := "FarewellStones") dX6_leapFrom_15 (nin4 165 (by decide +kernel) rfl) ?_
  refine z_iload_n dX6_leapFrom_18 rfl ?_
  refine z_ialdY dX6_leapFrom_19 hx2 hg1 ?_
  refine z_iadd dX6_leapFrom_20 ?_
  refine z_istore (L' := [some (vR g r0), some (vI x1), some (vI x2), some (vI (w32 ((rem32 x1 12) + (LX (x2).toNat)))), some (vI (w32 ((div32 x1 12) + (LY (x2).toNat))))]) dX6_leapFrom_21 rfl rfl rfl ?_
  refine z_aload_n dX6_leapFrom_23 rfl ?_
  refine z_iload_n dX6_leapFrom_24 rfl ?_
  refine z_iload dX6_leapFrom_25 rfl ?_
  obtain ⟨q2, hq3, h⟩ := bindE h
  refine z_callV (As := [vI (w32 ((rem32 x1 12) + (LX (x2).toNat))), vI (w32 ((div32 x1 12) + (LY (x2).toNat)))]) (rest := []) (s_R_has hz hG hr0 (inR_w32 _) (inR_w32 _) hq3) dX6_leapFrom_27 mw_R_has cl6 (riv_sh hr0) (riv_pos hr0) (Nat.le_trans (riv_le hr0) hz) ml_R_83 im_R_has se_R_has rfl rfl rfl rfl (Nat.le_refl _) (Nat.le_of_eq hb.symm) (fun hp4 => ?_)
  show Zt _ _ _ _ 30 _ [vI q2] (z, I, J, G)
  refine z_if_eq (tgt := 42) dX6_leapFrom_30 (by decide) (inR_bool hp4) (fun hc5 => ?_) (fun hc5 => ?_)
  · replace h := ifT hc5 h
    refine z_iconst dX6_leapFrom_42 ?_
    obtain rfl := someE h
    exact z_iret dX6_leapFrom_43 hE (inRd (x := (-1)) (by decide)) rfl
  replace h := ifF hc5 h
  refine z_iload_n dX6_leapFrom_33 rfl ?_
  refine z_iload dX6_leapFrom_34 rfl ?_
  obtain ⟨q6, hq7, h⟩ := bindE h
  refine z_callSN (host := "FarewellStones") (As := [vI (w32 ((rem32 x1 12) + (LX (x2).toNat))), vI (w32 ((div32 x1 12) + (LY (x2).toNat)))]) (rest := []) (s_X_cellNumber hz hG (inR_w32 _) (inR_w32 _) hq7) dX6_leapFrom_36 mw_X_cellNumber mlN_R_87 st_X_cellNumber rfl rfl rfl rfl (Nat.le_refl _) (Nat.le_of_eq hb.symm) (fun hp8 => ?_)
  show Zt _ _ _ _ 39 _ [vI q6] (z, I, J, G)
  refine z_goto (tgt := 43) dX6_leapFrom_39 (by decide) ?_
  obtain rfl := someE h
  exact z_iret dX6_leapFrom_43 hE hp8 rfl
set_option maxHeartbeats 1000000 in
theorem s_R_isFarEnough {l : Launch} {g : GX} {z : Nat} {G : Nat → Nat → Nat} {F : Nat} (hz : 295 ≤ z) (hG : lyX G) {r0 : Nat} {x1 : Int} {I J : Nat → Nat → Int} (hr0 : isRiv r0) (hx1 : inR x1) {res : Int} (h : f_R_isFarEnough F r0 x1 I = some res) : Spec l g 0 yX6_isFarEnough cX6_isFarEnough 2 (some .boolean) [vR g r0, vI x1] (z, I, J, G) (some (vI res)) (res = 0 ∨ res = 1) (z, I, J, G) := by
  refine spec_of (μ := mu_R_isFarEnough) (k := 0) (L0 := [some (vR g r0), some (vI x1)]) rfl mw_R_isFarEnough rfl rfl (Nat.le_refl _) (fun φ hb hE => ?_)
  refine z_aload_n dX6_isFarEnough_0 rfl ?_
  refine z_nm (fun hN1 => ?_)
  refine y_getI dX6_isFarEnough_1 cl6 (riv_sh hr0) (riv_pos hr0) (Nat.le_trans (riv_le hr0) hz) 1 rfl rfl (fl_R_50) ?_
  refine z_iload_n dX6_isFarEnough_4 rfl ?_
  refine z_bipush dX6_isFarEnough_5 (by decide +kernel) ?_
  refine z_idiv dX6_isFarEnough_7 (inRd (x := 12) (by decide)) (by decide) ?_
  refine z_isub dX6_isFarEnough_8 ?_
  refine z_aload_n dX6_isFarEnough_9 rfl ?_
  refine y_getI dX6_isFarEnough_10 cl6 (riv_sh hr0) (riv_pos hr0) (Nat.le_trans (riv_le hr0) hz) 2 rfl rfl (fl_R_53) ?_
  refine z_icmp_gt (tgt := 20) dX6_isFarEnough_13 (by decide) (inR_w32 _) (hN1.1 r0 2) (fun hc2 => ?_) (fun hc2 => ?_)
  · replace h := ifT hc2 h
    refine z_iconst dX6_isFarEnough_20 ?_
    obtain rfl := someE h
    exact z_zret dX6_isFarEnough_21 hE b01_0 b01_0 rfl
  replace h := ifF hc2 h
  refine z_iconst dX6_isFarEnough_16 ?_
  refine z_goto (tgt := 21) dX6_isFarEnough_17 (by decide) ?_
  obtain rfl := someE h
  exact z_zret dX6_isFarEnough_21 hE b01_1 b01_1 rfl
set_option maxHeartbeats 1000000 in
theorem s_R_isNearEnough {l : Launch} {g : GX} {z : Nat} {G : Nat → Nat → Nat} {F : Nat} (hz : 295 ≤ z) (hG : lyX G) {r0 : Nat} {x1 : Int} {I J : Nat → Nat → Int} (hr0 : isRiv r0) (hx1 : inR x1) {res : Int} (h : f_R_isNearEnough F r0 x1 I = some res) : Spec l g 0 yX6_isNearEnough cX6_isNearEnough 2 (some .boolean) [vR g r0, vI x1] (z, I, J, G) (some (vI res)) (res = 0 ∨ res = 1) (z, I, J, G) := by
  refine spec_of (μ := mu_R_isNearEnough) (k := 0) (L0 := [some (vR g r0), some (vI x1)]) rfl mw_R_isNearEnough rfl rfl (Nat.le_refl _) (fun φ hb hE => ?_)
  refine z_iload_n dX6_isNearEnough_0 rfl ?_
  refine z_bipush dX6_isNearEnough_1 (by decide +kernel) ?_
  refine z_idiv dX6_isNearEnough_3 (inRd (x := 12) (by decide)) (by decide) ?_
  refine z_iconst dX6_isNearEnough_4 ?_
  refine z_iadd dX6_isNearEnough_5 ?_
  refine z_aload_n dX6_isNearEnough_6 rfl ?_
  refine z_nm (fun hN1 => ?_)
  refine y_getI dX6_isNearEnough_7 cl6 (riv_sh hr0) (riv_pos hr0) (Nat.le_trans (riv_le hr0) hz) 2 rfl rfl (fl_R_53) ?_
  refine z_icmp_gt (tgt := 17) dX6_isNearEnough_10 (by decide) (inR_w32 _) (hN1.1 r0 2) (fun hc2 => ?_) (fun hc2 => ?_)
  · replace h := ifT hc2 h
    refine z_iconst dX6_isNearEnough_17 ?_
    obtain rfl := someE h
    exact z_zret dX6_isNearEnough_18 hE b01_0 b01_0 rfl
  replace h := ifF hc2 h
  refine z_iconst dX6_isNearEnough_13 ?_
  refine z_goto (tgt := 18) dX6_isNearEnough_14 (by decide) ?_
  obtain rfl := someE h
  exact z_zret dX6_isNearEnough_18 hE b01_1 b01_1 rfl
set_option maxHeartbeats 1000000 in
theorem s_W_clear {l : Launch} {g : GX} {z : Nat} {G : Nat → Nat → Nat} {F : Nat} (hz : 295 ≤ z) (hG : lyX G) {r0 : Nat} {I J : Nat → Nat → Int} (hr0 : isLaw r0) {res : MI} (h : f_W_clear F r0 I = some res) : Spec l g 0 yX3_clear cX3_clear 1 none [vR g r0] (z, I, J, G) none True (z, res, J, G) := by
  refine spec_of (μ := mu_W_clear) (k := 0) (L0 := [some (vR g r0)]) rfl mw_W_clear rfl rfl (Nat.le_refl _) (fun φ hb hE => ?_)
  refine z_aload_n dX3_clear_0 rfl ?_
  refine z_iconst dX3_clear_1 ?_
  refine y_putI dX3_clear_2 cl3 (law_sh hr0) (law_pos hr0) (Nat.le_trans (law_le hr0) hz) 4 rfl rfl rfl (fl_W_24) rfl rfl (inRd (x := 0) (by decide)) ?_
  obtain rfl := someE h
  exact z_vret dX3_clear_5 hE trivial rfl
set_option maxHeartbeats 1000000 in
theorem s_W_put {l : Launch} {g : GX} {z : Nat} {G : Nat → Nat → Nat} {F : Nat} (hz : 295 ≤ z) (hG : lyX G) {r0 : Nat} {x1 : Int} {x2 : Int} {I J : Nat → Nat → Int} (hr0 : isLaw r0) (hx1 : inR x1) (hx2 : inR x2) {res : Int × MI} (h : f_W_put F r0 x1 x2 I = some res) : Spec l g 0 yX3_put cX3_put 3 (some .int) [vR g r0, vI x1, vI x2] (z, I, J, G) (some (vI res.1)) (inR res.1) (z, res.2, J, G) := by
  refine spec_of (μ := mu_W_put) (k := 0) (L0 := [some (vR g r0), some (vI x1), some (vI x2)]) rfl mw_W_put rfl rfl (Nat.le_refl _) (fun φ hb hE => ?_)
  refine z_aload_n dX3_put_0 rfl ?_
  refine z_nm (fun hN1 => ?_)
  refine y_getI dX3_put_1 cl3 (law_sh hr0) (law_pos hr0) (Nat.le_trans (law_le hr0) hz) 4 rfl rfl (fl_W_24) ?_
  refine z_aload_n dX3_put_4 rfl ?_
  refine y_getR dX3_put_5 cl3 (law_sh hr0) (law_pos hr0) (Nat.le_trans (law_le hr0) hz) 0 rfl rfl (fl_W_9) (law_g0 hG hr0) (Nat.succ_pos _) ?_
  refine z_alen dX3_put_8 (law_sh0 hr0) (Nat.succ_pos _) (Nat.le_trans (law_le0 hr0) hz) ?_
  show Zt _ _ _ _ 9 _ [vI 402, vI (I r0 4)] (z, I, J, G)
  refine z_icmp_lt (tgt := 14) dX3_put_9 (by decide) (hN1.1 r0 4) (inRd (x := 402) (by decide)) (fun hc2 => ?_) (fun hc2 => ?_)
  · replace h := ifT hc2 h
    refine z_aload_n dX3_put_14 rfl ?_
    refine y_getR dX3_put_15 cl3 (law_sh hr0) (law_pos hr0) (Nat.le_trans (law_le hr0) hz) 0 rfl rfl (fl_W_9) (law_g0 hG hr0) (Nat.succ_pos _) ?_
    refine z_aload_n dX3_put_18 rfl ?_
    refine y_getI dX3_put_19 cl3 (law_sh hr0) (law_pos hr0) (Nat.le_trans (law_le hr0) hz) 4 rfl rfl (fl_W_24) ?_
    refine z_iload_n dX3_put_22 rfl ?_
    obtain ⟨hg3, h⟩ := guardE h
    refine y_iast dX3_put_23 (law_sh0 hr0) (Nat.succ_pos _) (Nat.le_trans (law_le0 hr0) hz) (hN1.1 r0 4) hg3 hx1 ?_
    refine z_aload_n dX3_put_24 rfl ?_
    refine y_getR dX3_put_25 cl3 (law_sh hr0) (law_pos hr0) (Nat.le_trans (law_le hr0) hz) 1 rfl rfl (fl_W_15) (law_g1 hG hr0) (Nat.succ_pos _) ?_
    refine z_aload_n dX3_put_28 rfl ?_
    refine z_nm (fun hN4 => ?_)
    refine y_getI dX3_put_29 cl3 (law_sh hr0) (law_pos hr0) (Nat.le_trans (law_le hr0) hz) 4 rfl rfl (fl_W_24) ?_
    refine z_iload_n dX3_put_32 rfl ?_
    obtain ⟨hg5, h⟩ := guardE h
    refine y_iast dX3_put_33 (law_sh1 hr0) (Nat.succ_pos _) (Nat.le_trans (law_le1 hr0) hz) (hN4.1 r0 4) hg5 hx2 ?_
    refine z_aload_n dX3_put_34 rfl ?_
    refine z_dup dX3_put_35 rfl ?_
    refine z_nm (fun hN6 => ?_)
    refine y_getI dX3_put_36 cl3 (law_sh hr0) (law_pos hr0) (Nat.le_trans (law_le hr0) hz) 4 rfl rfl (fl_W_24) ?_
    refine z_iconst dX3_put_39 ?_
    refine z_iadd dX3_put_40 ?_
    refine y_putI dX3_put_41 cl3 (law_sh hr0) (law_pos hr0) (Nat.le_trans (law_le hr0) hz) 4 rfl rfl rfl (fl_W_24) rfl rfl (inR_w32 _) ?_
    refine z_aload_n dX3_put_44 rfl ?_
    refine z_nm (fun hN7 => ?_)
    refine y_getI dX3_put_45 cl3 (law_sh hr0) (law_pos hr0) (Nat.le_trans (law_le hr0) hz) 4 rfl rfl (fl_W_24) ?_
    refine z_iconst dX3_put_48 ?_
    refine z_isub dX3_put_49 ?_
    obtain rfl := someE h
    exact z_iret dX3_put_50 hE (inR_w32 _) rfl
  replace h := ifF hc2 h
  refine z_iconst dX3_put_12 ?_
  obtain rfl := someE h
  exact z_iret dX3_put_13 hE (inRd (x := 0) (by decide)) rfl
set_option maxHeartbeats 1000000 in
theorem s_W_aimAtEnd {l : Launch} {g : GX} {z : Nat} {G : Nat → Nat → Nat} {F : Nat} (hz : 295 ≤ z) (hG : lyX G) {r0 : Nat} {x1 : Int} {I J : Nat → Nat → Int} (hr0 : isLaw r0) (hx1 : inR x1) {res : MI} (h : f_W_aimAtEnd F r0 x1 I = some res) : Spec l g 0 yX3_aimAtEnd cX3_aimAtEnd 2 none [vR g r0, vI x1] (z, I, J, G) none True (z, res, J, G) := by
  refine spec_of (μ := mu_W_aimAtEnd) (k := 0) (L0 := [some (vR g r0), some (vI x1)]) rfl mw_W_aimAtEnd rfl rfl (Nat.le_refl _) (fun φ hb hE => ?_)
  refine z_iload_n dX3_aimAtEnd_0 rfl ?_
  refine z_if_lt (tgt := 22) dX3_aimAtEnd_1 (by decide) hx1 (fun hc1 => ?_) (fun hc1 => ?_)
  · replace h := ifT hc1 h
    obtain rfl := someE h
    exact z_vret dX3_aimAtEnd_22 hE trivial rfl
  replace h := ifF hc1 h
  refine z_iload_n dX3_aimAtEnd_4 rfl ?_
  refine z_aload_n dX3_aimAtEnd_5 rfl ?_
  refine z_nm (fun hN2 => ?_)
  refine y_getI dX3_aimAtEnd_6 cl3 (law_sh hr0) (law_pos hr0) (Nat.le_trans (law_le hr0) hz) 4 rfl rfl (fl_W_24) ?_
  refine z_icmp_ge (tgt := 22) dX3_aimAtEnd_9 (by decide) hx1 (hN2.1 r0 4) (fun hc3 => ?_) (fun hc3 => ?_)
  · replace h := ifT hc3 h
    obtain rfl := someE h
    exact z_vret dX3_aimAtEnd_22 hE trivial rfl
  replace h := ifF hc3 h
  refine z_aload_n dX3_aimAtEnd_12 rfl ?_
  refine y_getR dX3_aimAtEnd_13 cl3 (law_sh hr0) (law_pos hr0) (Nat.le_trans (law_le hr0) hz) 1 rfl rfl (fl_W_15) (law_g1 hG hr0) (Nat.succ_pos _) ?_
  refine z_iload_n dX3_aimAtEnd_16 rfl ?_
  refine z_aload_n dX3_aimAtEnd_17 rfl ?_
  refine y_getI dX3_aimAtEnd_18 cl3 (law_sh hr0) (law_pos hr0) (Nat.le_trans (law_le hr0) hz) 4 rfl rfl (fl_W_24) ?_
  obtain ⟨hg4, h⟩ := guardE h
  refine y_iast dX3_aimAtEnd_21 (law_sh1 hr0) (Nat.succ_pos _) (Nat.le_trans (law_le1 hr0) hz) hx1 hg4 (hN2.1 r0 4) ?_
  obtain rfl := someE h
  exact z_vret dX3_aimAtEnd_22 hE trivial rfl
set_option maxHeartbeats 1000000 in
theorem s_P_clear {l : Launch} {g : GX} {z : Nat} {G : Nat → Nat → Nat} {F : Nat} (hz : 295 ≤ z) (hG : lyX G) {I J : Nat → Nat → Int} {res : MI} (h : f_P_clear F I = some res) : Spec l g 0 yX4_clear cX4_clear 1 none [vR g 63] (z, I, J, G) none True (z, res, J, G) := by
  refine spec_of (μ := mu_P_clear) (k := 0) (L0 := [some (vR g 63)]) rfl mw_P_clear rfl rfl (Nat.le_refl _) (fun φ hb hE => ?_)
  refine z_aload_n dX4_clear_0 rfl ?_
  refine z_iconst dX4_clear_1 ?_
  refine y_putI dX4_clear_2 cl4 sh_63 (by decide) (Nat.le_trans (by decide) hz) 2 rfl rfl rfl (fl_P_18) rfl rfl (inRd (x := 0) (by decide)) ?_
  obtain rfl := someE h
  exact z_vret dX4_clear_5 hE trivial rfl
set_option maxHeartbeats 1000000 in
theorem s_P_keep {l : Launch} {g : GX} {z : Nat} {G : Nat → Nat → Nat} {F : Nat} (hz : 295 ≤ z) (hG : lyX G) {r1 : Nat} {I J : Nat → Nat → Int} (hr1 : isBed r1) {res : MI} (h : f_P_keep F r1 I = some res) : Spec l g 15 yX4_keep cX4_keep 2 none [vR g 63, vR g r1] (z, I, J, G) none True (z, res, J, G) := by
  refine spec_of (μ := mu_P_keep) (k := 0) (L0 := [some (vR g 63), some (vR g r1)]) rfl mw_P_keep rfl rfl (Nat.le_refl _) (fun φ hb hE => ?_)
  refine z_aload_n dX4_keep_0 rfl ?_
  refine y_getR dX4_keep_1 cl4 sh_63 (by decide) (Nat.le_trans (by decide) hz) 0 rfl rfl (fl_P_11) (ly_63_0 hG) (by decide) ?_
  refine z_aload_n dX4_keep_4 rfl ?_
  refine z_nm (fun hN1 => ?_)
  refine y_getI dX4_keep_5 cl4 sh_63 (by decide) (Nat.le_trans (by decide) hz) 1 rfl rfl (fl_P_22) ?_
  obtain ⟨hg2, h⟩ := guardE h
  refine y_aald dX4_keep_8 sh_64 (by decide) (Nat.le_trans (by decide) hz) (hN1.1 63 1) hg2 (ly_beds hG hg2) (bed_pos (bed_beds hg2)) ?_
  refine z_aload_n dX4_keep_9 rfl ?_
  obtain ⟨q3, hq4, h⟩ := bindE h
  refine z_callV (As := [vR g r1]) (rest := []) (s_B_copyFrom hz hG (bed_beds hg2) hr1 hq4) dX4_keep_10 mw_B_copyFrom cl0 (bed_sh (bed_beds hg2)) (bed_pos (bed_beds hg2)) (Nat.le_trans (bed_le (bed_beds hg2)) hz) ml_P_25 im_B_copyFrom se_B_copyFrom rfl rfl rfl rfl (Nat.le_refl _) (Nat.le_of_eq hb.symm) (fun hp5 => ?_)
  show Zt _ _ _ _ 13 _ [] (z, q3, J, G)
  refine z_aload_n dX4_keep_13 rfl ?_
  refine z_aload_n dX4_keep_14 rfl ?_
  refine z_nm (fun hN6 => ?_)
  refine y_getI dX4_keep_15 cl4 sh_63 (by decide) (Nat.le_trans (by decide) hz) 1 rfl rfl (fl_P_22) ?_
  refine z_iconst dX4_keep_18 ?_
  refine z_iadd dX4_keep_19 ?_
  refine z_bipush dX4_keep_20 (by decide +kernel) ?_
  refine z_irem dX4_keep_22 (inRd (x := 25) (by decide)) (by decide) ?_
  refine y_putI dX4_keep_23 cl4 sh_63 (by decide) (Nat.le_trans (by decide) hz) 1 rfl rfl rfl (fl_P_22) rfl rfl inR_rem ?_
  refine z_aload_n dX4_keep_26 rfl ?_
  refine z_nm (fun hN7 => ?_)
  refine y_getI dX4_keep_27 cl4 sh_63 (by decide) (Nat.le_trans (by decide) hz) 2 rfl rfl (fl_P_18) ?_
  refine z_bipush dX4_keep_30 (by decide +kernel) ?_
  refine z_icmp_ge (tgt := 45) dX4_keep_32 (by decide) (hN7.1 63 2) (inRd (x := 25) (by decide)) (fun hc8 => ?_) (fun hc8 => ?_)
  · replace h := ifT hc8 h
    obtain rfl := someE h
    exact z_vret dX4_keep_45 hE trivial rfl
  replace h := ifF hc8 h
  refine z_aload_n dX4_keep_35 rfl ?_
  refine z_dup dX4_keep_36 rfl ?_
  refine y_getI dX4_keep_37 cl4 sh_63 (by decide) (Nat.le_trans (by decide) hz) 2 rfl rfl (fl_P_18) ?_
  refine z_iconst dX4_keep_40 ?_
  refine z_iadd dX4_keep_41 ?_
  refine y_putI dX4_keep_42 cl4 sh_63 (by decide) (Nat.le_trans (by decide) hz) 2 rfl rfl rfl (fl_P_18) rfl rfl (inR_w32 _) ?_
  obtain rfl := someE h
  exact z_vret dX4_keep_45 hE trivial rfl
set_option maxHeartbeats 1000000 in
theorem s_P_bringBack {l : Launch} {g : GX} {z : Nat} {G : Nat → Nat → Nat} {F : Nat} (hz : 295 ≤ z) (hG : lyX G) {r1 : Nat} {I J : Nat → Nat → Int} (hr1 : isBed r1) {res : Int × MI} (h : f_P_bringBack F r1 I = some res) : Spec l g 15 yX4_bringBack cX4_bringBack 2 (some .boolean) [vR g 63, vR g r1] (z, I, J, G) (some (vI res.1)) (res.1 = 0 ∨ res.1 = 1) (z, res.2, J, G) := by
  refine spec_of (μ := mu_P_bringBack) (k := 0) (L0 := [some (vR g 63), some (vR g r1)]) rfl mw_P_bringBack rfl rfl (Nat.le_refl _) (fun φ hb hE => ?_)
  refine z_aload_n dX4_bringBack_0 rfl ?_
  refine z_nm (fun hN1 => ?_)
  refine y_getI dX4_bringBack_1 cl4 sh_63 (by decide) (Nat.le_trans (by decide) hz) 2 rfl rfl (fl_P_18) ?_
  refine z_if_ne (tgt := 9) dX4_bringBack_4 (by decide) (hN1.1 63 2) (fun hc2 => ?_) (fun hc2 => ?_)
  · replace h := ifT hc2 h
    refine z_aload_n dX4_bringBack_9 rfl ?_
    refine z_aload_n dX4_bringBack_10 rfl ?_
    refine y_getI dX4_bringBack_11 cl4 sh_63 (by decide) (Nat.le_trans (by decide) hz) 1 rfl rfl (fl_P_22) ?_
    refine z_bipush dX4_bringBack_14 (by decide +kernel) ?_
    refine z_iadd dX4_bringBack_16 ?_
    refine z_iconst dX4_bringBack_17 ?_
    refine z_isub dX4_bringBack_18 ?_
    refine z_bipush dX4_bringBack_19 (by decide +kernel) ?_
    refine z_irem dX4_bringBack_21 (inRd (x := 25) (by decide)) (by decide) ?_
    refine y_putI dX4_bringBack_22 cl4 sh_63 (by decide) (Nat.le_trans (by decide) hz) 1 rfl rfl rfl (fl_P_22) rfl rfl inR_rem ?_
    refine z_aload_n dX4_bringBack_25 rfl ?_
    refine z_dup dX4_bringBack_26 rfl ?_
    refine z_nm (fun hN3 => ?_)
    refine y_getI dX4_bringBack_27 cl4 sh_63 (by decide) (Nat.le_trans (by decide) hz) 2 rfl rfl (fl_P_18) ?_
    refine z_iconst dX4_bringBack_30 ?_
    refine z_isub dX4_bringBack_31 ?_
    refine y_putI dX4_bringBack_32 cl4 sh_63 (by decide) (Nat.le_trans (by decide) hz) 2 rfl rfl rfl (fl_P_18) rfl rfl (inR_w32 _) ?_
    refine z_aload_n dX4_bringBack_35 rfl ?_
    refine z_aload_n dX4_bringBack_36 rfl ?_
    refine y_getR dX4_bringBack_37 cl4 sh_63 (by decide) (Nat.le_trans (by decide) hz) 0 rfl rfl (fl_P_11) (ly_63_0 hG) (by decide) ?_
    refine z_aload_n dX4_bringBack_40 rfl ?_
    refine z_nm (fun hN4 => ?_)
    refine y_getI dX4_bringBack_41 cl4 sh_63 (by decide) (Nat.le_trans (by decide) hz) 1 rfl rfl (fl_P_22) ?_
    obtain ⟨hg5, h⟩ := guardE h
    refine y_aald dX4_bringBack_44 sh_64 (by decide) (Nat.le_trans (by decide) hz) (hN4.1 63 1) hg5 (ly_beds hG hg5) (bed_pos (bed_beds hg5)) ?_
    obtain ⟨q6, hq7, h⟩ := bindE h
    refine z_callV (As := [vR g (65 + 7 * (((up2 (up2 I 63 1 (rem32 (w32 ((w32 ((I 63 1) + 25)) - 1)) 25)) 63 2 (w32 (((up2 I 63 1 (rem32 (w32 ((w32 ((I 63 1) + 25)) - 1)) 25)) 63 2) - 1))) 63 1)).toNat)]) (rest := []) (s_B_copyFrom hz hG hr1 (bed_beds hg5) hq7) dX4_bringBack_45 mw_B_copyFrom cl0 (bed_sh hr1) (bed_pos hr1) (Nat.le_trans (bed_le hr1) hz) ml_P_25 im_B_copyFrom se_B_copyFrom rfl rfl rfl rfl (Nat.le_refl _) (Nat.le_of_eq hb.symm) (fun hp8 => ?_)
    show Zt _ _ _ _ 48 _ [] (z, q6, J, G)
    refine z_iconst dX4_bringBack_48 ?_
    obtain rfl := someE h
    exact z_zret dX4_bringBack_49 hE b01_1 b01_1 rfl
  replace h := ifF (fun q => q hc2) h
  refine z_iconst dX4_bringBack_7 ?_
  obtain rfl := someE h
  exact z_zret dX4_bringBack_8 hE b01_0 b01_0 rfl
set_option maxHeartbeats 1000000 in
theorem s_T_byteAt {l : Launch} {g : GX} {z : Nat} {G : Nat → Nat → Nat} {F : Nat} (hz : 295 ≤ z) (hG : lyX G) {x1 : Int} {I J : Nat → Nat → Int} (hx1 : inR x1) {res : Int} (h : f_T_byteAt F x1 I = some res) : Spec l g 0 yX7_byteAt cX7_byteAt 2 (some .int) [vR g 2, vI x1] (z, I, J, G) (some (vI res)) (inR res) (z, I, J, G) := by
  refine spec_of (μ := mu_T_byteAt) (k := 0) (L0 := [some (vR g 2), some (vI x1)]) rfl mw_T_byteAt rfl rfl (Nat.le_refl _) (fun φ hb hE => ?_)
  refine z_aload_n dX7_byteAt_0 rfl ?_
  refine y_getR dX7_byteAt_1 cl7 sh_2 (by decide) (Nat.le_trans (by decide) hz) 0 rfl rfl (fl_T_9) (ly_2_0 hG) (by decide) ?_
  refine z_iload_n dX7_byteAt_4 rfl ?_
  obtain ⟨hg1, h⟩ := guardE h
  refine z_nm (fun hN2 => ?_)
  refine y_bald dX7_byteAt_5 sh_3 (by decide) (Nat.le_trans (by decide) hz) hx1 hg1 ?_
  refine z_sipush dX7_byteAt_6 (by decide +kernel) ?_
  refine z_iand dX7_byteAt_9 ?_
  obtain rfl := someE h
  exact z_iret dX7_byteAt_10 hE inR_and rfl
set_option maxHeartbeats 1000000 in
theorem s_R_clear {l : Launch} {g : GX} {z : Nat} {G : Nat → Nat → Nat} {F : Nat} (hz : 295 ≤ z) (hG : lyX G) {r0 : Nat} {I J : Nat → Nat → Int} (hr0 : isRiv r0) {res : MI} (h : f_R_clear F r0 I = some res) : Spec l g 14 yX6_clear cX6_clear 1 none [vR g r0] (z, I, J, G) none True (z, res, J, G) := by
  refine spec_of (μ := mu_R_clear) (k := 0) (L0 := [some (vR g r0)]) rfl mw_R_clear rfl rfl (Nat.le_refl _) (fun φ hb hE => ?_)
  refine z_aload_n dX6_clear_0 rfl ?_
  refine z_bipush dX6_clear_1 (by decide +kernel) ?_
  refine y_putI dX6_clear_3 cl6 (riv_sh hr0) (riv_pos hr0) (Nat.le_trans (riv_le hr0) hz) 0 rfl rfl rfl (fl_R_46) rfl rfl (inRd (x := 8) (by decide)) ?_
  refine z_aload_n dX6_clear_6 rfl ?_
  refine z_iconst dX6_clear_7 ?_
  refine y_putI dX6_clear_8 cl6 (riv_sh hr0) (riv_pos hr0) (Nat.le_trans (riv_le hr0) hz) 1 rfl rfl rfl (fl_R_50) rfl rfl (inRd (x := 4) (by decide)) ?_
  refine z_aload_n dX6_clear_11 rfl ?_
  refine z_iconst dX6_clear_12 ?_
  refine y_putI dX6_clear_13 cl6 (riv_sh hr0) (riv_pos hr0) (Nat.le_trans (riv_le hr0) hz) 2 rfl rfl rfl (fl_R_53) rfl rfl (inRd (x := 1) (by decide)) ?_
  refine z_aload_n dX6_clear_16 rfl ?_
  refine y_getR dX6_clear_17 cl6 (riv_sh hr0) (riv_pos hr0) (Nat.le_trans (riv_le hr0) hz) 3 rfl rfl (fl_R_9) (riv_g3 hG hr0) (Nat.succ_pos _) ?_
  refine z_iconst dX6_clear_20 ?_
  refine z_callS (As := [vR g (r0 + 1), vI 1]) (rest := []) (s_fill (riv_sh3 hr0) (Nat.succ_pos _) (Nat.le_trans (riv_le3 hr0) hz) (inRd (x := 1) (by decide)) (by decide)) dX6_clear_21 mw_fill (tin2 126 (by decide +kernel) rfl) st_fill rfl rfl rfl rfl (Nat.le_refl _) (Nat.le_of_eq hb.symm) (fun _ => ?_)
  show Zt _ _ _ _ 24 _ [] (z, (fillA (up2 (up2 (up2 I r0 0 8) r0 1 4) r0 2 1) (r0 + 1) 96 1), J, G)
  refine z_aload_n dX6_clear_24 rfl ?_
  refine y_getR dX6_clear_25 cl6 (riv_sh hr0) (riv_pos hr0) (Nat.le_trans (riv_le hr0) hz) 4 rfl rfl (fl_R_15) (riv_g4 hG hr0) (Nat.succ_pos _) ?_
  refine z_iconst dX6_clear_28 ?_
  refine z_callS (As := [vR g (r0 + 2), vI 0]) (rest := []) (s_fill (riv_sh4 hr0) (Nat.succ_pos _) (Nat.le_trans (riv_le4 hr0) hz) (inRd (x := 0) (by decide)) (by decide)) dX6_clear_29 mw_fill (tin2 126 (by decide +kernel) rfl) st_fill rfl rfl rfl rfl (Nat.le_refl _) (Nat.le_of_eq hb.symm) (fun _ => ?_)
  show Zt _ _ _ _ 32 _ [] (z, (fillA (fillA (up2 (up2 (up2 I r0 0 8) r0 1 4) r0 2 1) (r0 + 1) 96 1) (r0 + 2) 8 0), J, G)
  refine z_aload_n dX6_clear_32 rfl ?_
  refine z_iconst dX6_clear_33 ?_
  refine y_putI dX6_clear_34 cl6 (riv_sh hr0) (riv_pos hr0) (Nat.le_trans (riv_le hr0) hz) 5 rfl rfl rfl (fl_R_62) rfl rfl (inRd (x := 0) (by decide)) ?_
  refine z_aload_n dX6_clear_37 rfl ?_
  refine z_iconst dX6_clear_38 ?_
  refine y_putI dX6_clear_39 cl6 (riv_sh hr0) (riv_pos hr0) (Nat.le_trans (riv_le hr0) hz) 10 rfl rfl rfl (fl_R_65) rfl rfl (inRd (x := 0) (by decide)) ?_
  refine z_aload_n dX6_clear_42 rfl ?_
  refine y_getR dX6_clear_43 cl6 (riv_sh hr0) (riv_pos hr0) (Nat.le_trans (riv_le hr0) hz) 13 rfl rfl (fl_R_39) (riv_g13 hG hr0) (law_pos (riv_is13 hr0)) ?_
  obtain ⟨q1, hq2, h⟩ := bindE h
  refine z_callV (As := []) (rest := []) (s_W_clear hz hG (riv_is13 hr0) hq2) dX6_clear_46 mw_W_clear cl3 (law_sh (riv_is13 hr0)) (law_pos (riv_is13 hr0)) (Nat.le_trans (law_le (riv_is13 hr0)) hz) ml_R_68 im_W_clear se_W_clear rfl rfl rfl rfl (Nat.le_refl _) (Nat.le_of_eq hb.symm) (fun hp3 => ?_)
  show Zt _ _ _ _ 49 _ [] (z, q1, J, G)
  refine z_aload_n dX6_clear_49 rfl ?_
  refine y_getR dX6_clear_50 cl6 (riv_sh hr0) (riv_pos hr0) (Nat.le_trans (riv_le hr0) hz) 14 rfl rfl (fl_R_43) (riv_g14 hG hr0) (law_pos (riv_is14 hr0)) ?_
  obtain ⟨q4, hq5, h⟩ := bindE h
  refine z_callV (As := []) (rest := []) (s_W_clear hz hG (riv_is14 hr0) hq5) dX6_clear_53 mw_W_clear cl3 (law_sh (riv_is14 hr0)) (law_pos (riv_is14 hr0)) (Nat.le_trans (law_le (riv_is14 hr0)) hz) ml_R_68 im_W_clear se_W_clear rfl rfl rfl rfl (Nat.le_refl _) (Nat.le_of_eq hb.symm) (fun hp6 => ?_)
  show Zt _ _ _ _ 56 _ [] (z, q4, J, G)
  obtain rfl := someE h
  exact z_vret dX6_clear_56 hE trivial rfl
set_option maxHeartbeats 1000000 in
theorem t_K_sortOf_b40 {l : Launch} {g : GX} {φ : CX} {z : Nat} {G : Nat → Nat → Nat} {F : Nat} (hb : cb φ = z) (hz : 295 ≤ z) (hG : lyX G) {x0 : Int} {I J : Nat → Nat → Int} (hx0 : inR x0) {res : Int} (h : f_K_sortOf_b40 F x0 I = some res) (hE : ends g φ (some .int) (some (vI res)) (inR res) (z, I, J, G)) : Zt l g φ mu_K_sortOf 40 [some (vI x0)] [] (z, I, J, G) := by
  refine z_iload_n dX8_sortOf_40 rfl ?_
  refine z_bipush dX8_sortOf_41 (by decide +kernel) ?_
  refine z_icmp_lt (tgt := 54) dX8_sortOf_43 (by decide) hx0 (inRd (x := 48) (by decide)) (fun hc6 => ?_) (fun hc6 => ?_)
  · replace h := ifT hc6 h
    refine z_iconst dX8_sortOf_54 ?_
    obtain rfl := someE h
    exact z_iret dX8_sortOf_55 hE (inRd (x := 3) (by decide)) rfl
  replace h := ifF hc6 h
  refine z_iload_n dX8_sortOf_46 rfl ?_
  refine z_bipush dX8_sortOf_47 (by decide +kernel) ?_
  refine z_icmp_gt (tgt := 54) dX8_sortOf_49 (by decide) hx0 (inRd (x := 57) (by decide)) (fun hc7 => ?_) (fun hc7 => ?_)
  · replace h := ifT hc7 h
    refine z_iconst dX8_sortOf_54 ?_
    obtain rfl := someE h
    exact z_iret dX8_sortOf_55 hE (inRd (x := 3) (by decide)) rfl
  replace h := ifF hc7 h
  refine z_iconst dX8_sortOf_52 ?_
  obtain rfl := someE h
  exact z_iret dX8_sortOf_53 hE (inRd (x := 2) (by decide)) rfl
set_option maxHeartbeats 1000000 in
theorem s_K_sortOf {l : Launch} {g : GX} {z : Nat} {G : Nat → Nat → Nat} {F : Nat} (hz : 295 ≤ z) (hG : lyX G) {x0 : Int} {I J : Nat → Nat → Int} (hx0 : inR x0) {res : Int} (h : f_K_sortOf F x0 I = some res) : Spec l g 0 yX8_sortOf cX8_sortOf 1 (some .int) [vI x0] (z, I, J, G) (some (vI res)) (inR res) (z, I, J, G) := by
  refine spec_of (μ := mu_K_sortOf) (k := 0) (L0 := [some (vI x0)]) rfl mw_K_sortOf rfl rfl (Nat.le_refl _) (fun φ hb hE => ?_)
  refine z_iload_n dX8_sortOf_0 rfl ?_
  refine z_bipush dX8_sortOf_1 (by decide +kernel) ?_
  refine z_icmp_eq (tgt := 24) dX8_sortOf_3 (by decide) hx0 (inRd (x := 9) (by decide)) (fun hc1 => ?_) (fun hc1 => ?_)
  · replace h := ifT hc1 h
    refine z_iconst dX8_sortOf_24 ?_
    obtain rfl := someE h
    exact z_iret dX8_sortOf_25 hE (inRd (x := 0) (by decide)) rfl
  replace h := ifF hc1 h
  refine z_iload_n dX8_sortOf_6 rfl ?_
  refine z_bipush dX8_sortOf_7 (by decide +kernel) ?_
  refine z_icmp_eq (tgt := 24) dX8_sortOf_9 (by decide) hx0 (inRd (x := 10) (by decide)) (fun hc2 => ?_) (fun hc2 => ?_)
  · replace h := ifT hc2 h
    refine z_iconst dX8_sortOf_24 ?_
    obtain rfl := someE h
    exact z_iret dX8_sortOf_25 hE (inRd (x := 0) (by decide)) rfl
  replace h := ifF hc2 h
  refine z_iload_n dX8_sortOf_12 rfl ?_
  refine z_bipush dX8_sortOf_13 (by decide +kernel) ?_
  refine z_icmp_eq (tgt := 24) dX8_sortOf_15 (by decide) hx0 (inRd (x := 13) (by decide)) (fun hc3 => ?_) (fun hc3 => ?_)
  · replace h := ifT hc3 h
    refine z_iconst dX8_sortOf_24 ?_
    obtain rfl := someE h
    exact z_iret dX8_sortOf_25 hE (inRd (x := 0) (by decide)) rfl
  replace h := ifF hc3 h
  refine z_iload_n dX8_sortOf_18 rfl ?_
  refine z_bipush dX8_sortOf_19 (by decide +kernel) ?_
  refine z_icmp_ne (tgt := 26) dX8_sortOf_21 (by decide) hx0 (inRd (x := 32) (by decide)) (fun hc4 => ?_) (fun hc4 => ?_)
  · replace h := ifT hc4 h
    refine z_iload_n dX8_sortOf_26 rfl ?_
    refine z_bipush dX8_sortOf_27 (by decide +kernel) ?_
    refine z_icmp_lt (tgt := 40) dX8_sortOf_29 (by decide) hx0 (inRd (x := 97) (by decide)) (fun hc5 => ?_) (fun hc5 => ?_)
    · replace h := ifT hc5 h
      exact t_K_sortOf_b40 hb hz hG hx0 h hE
    replace h := ifF hc5 h
    refine z_iload_n dX8_sortOf_32 rfl ?_
    refine z_bipush dX8_sortOf_33 (by decide +kernel) ?_
    refine z_icmp_gt (tgt := 40) dX8_sortOf_35 (by decide) hx0 (inRd (x := 122) (by decide)) (fun hc8 => ?_) (fun hc8 => ?_)
    · replace h := ifT hc8 h
      exact t_K_sortOf_b40 hb hz hG hx0 h hE
    replace h := ifF hc8 h
    refine z_iconst dX8_sortOf_38 ?_
    obtain rfl := someE h
    exact z_iret dX8_sortOf_39 hE (inRd (x := 1) (by decide)) rfl
  replace h := ifF (fun q => q hc4) h
  refine z_iconst dX8_sortOf_24 ?_
  obtain rfl := someE h
  exact z_iret dX8_sortOf_25 hE (inRd (x := 0) (by decide)) rfl
set_option maxHeartbeats 1000000 in
theorem t_K_skip_L2 {l : Launch} {g : GX} {φ : CX} {z : Nat} {G : Nat → Nat → Nat} {F : Nat} (hb : cb φ = z) (hz : 295 ≤ z) (hG : lyX G) {x2 : Int} {x3 : Int} {I J : Nat → Nat → Int} (hx2 : inR x2) (hx3 : inR x3) {res : (Int) ⊕ (Int)} (h : f_K_skip_L2 F x2 x3 I = some res) (kE : ∀ e : Int, res = .inl e → ((inR e) → Zt l g φ mu_K_skip 28 [none, none, none, some (vI e)] [] (z, I, J, G))) (kS : ∀ s : Int, res = .inr s → (inR s) → Zt l g φ mu_K_skip 2 [some (vR g 2), none, some (vI x2), some (vI s)] [] (z, I, J, G)) : Zt l g φ mu_K_skip 2 [some (vR g 2), none, some (vI x2), some (vI x3)] [] (z, I, J, G) := by
  refine z_iload_n dX8_skip_2 rfl ?_
  refine z_aload_n dX8_skip_3 rfl ?_
  refine z_nm (fun hN1 => ?_)
  refine y_getNI (host := "FarewellStones") dX8_skip_4 cl7 sh_2 (by decide) (Nat.le_trans (by decide) hz) 1 rfl rfl (flN_K_28) ?_
  refine z_icmp_ge (tgt := 28) dX8_skip_7 (by decide) hx3 (hN1.1 2 1) (fun hc2 => ?_) (fun hc2 => ?_)
  · replace h := ifT hc2 h
    refine z_weak (L' := [none, none, none, some (vI x3)]) (lsN (lsN (lsN (lsS ls0)))) ?_
    exact kE _ (someE h).symm hx3
  replace h := ifF hc2 h
  refine z_aload_n dX8_skip_10 rfl ?_
  refine z_iload_n dX8_skip_11 rfl ?_
  obtain ⟨q3, hq4, h⟩ := bindE h
  refine z_callV (As := [vI x3]) (rest := []) (s_T_byteAt hz hG hx3 hq4) dX8_skip_12 mw_T_byteAt cl7 sh_2 (by decide) (Nat.le_trans (by decide) hz) ml_K_48 im_T_byteAt se_T_byteAt rfl rfl rfl rfl (Nat.le_refl _) (Nat.le_of_eq hb.symm) (fun hp5 => ?_)
  show Zt _ _ _ _ 15 _ [vI q3] (z, I, J, G)
  obtain ⟨q6, hq7, h⟩ := bindE h
  refine z_callS (As := [vI q3]) (rest := []) (s_K_sortOf hz hG hp5 hq7) dX8_skip_15 mw_K_sortOf ml_K_52 st_K_sortOf rfl rfl rfl rfl (Nat.le_refl _) (Nat.le_of_eq hb.symm) (fun hp8 => ?_)
  show Zt _ _ _ _ 18 _ [vI q6] (z, I, J, G)
  refine z_iload_n dX8_skip_18 rfl ?_
  refine z_icmp_ne (tgt := 28) dX8_skip_19 (by decide) hp8 hx2 (fun hc9 => ?_) (fun hc9 => ?_)
  · replace h := ifT hc9 h
    refine z_weak (L' := [none, none, none, some (vI x3)]) (lsN (lsN (lsN (lsS ls0)))) ?_
    exact kE _ (someE h).symm hx3
  replace h := ifF (fun q => q hc9) h
  refine z_iinc (L' := [some (vR g 2), none, some (vI x2), some (vI (w32 (x3 + 1)))]) dX8_skip_22 rfl rfl rfl rfl ?_
  refine z_goto (tgt := 2) dX8_skip_25 (by decide) ?_
  exact kS _ (someE h).symm (inR_w32 _)
theorem l_K_skip_L2 {l : Launch} {g : GX} {φ : CX} {z : Nat} {G : Nat → Nat → Nat} {F : Nat} (hb : cb φ = z) (hz : 295 ≤ z) (hG : lyX G) {x2 : Int} {I : Nat → Nat → Int} {J : Nat → Nat → Int} (hx2 : inR x2) (n : Nat) (s : Int) (e : Int) (h : iter (fun s : Int => f_K_skip_L2 F x2 s I) n s = some e) (hs : inR s) (k : ((inR e) → Zt l g φ mu_K_skip 28 [none, none, none, some (vI e)] [] (z, I, J, G))) : Zt l g φ mu_K_skip 2 [some (vR g 2), none, some (vI x2), some (vI s)] [] (z, I, J, G) := by
  refine iter_ind (Z := fun s : Int => Zt l g φ mu_K_skip 2 [some (vR g 2), none, some (vI x2), some (vI s)] [] (z, I, J, G)) (ZE := fun e : Int => ((inR e) → Zt l g φ mu_K_skip 28 [none, none, none, some (vI e)] [] (z, I, J, G))) (Rg := fun s : Int => inR s) ?_ n s e h hs k
  intro s r hr hst kE kS
  exact t_K_skip_L2 hb hz hG hx2 hr hst kE kS
set_option maxHeartbeats 1000000 in
theorem s_K_skip {l : Launch} {g : GX} {z : Nat} {G : Nat → Nat → Nat} {F : Nat} (hz : 295 ≤ z) (hG : lyX G) {x1 : Int} {x2 : Int} {I J : Nat → Nat → Int} (hx1 : inR x1) (hx2 : inR x2) {res : Int} (h : f_K_skip F x1 x2 I = some res) : Spec l g 1 yX8_skip cX8_skip 4 (some .int) [vR g 2, vI x1, vI x2] (z, I, J, G) (some (vI res)) (inR res) (z, I, J, G) := by
  refine spec_of (μ := mu_K_skip) (k := 1) (L0 := [some (vR g 2), some (vI x1), some (vI x2), none]) rfl mw_K_skip rfl rfl (Nat.le_refl _) (fun φ hb hE => ?_)
  refine z_iload_n dX8_skip_0 rfl ?_
  refine z_istore_n (L' := [some (vR g 2), some (vI x1), some (vI x2), some (vI x1)]) dX8_skip_1 rfl rfl rfl ?_
  refine z_weak (L' := [some (vR g 2), none, some (vI x2), some (vI x1)]) (lsS (lsN (lsS (lsS ls0)))) ?_
  obtain ⟨e10, h11, h⟩ := bindE h
  refine l_K_skip_L2 hb hz hG hx2 _ _ _ h11 hx1 ?_
  refine fun h12 => ?_
  refine z_iload_n dX8_skip_28 rfl ?_
  obtain rfl := someE h
  exact z_iret dX8_skip_29 hE h12 rfl
set_option maxHeartbeats 1000000 in
theorem s_K_endOfToken {l : Launch} {g : GX} {z : Nat} {G : Nat → Nat → Nat} {F : Nat} (hz : 295 ≤ z) (hG : lyX G) {x1 : Int} {I J : Nat → Nat → Int} (hx1 : inR x1) {res : Int} (h : f_K_endOfToken F x1 I = some res) : Spec l g 2 yX8_endOfToken cX8_endOfToken 3 (some .int) [vR g 2, vI x1] (z, I, J, G) (some (vI res)) (inR res) (z, I, J, G) := by
  refine spec_of (μ := mu_K_endOfToken) (k := 1) (L0 := [some (vR g 2), some (vI x1), none]) rfl mw_K_endOfToken rfl rfl (Nat.le_refl _) (fun φ hb hE => ?_)
  refine z_aload_n dX8_endOfToken_0 rfl ?_
  refine z_iload_n dX8_endOfToken_1 rfl ?_
  obtain ⟨q1, hq2, h⟩ := bindE h
  refine z_callV (As := [vI x1]) (rest := []) (s_T_byteAt hz hG hx1 hq2) dX8_endOfToken_2 mw_T_byteAt cl7 sh_2 (by decide) (Nat.le_trans (by decide) hz) ml_K_48 im_T_byteAt se_T_byteAt rfl rfl rfl rfl (Nat.le_refl _) (Nat.le_of_eq hb.symm) (fun hp3 => ?_)
  show Zt _ _ _ _ 5 _ [vI q1] (z, I, J, G)
  obtain ⟨q4, hq5, h⟩ := bindE h
  refine z_callS (As := [vI q1]) (rest := []) (s_K_sortOf hz hG hp3 hq5) dX8_endOfToken_5 mw_K_sortOf ml_K_52 st_K_sortOf rfl rfl rfl rfl (Nat.le_refl _) (Nat.le_of_eq hb.symm) (fun hp6 => ?_)
  show Zt _ _ _ _ 8 _ [vI q4] (z, I, J, G)
  refine z_istore_n (L' := [some (vR g 2), some (vI x1), some (vI q4)]) dX8_endOfToken_8 rfl rfl rfl ?_
  refine z_iload_n dX8_endOfToken_9 rfl ?_
  refine z_iconst dX8_endOfToken_10 ?_
  refine z_icmp_ne (tgt := 20) dX8_endOfToken_11 (by decide) hp6 (inRd (x := 3) (by decide)) (fun hc7 => ?_) (fun hc7 => ?_)
  · replace h := ifT hc7 h
    refine z_aload_n dX8_endOfToken_20 rfl ?_
    refine z_iload_n dX8_endOfToken_21 rfl ?_
    refine z_iload_n dX8_endOfToken_22 rfl ?_
    obtain ⟨q8, hq9, h⟩ := bindE h
    refine z_callS (As := [vR g 2, vI x1, vI q4]) (rest := []) (s_K_skip hz hG hx1 hp6 hq9) dX8_endOfToken_23 mw_K_skip ml_K_24 st_K_skip rfl rfl rfl rfl (Nat.le_refl _) (Nat.le_of_eq hb.symm) (fun hp10 => ?_)
    show Zt _ _ _ _ 26 _ [vI q8] (z, I, J, G)
    obtain rfl := someE h
    exact z_iret dX8_endOfToken_26 hE hp10 rfl
  replace h := ifF (fun q => q hc7) h
  refine z_iload_n dX8_endOfToken_14 rfl ?_
  refine z_iconst dX8_endOfToken_15 ?_
  refine z_iadd dX8_endOfToken_16 ?_
  refine z_goto (tgt := 26) dX8_endOfToken_17 (by decide) ?_
  obtain rfl := someE h
  exact z_iret dX8_endOfToken_26 hE (inR_w32 _) rfl
set_option maxHeartbeats 1000000 in
theorem t_K_spells_b37in11 {l : Launch} {g : GX} {φ : CX} {z : Nat} {G : Nat → Nat → Nat} {F : Nat} (hb : cb φ = z) (hz : 295 ≤ z) (hG : lyX G) {x1 : Int} {x2 : Int} {x3 : Int} {x4 : Int} {s0 : Int} {I J : Nat → Nat → Int} (hx1 : inR x1) (hx2 : inR x2) (hx3 : inR x3) (hx4 : inR x4) (hs0 : inR s0) {res : ((Unit) ⊕ (Unit)) ⊕ (Int)} (h : f_K_spells_b37in11 F x1 x2 x3 x4 s0 I = some res) (kE : ∀ e : (Unit) ⊕ (Unit), res = .inl e → ((fun w : (Unit) ⊕ (Unit) => (match w with | .inl e0 => ((True) → Zt l g φ mu_K_spells 56 [none, none, none, none, none, none] [] (z, I, J, G)) | .inr o0 => ((True) → Zt l g φ mu_K_spells 64 [none, none, none, none, none, none] [] (z, I, J, G)))) e)) (kS : ∀ s : Int, res = .inr s → (inR s) → Zt l g φ mu_K_spells 11 [some (vR g 2), some (vI x1), some (vI x2), some (vI x3), some (vI s), none] [] (z, I, J, G)) : Zt l g φ mu_K_spells 37 [some (vR g 2), some (vI x1), some (vI x2), some (vI x3), some (vI x4), none] [vI s0] (z, I, J, G) := by
  refine z_istore (L' := [some (vR g 2), some (vI x1), some (vI x2), some (vI x3), some (vI x4), some (vI s0)]) dX8_spells_37 rfl rfl rfl ?_
  refine z_iload dX8_spells_39 rfl ?_
  refine z_ldcS2 dX8_spells_41 rfl ?_
  refine z_iload_n dX8_spells_43 rfl ?_
  refine z_bipush dX8_spells_44 (by decide +kernel) ?_
  refine z_imul dX8_spells_46 ?_
  refine z_iload dX8_spells_47 rfl ?_
  refine z_iadd dX8_spells_49 ?_
  obtain ⟨hg4, h⟩ := guardE h
  refine z_callStr 0 (by decide) (As := [vI (w32 ((w32 (x3 * 6)) + x4))]) (rest := [vI s0]) (s_charAt (inR_w32 _) hg4) dX8_spells_50 mw_charAt rfl (tin3 2 (by decide +kernel) rfl) im_charAt se_charAt rfl rfl rfl rfl (Nat.le_refl _) (Nat.le_of_eq hb.symm) (fun hq5 => ?_)
  show Zt _ _ _ _ 53 _ [vI (chW (w32 ((w32 (x3 * 6)) + x4))), vI s0] (z, I, J, G)
  refine z_icmp_eq (tgt := 58) dX8_spells_53 (by decide) hs0 hq5 (fun hc6 => ?_) (fun hc6 => ?_)
  · replace h := ifT hc6 h
    refine z_iinc (L' := [some (vR g 2), some (vI x1), some (vI x2), some (vI x3), some (vI (w32 (x4 + 1))), some (vI s0)]) dX8_spells_58 rfl rfl rfl rfl ?_
    refine z_goto (tgt := 11) dX8_spells_61 (by decide) ?_
    refine z_weak (L' := [some (vR g 2), some (vI x1), some (vI x2), some (vI x3), some (vI (w32 (x4 + 1))), none]) (lsS (lsS (lsS (lsS (lsS (lsN ls0)))))) ?_
    exact kS _ (someE h).symm (inR_w32 _)
  replace h := ifF hc6 h
  refine z_weak (L' := [none, none, none, none, none, none]) (lsN (lsN (lsN (lsN (lsN (lsN ls0)))))) ?_
  exact kE _ (someE h).symm trivial
set_option maxHeartbeats 1000000 in
theorem t_K_spells_L11 {l : Launch} {g : GX} {φ : CX} {z : Nat} {G : Nat → Nat → Nat} {F : Nat} (hb : cb φ = z) (hz : 295 ≤ z) (hG : lyX G) {x1 : Int} {x2 : Int} {x3 : Int} {x4 : Int} {I J : Nat → Nat → Int} (hx1 : inR x1) (hx2 : inR x2) (hx3 : inR x3) (hx4 : inR x4) {res : ((Unit) ⊕ (Unit)) ⊕ (Int)} (h : f_K_spells_L11 F x1 x2 x3 x4 I = some res) (kE : ∀ e : (Unit) ⊕ (Unit), res = .inl e → ((fun w : (Unit) ⊕ (Unit) => (match w with | .inl e0 => ((True) → Zt l g φ mu_K_spells 56 [none, none, none, none, none, none] [] (z, I, J, G)) | .inr o0 => ((True) → Zt l g φ mu_K_spells 64 [none, none, none, none, none, none] [] (z, I, J, G)))) e)) (kS : ∀ s : Int, res = .inr s → (inR s) → Zt l g φ mu_K_spells 11 [some (vR g 2), some (vI x1), some (vI x2), some (vI x3), some (vI s), none] [] (z, I, J, G)) : Zt l g φ mu_K_spells 11 [some (vR g 2), some (vI x1), some (vI x2), some (vI x3), some (vI x4), none] [] (z, I, J, G) := by
  refine z_iload dX8_spells_11 rfl ?_
  refine z_bipush dX8_spells_13 (by decide +kernel) ?_
  refine z_icmp_ge (tgt := 64) dX8_spells_15 (by decide) hx4 (inRd (x := 6) (by decide)) (fun hc2 => ?_) (fun hc2 => ?_)
  · replace h := ifT hc2 h
    refine z_weak (L' := [none, none, none, none, none, none]) (lsN (lsN (lsN (lsN (lsN (lsN ls0)))))) ?_
    exact kE _ (someE h).symm trivial
  replace h := ifF hc2 h
  refine z_iload dX8_spells_18 rfl ?_
  refine z_iload_n dX8_spells_20 rfl ?_
  refine z_icmp_ge (tgt := 35) dX8_spells_21 (by decide) hx4 hx2 (fun hc3 => ?_) (fun hc3 => ?_)
  · replace h := ifT hc3 h
    refine z_bipush dX8_spells_35 (by decide +kernel) ?_
    exact t_K_spells_b37in11 hb hz hG hx1 hx2 hx3 hx4 (inRd (x := 32) (by decide)) h kE kS
  replace h := ifF hc3 h
  refine z_aload_n dX8_spells_24 rfl ?_
  refine z_iload_n dX8_spells_25 rfl ?_
  refine z_iload dX8_spells_26 rfl ?_
  refine z_iadd dX8_spells_28 ?_
  obtain ⟨q7, hq8, h⟩ := bindE h
  refine z_callV (As := [vI (w32 (x1 + x4))]) (rest := []) (s_T_byteAt hz hG (inR_w32 _) hq8) dX8_spells_29 mw_T_byteAt cl7 sh_2 (by decide) (Nat.le_trans (by decide) hz) ml_K_48 im_T_byteAt se_T_byteAt rfl rfl rfl rfl (Nat.le_refl _) (Nat.le_of_eq hb.symm) (fun hp9 => ?_)
  show Zt _ _ _ _ 32 _ [vI q7] (z, I, J, G)
  refine z_goto (tgt := 37) dX8_spells_32 (by decide) ?_
  exact t_K_spells_b37in11 hb hz hG hx1 hx2 hx3 hx4 hp9 h kE kS
theorem l_K_spells_L11 {l : Launch} {g : GX} {φ : CX} {z : Nat} {G : Nat → Nat → Nat} {F : Nat} (hb : cb φ = z) (hz : 295 ≤ z) (hG : lyX G) {x1 : Int} {x2 : Int} {x3 : Int} {I : Nat → Nat → Int} {J : Nat → Nat → Int} (hx1 : inR x1) (hx2 : inR x2) (hx3 : inR x3) (n : Nat) (s : Int) (e : (Unit) ⊕ (Unit)) (h : iter (fun s : Int => f_K_spells_L11 F x1 x2 x3 s I) n s = some e) (hs : inR s) (k : ((fun w : (Unit) ⊕ (Unit) => (match w with | .inl e0 => ((True) → Zt l g φ mu_K_spells 56 [none, none, none, none, none, none] [] (z, I, J, G)) | .inr o0 => ((True) → Zt l g φ mu_K_spells 64 [none, none, none, none, none, none] [] (z, I, J, G)))) e)) : Zt l g φ mu_K_spells 11 [some (vR g 2), some (vI x1), some (vI x2), some (vI x3), some (vI s), none] [] (z, I, J, G) := by
  refine iter_ind (Z := fun s : Int => Zt l g φ mu_K_spells 11 [some (vR g 2), some (vI x1), some (vI x2), some (vI x3), some (vI s), none] [] (z, I, J, G)) (ZE := fun e : (Unit) ⊕ (Unit) => ((fun w : (Unit) ⊕ (Unit) => (match w with | .inl e0 => ((True) → Zt l g φ mu_K_spells 56 [none, none, none, none, none, none] [] (z, I, J, G)) | .inr o0 => ((True) → Zt l g φ mu_K_spells 64 [none, none, none, none, none, none] [] (z, I, J, G)))) e)) (Rg := fun s : Int => inR s) ?_ n s e h hs k
  intro s r hr hst kE kS
  exact t_K_spells_L11 hb hz hG hx1 hx2 hx3 hr hst kE kS
set_option maxHeartbeats 1000000 in
theorem s_K_spells {l : Launch} {g : GX} {z : Nat} {G : Nat → Nat → Nat} {F : Nat} (hz : 295 ≤ z) (hG : lyX G) {x1 : Int} {x2 : Int} {x3 : Int} {I J : Nat → Nat → Int} (hx1 : inR x1) (hx2 : inR x2) (hx3 : inR x3) {res : Int} (h : f_K_spells F x1 x2 x3 I = some res) : Spec l g 14 yX8_spells cX8_spells 6 (some .boolean) [vR g 2, vI x1, vI x2, vI x3] (z, I, J, G) (some (vI res)) (res = 0 ∨ res = 1) (z, I, J, G) := by
  refine spec_of (μ := mu_K_spells) (k := 2) (L0 := [some (vR g 2), some (vI x1), some (vI x2), some (vI x3), none, none]) rfl mw_K_spells rfl rfl (Nat.le_refl _) (fun φ hb hE => ?_)
  refine z_iload_n dX8_spells_0 rfl ?_
  refine z_bipush dX8_spells_1 (by decide +kernel) ?_
  refine z_icmp_le (tgt := 8) dX8_spells_3 (by decide) hx2 (inRd (x := 6) (by decide)) (fun hc1 => ?_) (fun hc1 => ?_)
  · replace h := ifT hc1 h
    refine z_iconst dX8_spells_8 ?_
    refine z_istore (L' := [some (vR g 2), some (vI x1), some (vI x2), some (vI x3), some (vI 0), none]) dX8_spells_9 rfl rfl rfl ?_
    obtain ⟨e10, h11, h⟩ := bindE h
    rcases e10 with e12 | o13
    · refine l_K_spells_L11 hb hz hG hx1 hx2 hx3 _ _ _ h11 (inRd (x := 0) (by decide)) ?_
      refine fun h14 => ?_
      refine z_iconst dX8_spells_56 ?_
      obtain rfl := someE h
      exact z_zret dX8_spells_57 hE b01_0 b01_0 rfl
    refine l_K_spells_L11 hb hz hG hx1 hx2 hx3 _ _ _ h11 (inRd (x := 0) (by decide)) ?_
    refine fun h15 => ?_
    refine z_iconst dX8_spells_64 ?_
    obtain rfl := someE h
    exact z_zret dX8_spells_65 hE b01_1 b01_1 rfl
  replace h := ifF hc1 h
  refine z_iconst dX8_spells_6 ?_
  obtain rfl := someE h
  exact z_zret dX8_spells_7 hE b01_0 b01_0 rfl
set_option maxHeartbeats 1000000 in
theorem t_K_wordKind_L2 {l : Launch} {g : GX} {φ : CX} {z : Nat} {G : Nat → Nat → Nat} {F : Nat} (hb : cb φ = z) (hz : 295 ≤ z) (hG : lyX G) {x1 : Int} {x2 : Int} {x3 : Int} {I J : Nat → Nat → Int} (hx1 : inR x1) (hx2 : inR x2) (hx3 : inR x3) {res : ((Int) ⊕ (Unit)) ⊕ (Int)} (h : f_K_wordKind_L2 F x1 x2 x3 I = some res) (kE : ∀ e : (Int) ⊕ (Unit), res = .inl e → ((fun w : (Int) ⊕ (Unit) => (match w with | .inl e0 => ((inR e0) → Zt l g φ mu_K_wordKind 18 [none, none, none, some (vI e0)] [] (z, I, J, G)) | .inr o0 => ((True) → Zt l g φ mu_K_wordKind 30 [none, none, some (vI x2), none] [] (z, I, J, G)))) e)) (kS : ∀ s : Int, res = .inr s → (inR s) → Zt l g φ mu_K_wordKind 2 [some (vR g 2), some (vI x1), some (vI x2), some (vI s)] [] (z, I, J, G)) : Zt l g φ mu_K_wordKind 2 [some (vR g 2), some (vI x1), some (vI x2), some (vI x3)] [] (z, I, J, G) := by
  refine z_iload_n dX8_wordKind_2 rfl ?_
  refine z_bipush dX8_wordKind_3 (by decide +kernel) ?_
  refine z_icmp_ge (tgt := 30) dX8_wordKind_5 (by decide) hx3 (inRd (x := 17) (by decide)) (fun hc1 => ?_) (fun hc1 => ?_)
  · replace h := ifT hc1 h
    refine z_weak (L' := [none, none, some (vI x2), none]) (lsN (lsN (lsS (lsN ls0)))) ?_
    exact kE _ (someE h).symm trivial
  replace h := ifF hc1 h
  refine z_aload_n dX8_wordKind_8 rfl ?_
  refine z_iload_n dX8_wordKind_9 rfl ?_
  refine z_iload_n dX8_wordKind_10 rfl ?_
  refine z_iload_n dX8_wordKind_11 rfl ?_
  obtain ⟨q2, hq3, h⟩ := bindE h
  refine z_callS (As := [vR g 2, vI x1, vI x2, vI x3]) (rest := []) (s_K_spells hz hG hx1 hx2 hx3 hq3) dX8_wordKind_12 mw_K_spells ml_K_65 st_K_spells rfl rfl rfl rfl (Nat.le_refl _) (Nat.le_of_eq hb.symm) (fun hp4 => ?_)
  show Zt _ _ _ _ 15 _ [vI q2] (z, I, J, G)
  refine z_if_eq (tgt := 24) dX8_wordKind_15 (by decide) (inR_bool hp4) (fun hc5 => ?_) (fun hc5 => ?_)
  · replace h := ifT hc5 h
    refine z_iinc (L' := [some (vR g 2), some (vI x1), some (vI x2), some (vI (w32 (x3 + 1)))]) dX8_wordKind_24 rfl rfl rfl rfl ?_
    refine z_goto (tgt := 2) dX8_wordKind_27 (by decide) ?_
    exact kS _ (someE h).symm (inR_w32 _)
  replace h := ifF hc5 h
  refine z_weak (L' := [none, none, none, some (vI x3)]) (lsN (lsN (lsN (lsS ls0)))) ?_
  exact kE _ (someE h).symm hx3
theorem l_K_wordKind_L2 {l : Launch} {g : GX} {φ : CX} {z : Nat} {G : Nat → Nat → Nat} {F : Nat} (hb : cb φ = z) (hz : 295 ≤ z) (hG : lyX G) {x1 : Int} {x2 : Int} {I : Nat → Nat → Int} {J : Nat → Nat → Int} (hx1 : inR x1) (hx2 : inR x2) (n : Nat) (s : Int) (e : (Int) ⊕ (Unit)) (h : iter (fun s : Int => f_K_wordKind_L2 F x1 x2 s I) n s = some e) (hs : inR s) (k : ((fun w : (Int) ⊕ (Unit) => (match w with | .inl e0 => ((inR e0) → Zt l g φ mu_K_wordKind 18 [none, none, none, some (vI e0)] [] (z, I, J, G)) | .inr o0 => ((True) → Zt l g φ mu_K_wordKind 30 [none, none, some (vI x2), none] [] (z, I, J, G)))) e)) : Zt l g φ mu_K_wordKind 2 [some (vR g 2), some (vI x1), some (vI x2), some (vI s)] [] (z, I, J, G) := by
  refine iter_ind (Z := fun s : Int => Zt l g φ mu_K_wordKind 2 [some (vR g 2), some (vI x1), some (vI x2), some (vI s)] [] (z, I, J, G)) (ZE := fun e : (Int) ⊕ (Unit) => ((fun w : (Int) ⊕ (Unit) => (match w with | .inl e0 => ((inR e0) → Zt l g φ mu_K_wordKind 18 [none, none, none, some (vI e0)] [] (z, I, J, G)) | .inr o0 => ((True) → Zt l g φ mu_K_wordKind 30 [none, none, some (vI x2), none] [] (z, I, J, G)))) e)) (Rg := fun s : Int => inR s) ?_ n s e h hs k
  intro s r hr hst kE kS
  exact t_K_wordKind_L2 hb hz hG hx1 hx2 hr hst kE kS
set_option maxHeartbeats 1000000 in
theorem s_K_wordKind {l : Launch} {g : GX} {z : Nat} {G : Nat → Nat → Nat} {F : Nat} (hz : 295 ≤ z) (hG : lyX G) {x1 : Int} {x2 : Int} {I J : Nat → Nat → Int} (hx1 : inR x1) (hx2 : inR x2) {res : Int} (h : f_K_wordKind F x1 x2 I = some res) : Spec l g 15 yX8_wordKind cX8_wordKind 4 (some .int) [vR g 2, vI x1, vI x2] (z, I, J, G) (some (vI res)) (inR res) (z, I, J, G) := by
  refine spec_of (μ := mu_K_wordKind) (k := 1) (L0 := [some (vR g 2), some (vI x1), some (vI x2), none]) rfl mw_K_wordKind rfl rfl (Nat.le_refl _) (fun φ hb hE => ?_)
  refine z_iconst dX8_wordKind_0 ?_
  refine z_istore_n (L' := [some (vR g 2), some (vI x1), some (vI x2), some (vI 0)]) dX8_wordKind_1 rfl rfl rfl ?_
  obtain ⟨e6, h7, h⟩ := bindE h
  rcases e6 with e8 | o9
  · refine l_K_wordKind_L2 hb hz hG hx1 hx2 _ _ _ h7 (inRd (x := 0) (by decide)) ?_
    refine fun h10 => ?_
    refine z_sipush dX8_wordKind_18 (by decide +kernel) ?_
    refine z_iload_n dX8_wordKind_21 rfl ?_
    refine z_iadd dX8_wordKind_22 ?_
    obtain rfl := someE h
    exact z_iret dX8_wordKind_23 hE (inR_w32 _) rfl
  refine l_K_wordKind_L2 hb hz hG hx1 hx2 _ _ _ h7 (inRd (x := 0) (by decide)) ?_
  refine fun h11 => ?_
  refine z_iload_n dX8_wordKind_30 rfl ?_
  refine z_bipush dX8_wordKind_31 (by decide +kernel) ?_
  refine z_icmp_le (tgt := 42) dX8_wordKind_33 (by decide) hx2 (inRd (x := 8) (by decide)) (fun hc12 => ?_) (fun hc12 => ?_)
  · replace h := ifT hc12 h
    refine z_sipush dX8_wordKind_42 (by decide +kernel) ?_
    obtain rfl := someE h
    exact z_iret dX8_wordKind_45 hE (inRd (x := 300) (by decide)) rfl
  replace h := ifF hc12 h
  refine z_sipush dX8_wordKind_36 (by decide +kernel) ?_
  refine z_goto (tgt := 45) dX8_wordKind_39 (by decide) ?_
  obtain rfl := someE h
  exact z_iret dX8_wordKind_45 hE (inRd (x := 303) (by decide)) rfl
set_option maxHeartbeats 1000000 in
theorem s_K_kindOf {l : Launch} {g : GX} {z : Nat} {G : Nat → Nat → Nat} {F : Nat} (hz : 295 ≤ z) (hG : lyX G) {x1 : Int} {x2 : Int} {I J : Nat → Nat → Int} (hx1 : inR x1) (hx2 : inR x2) {res : Int} (h : f_K_kindOf F x1 x2 I = some res) : Spec l g 16 yX8_kindOf cX8_kindOf 4 (some .int) [vR g 2, vI x1, vI x2] (z, I, J, G) (some (vI res)) (inR res) (z, I, J, G) := by
  refine spec_of (μ := mu_K_kindOf) (k := 1) (L0 := [some (vR g 2), some (vI x1), some (vI x2), none]) rfl mw_K_kindOf rfl rfl (Nat.le_refl _) (fun φ hb hE => ?_)
  refine z_aload_n dX8_kindOf_0 rfl ?_
  refine z_iload_n dX8_kindOf_1 rfl ?_
  obtain ⟨q1, hq2, h⟩ := bindE h
  refine z_callV (As := [vI x1]) (rest := []) (s_T_byteAt hz hG hx1 hq2) dX8_kindOf_2 mw_T_byteAt cl7 sh_2 (by decide) (Nat.le_trans (by decide) hz) ml_K_48 im_T_byteAt se_T_byteAt rfl rfl rfl rfl (Nat.le_refl _) (Nat.le_of_eq hb.symm) (fun hp3 => ?_)
  show Zt _ _ _ _ 5 _ [vI q1] (z, I, J, G)
  refine z_istore_n (L' := [some (vR g 2), some (vI x1), some (vI x2), some (vI q1)]) dX8_kindOf_5 rfl rfl rfl ?_
  refine z_iload_n dX8_kindOf_6 rfl ?_
  obtain ⟨q4, hq5, h⟩ := bindE h
  refine z_callS (As := [vI q1]) (rest := []) (s_K_sortOf hz hG hp3 hq5) dX8_kindOf_7 mw_K_sortOf ml_K_52 st_K_sortOf rfl rfl rfl rfl (Nat.le_refl _) (Nat.le_of_eq hb.symm) (fun hp6 => ?_)
  show Zt _ _ _ _ 10 _ [vI q4] (z, I, J, G)
  by_cases hc7 : q4 = 1
  · replace h := ifT hc7 h
    refine z_look (off := 26) (tgt := 36) dX8_kindOf_10 hp6 (by decide +kernel) (by rw [hc7]; decide +kernel) (by decide) ?_
    refine z_aload_n dX8_kindOf_36 rfl ?_
    refine z_iload_n dX8_kindOf_37 rfl ?_
    refine z_iload_n dX8_kindOf_38 rfl ?_
    refine z_iload_n dX8_kindOf_39 rfl ?_
    refine z_isub dX8_kindOf_40 ?_
    obtain ⟨q8, hq9, h⟩ := bindE h
    refine z_callS (As := [vR g 2, vI x1, vI (w32 (x2 - x1))]) (rest := []) (s_K_wordKind hz hG hx1 (inR_w32 _) hq9) dX8_kindOf_41 mw_K_wordKind ml_K_55 st_K_wordKind rfl rfl rfl rfl (Nat.le_refl _) (Nat.le_of_eq hb.symm) (fun hp10 => ?_)
    show Zt _ _ _ _ 44 _ [vI q8] (z, I, J, G)
    obtain rfl := someE h
    exact z_iret dX8_kindOf_44 hE hp10 rfl
  replace h := ifF hc7 h
  by_cases hc11 : q4 = 2
  · replace h := ifT hc11 h
    refine z_look (off := 35) (tgt := 45) dX8_kindOf_10 hp6 (by decide +kernel) (by rw [hc11]; decide +kernel) (by decide) ?_
    refine z_iload_n dX8_kindOf_45 rfl ?_
    refine z_iload_n dX8_kindOf_46 rfl ?_
    refine z_isub dX8_kindOf_47 ?_
    refine z_iconst dX8_kindOf_48 ?_
    refine z_icmp_le (tgt := 58) dX8_kindOf_49 (by decide) (inR_w32 _) (inRd (x := 4) (by decide)) (fun hc12 => ?_) (fun hc12 => ?_)
    · replace h := ifT hc12 h
      refine z_sipush dX8_kindOf_58 (by decide +kernel) ?_
      obtain rfl := someE h
      exact z_iret dX8_kindOf_61 hE (inRd (x := 301) (by decide)) rfl
    replace h := ifF hc12 h
    refine z_sipush dX8_kindOf_52 (by decide +kernel) ?_
    refine z_goto (tgt := 61) dX8_kindOf_55 (by decide) ?_
    obtain rfl := someE h
    exact z_iret dX8_kindOf_61 hE (inRd (x := 303) (by decide)) rfl
  replace h := ifF hc11 h
  refine z_look (off := 52) (tgt := 62) dX8_kindOf_10 hp6 (by decide +kernel) (by simp [Op.lookupswitch.offset, show ¬ (1 : Int) = q4 from fun q => hc7 q.symm, show ¬ (2 : Int) = q4 from fun q => hc11 q.symm]) (by decide) ?_
  refine z_ldcS3 dX8_kindOf_62 rfl ?_
  refine z_iload_n dX8_kindOf_64 rfl ?_
  refine z_i2c dX8_kindOf_65 ?_
  refine z_callStr 1 (by decide) (As := [vI (c16 q1)]) (rest := []) (s_indexOf inR_c16) dX8_kindOf_66 mw_ix1 rfl (tin3 43 (by decide +kernel) rfl) im_ix1 se_ix1 rfl rfl rfl rfl (Nat.le_refl _) (Nat.le_of_eq hb.symm) (fun hq13 => ?_)
  show Zt _ _ _ _ 69 _ [vI (ixS (c16 q1))] (z, I, J, G)
  refine z_if_lt (tgt := 76) dX8_kindOf_69 (by decide) hq13 (fun hc14 => ?_) (fun hc14 => ?_)
  · replace h := ifT hc14 h
    refine z_sipush dX8_kindOf_76 (by decide +kernel) ?_
    obtain rfl := someE h
    exact z_iret dX8_kindOf_79 hE (inRd (x := 303) (by decide)) rfl
  replace h := ifF hc14 h
  refine z_iload_n dX8_kindOf_72 rfl ?_
  refine z_goto (tgt := 79) dX8_kindOf_73 (by decide) ?_
  obtain rfl := someE h
  exact z_iret dX8_kindOf_79 hE hp3 rfl
set_option maxHeartbeats 1000000 in
theorem t_K_number_L5 {l : Launch} {g : GX} {φ : CX} {z : Nat} {G : Nat → Nat → Nat} {F : Nat} (hb : cb φ = z) (hz : 295 ≤ z) (hG : lyX G) {x2 : Int} {x3 : Int} {x4 : Int} {I J : Nat → Nat → Int} (hx2 : inR x2) (hx3 : inR x3) (hx4 : inR x4) {res : (Int) ⊕ (Int × Int)} (h : f_K_number_L5 F x2 x3 x4 I = some res) (kE : ∀ e : Int, res = .inl e → ((inR e) → Zt l g φ mu_K_number 32 [none, none, none, some (vI e), none] [] (z, I, J, G))) (kS : ∀ s : Int × Int, res = .inr s → (inR s.1 ∧ inR s.2) → Zt l g φ mu_K_number 5 [some (vR g 2), none, some (vI x2), some (vI s.1), some (vI s.2)] [] (z, I, J, G)) : Zt l g φ mu_K_number 5 [some (vR g 2), none, some (vI x2), some (vI x3), some (vI x4)] [] (z, I, J, G) := by
  refine z_iload dX8_number_5 rfl ?_
  refine z_iload_n dX8_number_7 rfl ?_
  refine z_icmp_ge (tgt := 32) dX8_number_8 (by decide) hx4 hx2 (fun hc1 => ?_) (fun hc1 => ?_)
  · replace h := ifT hc1 h
    refine z_weak (L' := [none, none, none, some (vI x3), none]) (lsN (lsN (lsN (lsS (lsN ls0))))) ?_
    exact kE _ (someE h).symm hx3
  replace h := ifF hc1 h
  refine z_iload_n dX8_number_11 rfl ?_
  refine z_bipush dX8_number_12 (by decide +kernel) ?_
  refine z_imul dX8_number_14 ?_
  refine z_aload_n dX8_number_15 rfl ?_
  refine z_iload dX8_number_16 rfl ?_
  obtain ⟨q2, hq3, h⟩ := bindE h
  refine z_callV (As := [vI x4]) (rest := [vI (w32 (x3 * 10))]) (s_T_byteAt hz hG hx4 hq3) dX8_number_18 mw_T_byteAt cl7 sh_2 (by decide) (Nat.le_trans (by decide) hz) ml_K_48 im_T_byteAt se_T_byteAt rfl rfl rfl rfl (Nat.le_refl _) (Nat.le_of_eq hb.symm) (fun hp4 => ?_)
  show Zt _ _ _ _ 21 _ [vI q2, vI (w32 (x3 * 10))] (z, I, J, G)
  refine z_iadd dX8_number_21 ?_
  refine z_bipush dX8_number_22 (by decide +kernel) ?_
  refine z_isub dX8_number_24 ?_
  refine z_istore_n (L' := [some (vR g 2), none, some (vI x2), some (vI (w32 ((w32 ((w32 (x3 * 10)) + q2)) - 48))), some (vI x4)]) dX8_number_25 rfl rfl rfl ?_
  refine z_iinc (L' := [some (vR g 2), none, some (vI x2), some (vI (w32 ((w32 ((w32 (x3 * 10)) + q2)) - 48))), some (vI (w32 (x4 + 1)))]) dX8_number_26 rfl rfl rfl rfl ?_
  refine z_goto (tgt := 5) dX8_number_29 (by decide) ?_
  exact kS _ (someE h).symm ⟨(inR_w32 _), (inR_w32 _)⟩
theorem l_K_number_L5 {l : Launch} {g : GX} {φ : CX} {z : Nat} {G : Nat → Nat → Nat} {F : Nat} (hb : cb φ = z) (hz : 295 ≤ z) (hG : lyX G) {x2 : Int} {I : Nat → Nat → Int} {J : Nat → Nat → Int} (hx2 : inR x2) (n : Nat) (s : Int × Int) (e : Int) (h : iter (fun s : Int × Int => f_K_number_L5 F x2 s.1 s.2 I) n s = some e) (hs : inR s.1 ∧ inR s.2) (k : ((inR e) → Zt l g φ mu_K_number 32 [none, none, none, some (vI e), none] [] (z, I, J, G))) : Zt l g φ mu_K_number 5 [some (vR g 2), none, some (vI x2), some (vI s.1), some (vI s.2)] [] (z, I, J, G) := by
  refine iter_ind (Z := fun s : Int × Int => Zt l g φ mu_K_number 5 [some (vR g 2), none, some (vI x2), some (vI s.1), some (vI s.2)] [] (z, I, J, G)) (ZE := fun e : Int => ((inR e) → Zt l g φ mu_K_number 32 [none, none, none, some (vI e), none] [] (z, I, J, G))) (Rg := fun s : Int × Int => inR s.1 ∧ inR s.2) ?_ n s e h hs k
  intro s r hr hst kE kS
  exact t_K_number_L5 hb hz hG hx2 hr.1 hr.2 hst kE kS
set_option maxHeartbeats 1000000 in
theorem s_K_number {l : Launch} {g : GX} {z : Nat} {G : Nat → Nat → Nat} {F : Nat} (hz : 295 ≤ z) (hG : lyX G) {x1 : Int} {x2 : Int} {I J : Nat → Nat → Int} (hx1 : inR x1) (hx2 : inR x2) {res : Int} (h : f_K_number F x1 x2 I = some res) : Spec l g 1 yX8_number cX8_number 5 (some .int) [vR g 2, vI x1, vI x2] (z, I, J, G) (some (vI res)) (inR res) (z, I, J, G) := by
  refine spec_of (μ := mu_K_number) (k := 2) (L0 := [some (vR g 2), some (vI x1), some (vI x2), none, none]) rfl mw_K_number rfl rfl (Nat.le_refl _) (fun φ hb hE => ?_)
  refine z_iconst dX8_number_0 ?_
  refine z_istore_n (L' := [some (vR g 2), some (vI x1), some (vI x2), some (vI 0), none]) dX8_number_1 rfl rfl rfl ?_
  refine z_iload_n dX8_number_2 rfl ?_
  refine z_istore (L' := [some (vR g 2), some (vI x1), some (vI x2), some (vI 0), some (vI x1)]) dX8_number_3 rfl rfl rfl ?_
  refine z_weak (L' := [some (vR g 2), none, some (vI x2), some (vI 0), some (vI x1)]) (lsS (lsN (lsS (lsS (lsS ls0))))) ?_
  obtain ⟨e5, h6, h⟩ := bindE h
  refine l_K_number_L5 hb hz hG hx2 _ _ _ h6 ⟨(inRd (x := 0) (by decide)), hx1⟩ ?_
  refine fun h7 => ?_
  refine z_iload_n dX8_number_32 rfl ?_
  obtain rfl := someE h
  exact z_iret dX8_number_33 hE h7 rfl
set_option maxHeartbeats 1000000 in
theorem s_K_put {l : Launch} {g : GX} {z : Nat} {G : Nat → Nat → Nat} {F : Nat} (hz : 295 ≤ z) (hG : lyX G) {x1 : Int} {x2 : Int} {x3 : Int} {x4 : Int} {I J : Nat → Nat → Int} (hx1 : inR x1) (hx2 : inR x2) (hx3 : inR x3) (hx4 : inR x4) {res : MI} (h : f_K_put F x1 x2 x3 x4 I = some res) : Spec l g 0 yX8_put cX8_put 5 none [vR g 5, vI x1, vI x2, vI x3, vI x4] (z, I, J, G) none True (z, res, J, G) := by
  refine spec_of (μ := mu_K_put) (k := 0) (L0 := [some (vR g 5), some (vI x1), some (vI x2), some (vI x3), some (vI x4)]) rfl mw_K_put rfl rfl (Nat.le_refl _) (fun φ hb hE => ?_)
  refine z_aload_n dX8_put_0 rfl ?_
  refine y_getR dX8_put_1 cl8 sh_5 (by decide) (Nat.le_trans (by decide) hz) 0 rfl rfl (fl_K_9) (ly_5_0 hG) (by decide) ?_
  refine z_iload_n dX8_put_4 rfl ?_
  refine z_iload_n dX8_put_5 rfl ?_
  obtain ⟨hg1, h⟩ := guardE h
  refine y_iast dX8_put_6 sh_6 (by decide) (Nat.le_trans (by decide) hz) hx1 hg1 hx2 ?_
  refine z_aload_n dX8_put_7 rfl ?_
  refine y_getR dX8_put_8 cl8 sh_5 (by decide) (Nat.le_trans (by decide) hz) 1 rfl rfl (fl_K_15) (ly_5_1 hG) (by decide) ?_
  refine z_iload_n dX8_put_11 rfl ?_
  refine z_iload_n dX8_put_12 rfl ?_
  refine y_iast dX8_put_13 sh_7 (by decide) (Nat.le_trans (by decide) hz) hx1 hg1 hx3 ?_
  refine z_aload_n dX8_put_14 rfl ?_
  refine y_getR dX8_put_15 cl8 sh_5 (by decide) (Nat.le_trans (by decide) hz) 2 rfl rfl (fl_K_18) (ly_5_2 hG) (by decide) ?_
  refine z_iload_n dX8_put_18 rfl ?_
  refine z_iload dX8_put_19 rfl ?_
  refine y_iast dX8_put_21 sh_8 (by decide) (Nat.le_trans (by decide) hz) hx1 hg1 hx4 ?_
  refine z_aload_n dX8_put_22 rfl ?_
  refine y_getR dX8_put_23 cl8 sh_5 (by decide) (Nat.le_trans (by decide) hz) 3 rfl rfl (fl_K_21) (ly_5_3 hG) (by decide) ?_
  refine z_iload_n dX8_put_26 rfl ?_
  refine z_iconst dX8_put_27 ?_
  refine y_iast dX8_put_28 sh_9 (by decide) (Nat.le_trans (by decide) hz) hx1 hg1 (inRd (x := 0) (by decide)) ?_
  obtain rfl := someE h
  exact z_vret dX8_put_29 hE trivial rfl
set_option maxHeartbeats 1000000 in
theorem t_K_scan_b73in9 {l : Launch} {g : GX} {φ : CX} {z : Nat} {G : Nat → Nat → Nat} {F : Nat} (hb : cb φ = z) (hz : 295 ≤ z) (hG : lyX G) {x2 : Int} {x4 : Int} {I J : Nat → Nat → Int} (hx2 : inR x2) (hx4 : inR x4) {res : (Int × MI) ⊕ (Int × Int × MI)} (h : f_K_scan_b73in9 F x2 x4 I = some res) (kE : ∀ e : Int × MI, res = .inl e → ((inR e.1) → Zt l g φ mu_K_scan 87 [some (vR g 5), some (vR g 2), some (vI e.1), none, none] [] (z, e.2, J, G))) (kS : ∀ s : Int × Int × MI, res = .inr s → (inR s.1 ∧ inR s.2.1) → Zt l g φ mu_K_scan 9 [some (vR g 5), some (vR g 2), some (vI s.1), some (vI s.2.1), none] [] (z, s.2.2, J, G)) : Zt l g φ mu_K_scan 73 [some (vR g 5), some (vR g 2), some (vI x2), none, some (vI x4)] [] (z, I, J, G) := by
  refine z_iinc (L' := [some (vR g 5), some (vR g 2), some (vI (w32 (x2 + 1))), none, some (vI x4)]) dX8_scan_73 rfl rfl rfl rfl ?_
  refine z_aload_n dX8_scan_76 rfl ?_
  refine z_iload dX8_scan_77 rfl ?_
  refine z_iconst dX8_scan_79 ?_
  obtain ⟨q19, hq20, h⟩ := bindE h
  refine z_callS (As := [vR g 2, vI x4, vI 0]) (rest := []) (s_K_skip hz hG hx4 (inRd (x := 0) (by decide)) hq20) dX8_scan_80 mw_K_skip ml_K_24 st_K_skip rfl rfl rfl rfl (Nat.le_refl _) (Nat.le_of_eq hb.symm) (fun hp21 => ?_)
  show Zt _ _ _ _ 83 _ [vI q19] (z, I, J, G)
  refine z_istore_n (L' := [some (vR g 5), some (vR g 2), some (vI (w32 (x2 + 1))), some (vI q19), some (vI x4)]) dX8_scan_83 rfl rfl rfl ?_
  refine z_goto (tgt := 9) dX8_scan_84 (by decide) ?_
  refine z_weak (L' := [some (vR g 5), some (vR g 2), some (vI (w32 (x2 + 1))), some (vI q19), none]) (lsS (lsS (lsS (lsS (lsN ls0))))) ?_
  exact kS _ (someE h).symm ⟨(inR_w32 _), hp21⟩
set_option maxHeartbeats 1000000 in
theorem t_K_scan_L9 {l : Launch} {g : GX} {φ : CX} {z : Nat} {G : Nat → Nat → Nat} {F : Nat} (hb : cb φ = z) (hz : 295 ≤ z) (hG : lyX G) {x2 : Int} {x3 : Int} {I J : Nat → Nat → Int} (hx2 : inR x2) (hx3 : inR x3) {res : (Int × MI) ⊕ (Int × Int × MI)} (h : f_K_scan_L9 F x2 x3 I = some res) (kE : ∀ e : Int × MI, res = .inl e → ((inR e.1) → Zt l g φ mu_K_scan 87 [some (vR g 5), some (vR g 2), some (vI e.1), none, none] [] (z, e.2, J, G))) (kS : ∀ s : Int × Int × MI, res = .inr s → (inR s.1 ∧ inR s.2.1) → Zt l g φ mu_K_scan 9 [some (vR g 5), some (vR g 2), some (vI s.1), some (vI s.2.1), none] [] (z, s.2.2, J, G)) : Zt l g φ mu_K_scan 9 [some (vR g 5), some (vR g 2), some (vI x2), some (vI x3), none] [] (z, I, J, G) := by
  refine z_iload_n dX8_scan_9 rfl ?_
  refine z_sipush dX8_scan_10 (by decide +kernel) ?_
  refine z_icmp_gt (tgt := 87) dX8_scan_13 (by decide) hx2 (inRd (x := 400) (by decide)) (fun hc4 => ?_) (fun hc4 => ?_)
  · replace h := ifT hc4 h
    refine z_weak (L' := [some (vR g 5), some (vR g 2), some (vI x2), none, none]) (lsS (lsS (lsS (lsN (lsN ls0))))) ?_
    exact kE _ (someE h).symm hx2
  replace h := ifF hc4 h
  refine z_iload_n dX8_scan_16 rfl ?_
  refine z_aload_n dX8_scan_17 rfl ?_
  refine z_nm (fun hN5 => ?_)
  refine y_getNI (host := "FarewellStones") dX8_scan_18 cl7 sh_2 (by decide) (Nat.le_trans (by decide) hz) 1 rfl rfl (flN_K_28) ?_
  refine z_icmp_ge (tgt := 87) dX8_scan_21 (by decide) hx3 (hN5.1 2 1) (fun hc6 => ?_) (fun hc6 => ?_)
  · replace h := ifT hc6 h
    refine z_weak (L' := [some (vR g 5), some (vR g 2), some (vI x2), none, none]) (lsS (lsS (lsS (lsN (lsN ls0))))) ?_
    exact kE _ (someE h).symm hx2
  replace h := ifF hc6 h
  refine z_aload_n dX8_scan_24 rfl ?_
  refine z_iload_n dX8_scan_25 rfl ?_
  obtain ⟨q7, hq8, h⟩ := bindE h
  refine z_callS (As := [vR g 2, vI x3]) (rest := []) (s_K_endOfToken hz hG hx3 hq8) dX8_scan_26 mw_K_endOfToken ml_K_34 st_K_endOfToken rfl rfl rfl rfl (Nat.le_refl _) (Nat.le_of_eq hb.symm) (fun hp9 => ?_)
  show Zt _ _ _ _ 29 _ [vI q7] (z, I, J, G)
  refine z_istore (L' := [some (vR g 5), some (vR g 2), some (vI x2), some (vI x3), some (vI q7)]) dX8_scan_29 rfl rfl rfl ?_
  refine z_aload_n dX8_scan_31 rfl ?_
  refine z_iload_n dX8_scan_32 rfl ?_
  refine z_aload_n dX8_scan_33 rfl ?_
  refine z_iload_n dX8_scan_34 rfl ?_
  refine z_iload dX8_scan_35 rfl ?_
  obtain ⟨q10, hq11, h⟩ := bindE h
  refine z_callS (As := [vR g 2, vI x3, vI q7]) (rest := [vI x2, vR g 5]) (s_K_kindOf hz hG hx3 hp9 hq11) dX8_scan_37 mw_K_kindOf ml_K_38 st_K_kindOf rfl rfl rfl rfl (Nat.le_refl _) (Nat.le_of_eq hb.symm) (fun hp12 => ?_)
  show Zt _ _ _ _ 40 _ [vI q10, vI x2, vR g 5] (z, I, J, G)
  refine z_iload_n dX8_scan_40 rfl ?_
  refine z_iload dX8_scan_41 rfl ?_
  refine z_iload_n dX8_scan_43 rfl ?_
  refine z_isub dX8_scan_44 ?_
  obtain ⟨q13, hq14, h⟩ := bindE h
  refine z_callV (As := [vI x2, vI q10, vI x3, vI (w32 (q7 - x3))]) (rest := []) (s_K_put hz hG hx2 hp12 hx3 (inR_w32 _) hq14) dX8_scan_45 mw_K_put cl8 sh_5 (by decide) (Nat.le_trans (by decide) hz) ml_K_41 im_K_put se_K_put rfl rfl rfl rfl (Nat.le_refl _) (Nat.le_of_eq hb.symm) (fun hp15 => ?_)
  show Zt _ _ _ _ 48 _ [] (z, q13, J, G)
  refine z_aload_n dX8_scan_48 rfl ?_
  refine y_getR dX8_scan_49 cl8 sh_5 (by decide) (Nat.le_trans (by decide) hz) 0 rfl rfl (fl_K_9) (ly_5_0 hG) (by decide) ?_
  refine z_iload_n dX8_scan_52 rfl ?_
  obtain ⟨hg16, h⟩ := guardE h
  refine z_nm (fun hN17 => ?_)
  refine y_iald dX8_scan_53 sh_6 (by decide) (Nat.le_trans (by decide) hz) hx2 hg16 ?_
  refine z_sipush dX8_scan_54 (by decide +kernel) ?_
  refine z_icmp_ne (tgt := 73) dX8_scan_57 (by decide) (hN17.1 6 (x2).toNat) (inRd (x := 301) (by decide)) (fun hc18 => ?_) (fun hc18 => ?_)
  · replace h := ifT hc18 h
    refine z_weak (L' := [some (vR g 5), some (vR g 2), some (vI x2), none, some (vI q7)]) (lsS (lsS (lsS (lsN (lsS ls0))))) ?_
    exact t_K_scan_b73in9 hb hz hG hx2 hp9 h kE kS
  replace h := ifF (fun q => q hc18) h
  refine z_aload_n dX8_scan_60 rfl ?_
  refine y_getR dX8_scan_61 cl8 sh_5 (by decide) (Nat.le_trans (by decide) hz) 3 rfl rfl (fl_K_21) (ly_5_3 hG) (by decide) ?_
  refine z_iload_n dX8_scan_64 rfl ?_
  refine z_aload_n dX8_scan_65 rfl ?_
  refine z_iload_n dX8_scan_66 rfl ?_
  refine z_iload dX8_scan_67 rfl ?_
  obtain ⟨q22, hq23, h⟩ := bindE h
  refine z_callS (As := [vR g 2, vI x3, vI q7]) (rest := [vI x2, vR g 9]) (s_K_number hz hG hx3 hp9 hq23) dX8_scan_69 mw_K_number ml_K_45 st_K_number rfl rfl rfl rfl (Nat.le_refl _) (Nat.le_of_eq hb.symm) (fun hp24 => ?_)
  show Zt _ _ _ _ 72 _ [vI q22, vI x2, vR g 9] (z, q13, J, G)
  refine y_iast dX8_scan_72 sh_9 (by decide) (Nat.le_trans (by decide) hz) hx2 hg16 hp24 ?_
  refine z_weak (L' := [some (vR g 5), some (vR g 2), some (vI x2), none, some (vI q7)]) (lsS (lsS (lsS (lsN (lsS ls0))))) ?_
  exact t_K_scan_b73in9 hb hz hG hx2 hp9 h kE kS
theorem l_K_scan_L9 {l : Launch} {g : GX} {φ : CX} {z : Nat} {G : Nat → Nat → Nat} {F : Nat} (hb : cb φ = z) (hz : 295 ≤ z) (hG : lyX G) {J : Nat → Nat → Int} (n : Nat) (s : Int × Int × MI) (e : Int × MI) (h : iter (fun s : Int × Int × MI => f_K_scan_L9 F s.1 s.2.1 s.2.2) n s = some e) (hs : inR s.1 ∧ inR s.2.1) (k : ((inR e.1) → Zt l g φ mu_K_scan 87 [some (vR g 5), some (vR g 2), some (vI e.1), none, none] [] (z, e.2, J, G))) : Zt l g φ mu_K_scan 9 [some (vR g 5), some (vR g 2), some (vI s.1), some (vI s.2.1), none] [] (z, s.2.2, J, G) := by
  refine iter_ind (Z := fun s : Int × Int × MI => Zt l g φ mu_K_scan 9 [some (vR g 5), some (vR g 2), some (vI s.1), some (vI s.2.1), none] [] (z, s.2.2, J, G)) (ZE := fun e : Int × MI => ((inR e.1) → Zt l g φ mu_K_scan 87 [some (vR g 5), some (vR g 2), some (vI e.1), none, none] [] (z, e.2, J, G))) (Rg := fun s : Int × Int × MI => inR s.1 ∧ inR s.2.1) ?_ n s e h hs k
  intro s r hr hst kE kS
  exact t_K_scan_L9 hb hz hG hr.1 hr.2 hst kE kS
set_option maxHeartbeats 1000000 in
theorem s_K_scan {l : Launch} {g : GX} {z : Nat} {G : Nat → Nat → Nat} {F : Nat} (hz : 295 ≤ z) (hG : lyX G) {I J : Nat → Nat → Int} {res : MI} (h : f_K_scan F I = some res) : Spec l g 17 yX8_scan cX8_scan 5 none [vR g 5, vR g 2] (z, I, J, G) none True (z, res, J, G) := by
  refine spec_of (μ := mu_K_scan) (k := 3) (L0 := [some (vR g 5), some (vR g 2), none, none, none]) rfl mw_K_scan rfl rfl (Nat.le_refl _) (fun φ hb hE => ?_)
  refine z_iconst dX8_scan_0 ?_
  refine z_istore_n (L' := [some (vR g 5), some (vR g 2), some (vI 0), none, none]) dX8_scan_1 rfl rfl rfl ?_
  refine z_aload_n dX8_scan_2 rfl ?_
  refine z_iconst dX8_scan_3 ?_
  refine z_iconst dX8_scan_4 ?_
  obtain ⟨q1, hq2, h⟩ := bindE h
  refine z_callS (As := [vR g 2, vI 0, vI 0]) (rest := []) (s_K_skip hz hG (inRd (x := 0) (by decide)) (inRd (x := 0) (by decide)) hq2) dX8_scan_5 mw_K_skip ml_K_24 st_K_skip rfl rfl rfl rfl (Nat.le_refl _) (Nat.le_of_eq hb.symm) (fun hp3 => ?_)
  show Zt _ _ _ _ 8 _ [vI q1] (z, I, J, G)
  refine z_istore_n (L' := [some (vR g 5), some (vR g 2), some (vI 0), some (vI q1), none]) dX8_scan_8 rfl rfl rfl ?_
  obtain ⟨e25, h26, h⟩ := bindE h
  refine l_K_scan_L9 hb hz hG  _ _ _ h26 ⟨(inRd (x := 0) (by decide)), hp3⟩ ?_
  refine fun h27 => ?_
  refine z_aload_n dX8_scan_87 rfl ?_
  refine z_iload_n dX8_scan_88 rfl ?_
  refine z_sipush dX8_scan_89 (by decide +kernel) ?_
  refine z_aload_n dX8_scan_92 rfl ?_
  refine z_nm (fun hN28 => ?_)
  refine y_getNI (host := "FarewellStones") dX8_scan_93 cl7 sh_2 (by decide) (Nat.le_trans (by decide) hz) 1 rfl rfl (flN_K_28) ?_
  refine z_iconst dX8_scan_96 ?_
  obtain ⟨q29, hq30, h⟩ := bindE h
  refine z_callV (As := [vI e25.1, vI 302, vI (e25.2 2 1), vI 0]) (rest := []) (s_K_put hz hG h27 (inRd (x := 302) (by decide)) (hN28.1 2 1) (inRd (x := 0) (by decide)) hq30) dX8_scan_97 mw_K_put cl8 sh_5 (by decide) (Nat.le_trans (by decide) hz) ml_K_41 im_K_put se_K_put rfl rfl rfl rfl (Nat.le_refl _) (Nat.le_of_eq hb.symm) (fun hp31 => ?_)
  show Zt _ _ _ _ 100 _ [] (z, q29, J, G)
  obtain rfl := someE h
  exact z_vret dX8_scan_100 hE trivial rfl
set_option maxHeartbeats 1000000 in
theorem s_R_isLeptAtOnce {l : Launch} {g : GX} {z : Nat} {G : Nat → Nat → Nat} {F : Nat} (hz : 295 ≤ z) (hG : lyX G) {r0 : Nat} {I J : Nat → Nat → Int} (hr0 : isRiv r0) {res : Int} (h : f_R_isLeptAtOnce F r0 I = some res) : Spec l g 0 yX6_isLeptAtOnce cX6_isLeptAtOnce 1 (some .boolean) [vR g r0] (z, I, J, G) (some (vI res)) (res = 0 ∨ res = 1) (z, I, J, G) := by
  refine spec_of (μ := mu_R_isLeptAtOnce) (k := 0) (L0 := [some (vR g r0)]) rfl mw_R_isLeptAtOnce rfl rfl (Nat.le_refl _) (fun φ hb hE => ?_)
  refine z_aload_n dX6_isLeptAtOnce_0 rfl ?_
  refine z_nm (fun hN1 => ?_)
  refine y_getI dX6_isLeptAtOnce_1 cl6 (riv_sh hr0) (riv_pos hr0) (Nat.le_trans (riv_le hr0) hz) 1 rfl rfl (fl_R_50) ?_
  refine z_aload_n dX6_isLeptAtOnce_4 rfl ?_
  refine y_getI dX6_isLeptAtOnce_5 cl6 (riv_sh hr0) (riv_pos hr0) (Nat.le_trans (riv_le hr0) hz) 2 rfl rfl (fl_R_53) ?_
  refine z_icmp_ge (tgt := 15) dX6_isLeptAtOnce_8 (by decide) (hN1.1 r0 1) (hN1.1 r0 2) (fun hc2 => ?_) (fun hc2 => ?_)
  · replace h := ifT hc2 h
    refine z_iconst dX6_isLeptAtOnce_15 ?_
    obtain rfl := someE h
    exact z_zret dX6_isLeptAtOnce_16 hE b01_0 b01_0 rfl
  replace h := ifF hc2 h
  refine z_iconst dX6_isLeptAtOnce_11 ?_
  refine z_goto (tgt := 16) dX6_isLeptAtOnce_12 (by decide) ?_
  obtain rfl := someE h
  exact z_zret dX6_isLeptAtOnce_16 hE b01_1 b01_1 rfl
set_option maxHeartbeats 1000000 in
theorem s_R_isWithinLeap {l : Launch} {g : GX} {z : Nat} {G : Nat → Nat → Nat} {F : Nat} (hz : 295 ≤ z) (hG : lyX G) {r0 : Nat} {x1 : Int} {x2 : Int} {I J : Nat → Nat → Int} (hr0 : isRiv r0) (hx1 : inR x1) (hx2 : inR x2) {res : Int} (h : f_R_isWithinLeap F r0 x1 x2 I = some res) : Spec l g 14 yX6_isWithinLeap cX6_isWithinLeap 5 (some .boolean) [vR g r0, vI x1, vI x2] (z, I, J, G) (some (vI res)) (res = 0 ∨ res = 1) (z, I, J, G) := by
  refine spec_of (μ := mu_R_isWithinLeap) (k := 2) (L0 := [some (vR g r0), some (vI x1), some (vI x2), none, none]) rfl mw_R_isWithinLeap rfl rfl (Nat.le_refl _) (fun φ hb hE => ?_)
  refine z_iload_n dX6_isWithinLeap_0 rfl ?_
  refine z_bipush dX6_isWithinLeap_1 (by decide +kernel) ?_
  refine z_irem dX6_isWithinLeap_3 (inRd (x := 12) (by decide)) (by decide) ?_
  refine z_iload_n dX6_isWithinLeap_4 rfl ?_
  refine z_bipush dX6_isWithinLeap_5 (by decide +kernel) ?_
  refine z_irem dX6_isWithinLeap_7 (inRd (x := 12) (by decide)) (by decide) ?_
  refine z_isub dX6_isWithinLeap_8 ?_
  refine z_abs dX6_isWithinLeap_9 (inR_w32 _) (tin4 190 (by decide +kernel) rfl) math_abs_s math_i math_abs_c rfl rfl (Nat.le_of_eq hb.symm) ?_
  refine z_istore_n (L' := [some (vR g r0), some (vI x1), some (vI x2), some (vI (abs32 (w32 ((rem32 x1 12) - (rem32 x2 12))))), none]) dX6_isWithinLeap_12 rfl rfl rfl ?_
  refine z_iload_n dX6_isWithinLeap_13 rfl ?_
  refine z_bipush dX6_isWithinLeap_14 (by decide +kernel) ?_
  refine z_idiv dX6_isWithinLeap_16 (inRd (x := 12) (by decide)) (by decide) ?_
  refine z_iload_n dX6_isWithinLeap_17 rfl ?_
  refine z_bipush dX6_isWithinLeap_18 (by decide +kernel) ?_
  refine z_idiv dX6_isWithinLeap_20 (inRd (x := 12) (by decide)) (by decide) ?_
  refine z_isub dX6_isWithinLeap_21 ?_
  refine z_abs dX6_isWithinLeap_22 (inR_w32 _) (tin4 190 (by decide +kernel) rfl) math_abs_s math_i math_abs_c rfl rfl (Nat.le_of_eq hb.symm) ?_
  refine z_istore (L' := [some (vR g r0), some (vI x1), some (vI x2), some (vI (abs32 (w32 ((rem32 x1 12) - (rem32 x2 12))))), some (vI (abs32 (w32 ((div32 x1 12) - (div32 x2 12)))))]) dX6_isWithinLeap_25 rfl rfl rfl ?_
  refine z_iload_n dX6_isWithinLeap_27 rfl ?_
  refine z_iload dX6_isWithinLeap_28 rfl ?_
  refine z_iadd dX6_isWithinLeap_30 ?_
  refine z_aload_n dX6_isWithinLeap_31 rfl ?_
  refine z_nm (fun hN1 => ?_)
  refine y_getI dX6_isWithinLeap_32 cl6 (riv_sh hr0) (riv_pos hr0) (Nat.le_trans (riv_le hr0) hz) 2 rfl rfl (fl_R_53) ?_
  refine z_icmp_gt (tgt := 42) dX6_isWithinLeap_35 (by decide) (inR_w32 _) (hN1.1 r0 2) (fun hc2 => ?_) (fun hc2 => ?_)
  · replace h := ifT hc2 h
    refine z_iconst dX6_isWithinLeap_42 ?_
    obtain rfl := someE h
    exact z_zret dX6_isWithinLeap_43 hE b01_0 b01_0 rfl
  replace h := ifF hc2 h
  refine z_iconst dX6_isWithinLeap_38 ?_
  refine z_goto (tgt := 43) dX6_isWithinLeap_39 (by decide) ?_
  obtain rfl := someE h
  exact z_zret dX6_isWithinLeap_43 hE b01_1 b01_1 rfl
set_option maxHeartbeats 1000000 in
theorem t_T_put_L3 {l : Launch} {g : GX} {φ : CX} {z : Nat} {G : Nat → Nat → Nat} {F : Nat} (hb : cb φ = z) (hz : 295 ≤ z) (hG : lyX G) {x1 : Int} {x2 : Int} {I J : Nat → Nat → Int} (hx1 : inR x1) (hx2 : inR x2) {res : (MI) ⊕ (Int × MI)} (h : f_T_put_L3 F x1 x2 I = some res) (kE : ∀ e : MI, res = .inl e → ((True) → Zt l g φ mu_T_put 46 [none, none, none] [] (z, e, J, G))) (kS : ∀ s : Int × MI, res = .inr s → (inR s.1) → Zt l g φ mu_T_put 3 [some (vR g 2), some (vI x1), some (vI s.1)] [] (z, s.2, J, G)) : Zt l g φ mu_T_put 3 [some (vR g 2), some (vI x1), some (vI x2)] [] (z, I, J, G) := by
  refine z_iload_n dX7_put_3 rfl ?_
  refine z_if_lt (tgt := 46) dX7_put_4 (by decide) hx2 (fun hc1 => ?_) (fun hc1 => ?_)
  · replace h := ifT hc1 h
    refine z_weak (L' := [none, none, none]) (lsN (lsN (lsN ls0))) ?_
    exact kE _ (someE h).symm trivial
  replace h := ifF hc1 h
  refine z_aload_n dX7_put_7 rfl ?_
  refine z_nm (fun hN2 => ?_)
  refine y_getI dX7_put_8 cl7 sh_2 (by decide) (Nat.le_trans (by decide) hz) 1 rfl rfl (fl_T_15) ?_
  refine z_sipush dX7_put_11 (by decide +kernel) ?_
  refine z_icmp_ge (tgt := 46) dX7_put_14 (by decide) (hN2.1 2 1) (inRd (x := 2000) (by decide)) (fun hc3 => ?_) (fun hc3 => ?_)
  · replace h := ifT hc3 h
    refine z_weak (L' := [none, none, none]) (lsN (lsN (lsN ls0))) ?_
    exact kE _ (someE h).symm trivial
  replace h := ifF hc3 h
  refine z_aload_n dX7_put_17 rfl ?_
  refine y_getR dX7_put_18 cl7 sh_2 (by decide) (Nat.le_trans (by decide) hz) 0 rfl rfl (fl_T_9) (ly_2_0 hG) (by decide) ?_
  refine z_aload_n dX7_put_21 rfl ?_
  refine y_getI dX7_put_22 cl7 sh_2 (by decide) (Nat.le_trans (by decide) hz) 1 rfl rfl (fl_T_15) ?_
  refine z_iload_n dX7_put_25 rfl ?_
  refine z_iload_n dX7_put_26 rfl ?_
  refine z_iushr dX7_put_27 ?_
  refine z_i2b dX7_put_28 ?_
  obtain ⟨hg4, h⟩ := guardE h
  refine y_bast dX7_put_29 sh_3 (by decide) (Nat.le_trans (by decide) hz) (hN2.1 2 1) hg4 ?_
  refine z_aload_n dX7_put_30 rfl ?_
  refine z_dup dX7_put_31 rfl ?_
  refine z_nm (fun hN5 => ?_)
  refine y_getI dX7_put_32 cl7 sh_2 (by decide) (Nat.le_trans (by decide) hz) 1 rfl rfl (fl_T_15) ?_
  refine z_iconst dX7_put_35 ?_
  refine z_iadd dX7_put_36 ?_
  refine y_putI dX7_put_37 cl7 sh_2 (by decide) (Nat.le_trans (by decide) hz) 1 rfl rfl rfl (fl_T_15) rfl rfl (inR_w32 _) ?_
  refine z_iinc (L' := [some (vR g 2), some (vI x1), some (vI (w32 (x2 + (-8))))]) dX7_put_40 rfl rfl rfl rfl ?_
  refine z_goto (tgt := 3) dX7_put_43 (by decide) ?_
  exact kS _ (someE h).symm (inR_w32 _)
theorem l_T_put_L3 {l : Launch} {g : GX} {φ : CX} {z : Nat} {G : Nat → Nat → Nat} {F : Nat} (hb : cb φ = z) (hz : 295 ≤ z) (hG : lyX G) {x1 : Int} {J : Nat → Nat → Int} (hx1 : inR x1) (n : Nat) (s : Int × MI) (e : MI) (h : iter (fun s : Int × MI => f_T_put_L3 F x1 s.1 s.2) n s = some e) (hs : inR s.1) (k : ((True) → Zt l g φ mu_T_put 46 [none, none, none] [] (z, e, J, G))) : Zt l g φ mu_T_put 3 [some (vR g 2), some (vI x1), some (vI s.1)] [] (z, s.2, J, G) := by
  refine iter_ind (Z := fun s : Int × MI => Zt l g φ mu_T_put 3 [some (vR g 2), some (vI x1), some (vI s.1)] [] (z, s.2, J, G)) (ZE := fun e : MI => ((True) → Zt l g φ mu_T_put 46 [none, none, none] [] (z, e, J, G))) (Rg := fun s : Int × MI => inR s.1) ?_ n s e h hs k
  intro s r hr hst kE kS
  exact t_T_put_L3 hb hz hG hx1 hr hst kE kS
set_option maxHeartbeats 1000000 in
theorem s_T_put {l : Launch} {g : GX} {z : Nat} {G : Nat → Nat → Nat} {F : Nat} (hz : 295 ≤ z) (hG : lyX G) {x1 : Int} {I J : Nat → Nat → Int} (hx1 : inR x1) {res : MI} (h : f_T_put F x1 I = some res) : Spec l g 0 yX7_put cX7_put 3 none [vR g 2, vI x1] (z, I, J, G) none True (z, res, J, G) := by
  refine spec_of (μ := mu_T_put) (k := 1) (L0 := [some (vR g 2), some (vI x1), none]) rfl mw_T_put rfl rfl (Nat.le_refl _) (fun φ hb hE => ?_)
  refine z_bipush dX7_put_0 (by decide +kernel) ?_
  refine z_istore_n (L' := [some (vR g 2), some (vI x1), some (vI 24)]) dX7_put_2 rfl rfl rfl ?_
  obtain ⟨e6, h7, h⟩ := bindE h
  refine l_T_put_L3 hb hz hG hx1 _ _ _ h7 (inRd (x := 24) (by decide)) ?_
  refine fun h8 => ?_
  obtain rfl := someE h
  exact z_vret dX7_put_46 hE trivial rfl
