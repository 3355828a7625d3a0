theorem NL {a b : Nat} (h : Nat.ble a b = true) : a ≤ b := Nat.le_of_ble_eq_true h
def gx_0 : Nat → Nat → Nat := fun _ _ => 0
def gx_1 : Nat → Nat → Nat := g_T gx_0 2
def gx_2 : Nat → Nat → Nat := up2 gx_1 1 0 2
def gx_3 : Nat → Nat → Nat := g_E gx_2 4
def gx_4 : Nat → Nat → Nat := up2 gx_3 1 1 4
def gx_5 : Nat → Nat → Nat := g_R gx_4 11
def gx_6 : Nat → Nat → Nat := up2 gx_5 1 3 11
def gx_7 : Nat → Nat → Nat := g_R gx_6 30
def gx_8 : Nat → Nat → Nat := up2 gx_7 1 4 30
def gx_9 : Nat → Nat → Nat := g_B gx_8 49
def gx_10 : Nat → Nat → Nat := up2 gx_9 1 5 49
def gx_11 : Nat → Nat → Nat := g_B gx_10 56
def gx_12 : Nat → Nat → Nat := up2 gx_11 1 6 56
def gx_13 : Nat → Nat → Nat := up2 gx_12 63 0 64
def gx_14 : Nat → Nat → Nat := g_B gx_13 65
def gx_15 : Nat → Nat → Nat := up2 gx_14 64 0 65
def gx_16 : Nat → Nat → Nat := g_B gx_15 72
def gx_17 : Nat → Nat → Nat := up2 gx_16 64 1 72
def gx_18 : Nat → Nat → Nat := g_B gx_17 79
def gx_19 : Nat → Nat → Nat := up2 gx_18 64 2 79
def gx_20 : Nat → Nat → Nat := g_B gx_19 86
def gx_21 : Nat → Nat → Nat := up2 gx_20 64 3 86
def gx_22 : Nat → Nat → Nat := g_B gx_21 93
def gx_23 : Nat → Nat → Nat := up2 gx_22 64 4 93
def gx_24 : Nat → Nat → Nat := g_B gx_23 100
def gx_25 : Nat → Nat → Nat := up2 gx_24 64 5 100
def gx_26 : Nat → Nat → Nat := g_B gx_25 107
def gx_27 : Nat → Nat → Nat := up2 gx_26 64 6 107
def gx_28 : Nat → Nat → Nat := g_B gx_27 114
def gx_29 : Nat → Nat → Nat := up2 gx_28 64 7 114
def gx_30 : Nat → Nat → Nat := g_B gx_29 121
def gx_31 : Nat → Nat → Nat := up2 gx_30 64 8 121
def gx_32 : Nat → Nat → Nat := g_B gx_31 128
def gx_33 : Nat → Nat → Nat := up2 gx_32 64 9 128
def gx_34 : Nat → Nat → Nat := g_B gx_33 135
def gx_35 : Nat → Nat → Nat := up2 gx_34 64 10 135
def gx_36 : Nat → Nat → Nat := g_B gx_35 142
def gx_37 : Nat → Nat → Nat := up2 gx_36 64 11 142
def gx_38 : Nat → Nat → Nat := g_B gx_37 149
def gx_39 : Nat → Nat → Nat := up2 gx_38 64 12 149
def gx_40 : Nat → Nat → Nat := g_B gx_39 156
def gx_41 : Nat → Nat → Nat := up2 gx_40 64 13 156
def gx_42 : Nat → Nat → Nat := g_B gx_41 163
def gx_43 : Nat → Nat → Nat := up2 gx_42 64 14 163
def gx_44 : Nat → Nat → Nat := g_B gx_43 170
def gx_45 : Nat → Nat → Nat := up2 gx_44 64 15 170
def gx_46 : Nat → Nat → Nat := g_B gx_45 177
def gx_47 : Nat → Nat → Nat := up2 gx_46 64 16 177
def gx_48 : Nat → Nat → Nat := g_B gx_47 184
def gx_49 : Nat → Nat → Nat := up2 gx_48 64 17 184
def gx_50 : Nat → Nat → Nat := g_B gx_49 191
def gx_51 : Nat → Nat → Nat := up2 gx_50 64 18 191
def gx_52 : Nat → Nat → Nat := g_B gx_51 198
def gx_53 : Nat → Nat → Nat := up2 gx_52 64 19 198
def gx_54 : Nat → Nat → Nat := g_B gx_53 205
def gx_55 : Nat → Nat → Nat := up2 gx_54 64 20 205
def gx_56 : Nat → Nat → Nat := g_B gx_55 212
def gx_57 : Nat → Nat → Nat := up2 gx_56 64 21 212
def gx_58 : Nat → Nat → Nat := g_B gx_57 219
def gx_59 : Nat → Nat → Nat := up2 gx_58 64 22 219
def gx_60 : Nat → Nat → Nat := g_B gx_59 226
def gx_61 : Nat → Nat → Nat := up2 gx_60 64 23 226
def gx_62 : Nat → Nat → Nat := g_B gx_61 233
def gx_63 : Nat → Nat → Nat := up2 gx_62 64 24 233
theorem fresh_P {J : MI} (hf : fresh 63 (up2 (fun _ _ => 0) 1 2 (-1)) J gx_12) : fresh 239 (up2 (fun _ _ => 0) 1 2 (-1)) J gx_63 := by
  have hf1 : fresh 64 (up2 (fun _ _ => 0) 1 2 (-1)) J gx_12 := fresh_up (hf) (by decide)
  have hf2 : fresh 64 (up2 (fun _ _ => 0) 1 2 (-1)) J gx_13 := fresh_G (hf1) (by decide)
  have hf3 : fresh 65 (up2 (fun _ _ => 0) 1 2 (-1)) J gx_13 := fresh_up (hf2) (by decide)
  have hf4 : fresh 71 (up2 (fun _ _ => 0) 1 2 (-1)) J gx_14 := fresh_B (hf3)
  have hf5 : fresh 71 (up2 (fun _ _ => 0) 1 2 (-1)) J gx_15 := fresh_G (hf4) (by decide)
  have hf6 : fresh 72 (up2 (fun _ _ => 0) 1 2 (-1)) J gx_15 := fresh_up (hf5) (by decide)
  have hf7 : fresh 78 (up2 (fun _ _ => 0) 1 2 (-1)) J gx_16 := fresh_B (hf6)
  have hf8 : fresh 78 (up2 (fun _ _ => 0) 1 2 (-1)) J gx_17 := fresh_G (hf7) (by decide)
  have hf9 : fresh 79 (up2 (fun _ _ => 0) 1 2 (-1)) J gx_17 := fresh_up (hf8) (by decide)
  have hf10 : fresh 85 (up2 (fun _ _ => 0) 1 2 (-1)) J gx_18 := fresh_B (hf9)
  have hf11 : fresh 85 (up2 (fun _ _ => 0) 1 2 (-1)) J gx_19 := fresh_G (hf10) (by decide)
  have hf12 : fresh 86 (up2 (fun _ _ => 0) 1 2 (-1)) J gx_19 := fresh_up (hf11) (by decide)
  have hf13 : fresh 92 (up2 (fun _ _ => 0) 1 2 (-1)) J gx_20 := fresh_B (hf12)
  have hf14 : fresh 92 (up2 (fun _ _ => 0) 1 2 (-1)) J gx_21 := fresh_G (hf13) (by decide)
  have hf15 : fresh 93 (up2 (fun _ _ => 0) 1 2 (-1)) J gx_21 := fresh_up (hf14) (by decide)
  have hf16 : fresh 99 (up2 (fun _ _ => 0) 1 2 (-1)) J gx_22 := fresh_B (hf15)
  have hf17 : fresh 99 (up2 (fun _ _ => 0) 1 2 (-1)) J gx_23 := fresh_G (hf16) (by decide)
  have hf18 : fresh 100 (up2 (fun _ _ => 0) 1 2 (-1)) J gx_23 := fresh_up (hf17) (by decide)
  have hf19 : fresh 106 (up2 (fun _ _ => 0) 1 2 (-1)) J gx_24 := fresh_B (hf18)
  have hf20 : fresh 106 (up2 (fun _ _ => 0) 1 2 (-1)) J gx_25 := fresh_G (hf19) (by decide)
  have hf21 : fresh 107 (up2 (fun _ _ => 0) 1 2 (-1)) J gx_25 := fresh_up (hf20) (by decide)
  have hf22 : fresh 113 (up2 (fun _ _ => 0) 1 2 (-1)) J gx_26 := fresh_B (hf21)
  have hf23 : fresh 113 (up2 (fun _ _ => 0) 1 2 (-1)) J gx_27 := fresh_G (hf22) (by decide)
  have hf24 : fresh 114 (up2 (fun _ _ => 0) 1 2 (-1)) J gx_27 := fresh_up (hf23) (by decide)
  have hf25 : fresh 120 (up2 (fun _ _ => 0) 1 2 (-1)) J gx_28 := fresh_B (hf24)
  have hf26 : fresh 120 (up2 (fun _ _ => 0) 1 2 (-1)) J gx_29 := fresh_G (hf25) (by decide)
  have hf27 : fresh 121 (up2 (fun _ _ => 0) 1 2 (-1)) J gx_29 := fresh_up (hf26) (by decide)
  have hf28 : fresh 127 (up2 (fun _ _ => 0) 1 2 (-1)) J gx_30 := fresh_B (hf27)
  have hf29 : fresh 127 (up2 (fun _ _ => 0) 1 2 (-1)) J gx_31 := fresh_G (hf28) (by decide)
  have hf30 : fresh 128 (up2 (fun _ _ => 0) 1 2 (-1)) J gx_31 := fresh_up (hf29) (by decide)
  have hf31 : fresh 134 (up2 (fun _ _ => 0) 1 2 (-1)) J gx_32 := fresh_B (hf30)
  have hf32 : fresh 134 (up2 (fun _ _ => 0) 1 2 (-1)) J gx_33 := fresh_G (hf31) (by decide)
  have hf33 : fresh 135 (up2 (fun _ _ => 0) 1 2 (-1)) J gx_33 := fresh_up (hf32) (by decide)
  have hf34 : fresh 141 (up2 (fun _ _ => 0) 1 2 (-1)) J gx_34 := fresh_B (hf33)
  have hf35 : fresh 141 (up2 (fun _ _ => 0) 1 2 (-1)) J gx_35 := fresh_G (hf34) (by decide)
  have hf36 : fresh 142 (up2 (fun _ _ => 0) 1 2 (-1)) J gx_35 := fresh_up (hf35) (by decide)
  have hf37 : fresh 148 (up2 (fun _ _ => 0) 1 2 (-1)) J gx_36 := fresh_B (hf36)
  have hf38 : fresh 148 (up2 (fun _ _ => 0) 1 2 (-1)) J gx_37 := fresh_G (hf37) (by decide)
  have hf39 : fresh 149 (up2 (fun _ _ => 0) 1 2 (-1)) J gx_37 := fresh_up (hf38) (by decide)
  have hf40 : fresh 155 (up2 (fun _ _ => 0) 1 2 (-1)) J gx_38 := fresh_B (hf39)
  have hf41 : fresh 155 (up2 (fun _ _ => 0) 1 2 (-1)) J gx_39 := fresh_G (hf40) (by decide)
  have hf42 : fresh 156 (up2 (fun _ _ => 0) 1 2 (-1)) J gx_39 := fresh_up (hf41) (by decide)
  have hf43 : fresh 162 (up2 (fun _ _ => 0) 1 2 (-1)) J gx_40 := fresh_B (hf42)
  have hf44 : fresh 162 (up2 (fun _ _ => 0) 1 2 (-1)) J gx_41 := fresh_G (hf43) (by decide)
  have hf45 : fresh 163 (up2 (fun _ _ => 0) 1 2 (-1)) J gx_41 := fresh_up (hf44) (by decide)
  have hf46 : fresh 169 (up2 (fun _ _ => 0) 1 2 (-1)) J gx_42 := fresh_B (hf45)
  have hf47 : fresh 169 (up2 (fun _ _ => 0) 1 2 (-1)) J gx_43 := fresh_G (hf46) (by decide)
  have hf48 : fresh 170 (up2 (fun _ _ => 0) 1 2 (-1)) J gx_43 := fresh_up (hf47) (by decide)
  have hf49 : fresh 176 (up2 (fun _ _ => 0) 1 2 (-1)) J gx_44 := fresh_B (hf48)
  have hf50 : fresh 176 (up2 (fun _ _ => 0) 1 2 (-1)) J gx_45 := fresh_G (hf49) (by decide)
  have hf51 : fresh 177 (up2 (fun _ _ => 0) 1 2 (-1)) J gx_45 := fresh_up (hf50) (by decide)
  have hf52 : fresh 183 (up2 (fun _ _ => 0) 1 2 (-1)) J gx_46 := fresh_B (hf51)
  have hf53 : fresh 183 (up2 (fun _ _ => 0) 1 2 (-1)) J gx_47 := fresh_G (hf52) (by decide)
  have hf54 : fresh 184 (up2 (fun _ _ => 0) 1 2 (-1)) J gx_47 := fresh_up (hf53) (by decide)
  have hf55 : fresh 190 (up2 (fun _ _ => 0) 1 2 (-1)) J gx_48 := fresh_B (hf54)
  have hf56 : fresh 190 (up2 (fun _ _ => 0) 1 2 (-1)) J gx_49 := fresh_G (hf55) (by decide)
  have hf57 : fresh 191 (up2 (fun _ _ => 0) 1 2 (-1)) J gx_49 := fresh_up (hf56) (by decide)
  have hf58 : fresh 197 (up2 (fun _ _ => 0) 1 2 (-1)) J gx_50 := fresh_B (hf57)
  have hf59 : fresh 197 (up2 (fun _ _ => 0) 1 2 (-1)) J gx_51 := fresh_G (hf58) (by decide)
  have hf60 : fresh 198 (up2 (fun _ _ => 0) 1 2 (-1)) J gx_51 := fresh_up (hf59) (by decide)
  have hf61 : fresh 204 (up2 (fun _ _ => 0) 1 2 (-1)) J gx_52 := fresh_B (hf60)
  have hf62 : fresh 204 (up2 (fun _ _ => 0) 1 2 (-1)) J gx_53 := fresh_G (hf61) (by decide)
  have hf63 : fresh 205 (up2 (fun _ _ => 0) 1 2 (-1)) J gx_53 := fresh_up (hf62) (by decide)
  have hf64 : fresh 211 (up2 (fun _ _ => 0) 1 2 (-1)) J gx_54 := fresh_B (hf63)
  have hf65 : fresh 211 (up2 (fun _ _ => 0) 1 2 (-1)) J gx_55 := fresh_G (hf64) (by decide)
  have hf66 : fresh 212 (up2 (fun _ _ => 0) 1 2 (-1)) J gx_55 := fresh_up (hf65) (by decide)
  have hf67 : fresh 218 (up2 (fun _ _ => 0) 1 2 (-1)) J gx_56 := fresh_B (hf66)
  have hf68 : fresh 218 (up2 (fun _ _ => 0) 1 2 (-1)) J gx_57 := fresh_G (hf67) (by decide)
  have hf69 : fresh 219 (up2 (fun _ _ => 0) 1 2 (-1)) J gx_57 := fresh_up (hf68) (by decide)
  have hf70 : fresh 225 (up2 (fun _ _ => 0) 1 2 (-1)) J gx_58 := fresh_B (hf69)
  have hf71 : fresh 225 (up2 (fun _ _ => 0) 1 2 (-1)) J gx_59 := fresh_G (hf70) (by decide)
  have hf72 : fresh 226 (up2 (fun _ _ => 0) 1 2 (-1)) J gx_59 := fresh_up (hf71) (by decide)
  have hf73 : fresh 232 (up2 (fun _ _ => 0) 1 2 (-1)) J gx_60 := fresh_B (hf72)
  have hf74 : fresh 232 (up2 (fun _ _ => 0) 1 2 (-1)) J gx_61 := fresh_G (hf73) (by decide)
  have hf75 : fresh 233 (up2 (fun _ _ => 0) 1 2 (-1)) J gx_61 := fresh_up (hf74) (by decide)
  have hf76 : fresh 239 (up2 (fun _ _ => 0) 1 2 (-1)) J gx_62 := fresh_B (hf75)
  have hf77 : fresh 239 (up2 (fun _ _ => 0) 1 2 (-1)) J gx_63 := fresh_G (hf76) (by decide)
  exact hf77
set_option maxHeartbeats 4000000 in
set_option maxRecDepth 10000 in
theorem n_P {l : Launch} {g : GX} {J : MI} (hf : fresh 63 (up2 (fun _ _ => 0) 1 2 (-1)) J gx_12) : Spec l g 2 yX4_init cX4_init 2 none [vR g 63] (63, (up2 (fun _ _ => 0) 1 2 (-1)), J, gx_12) none True (239, (up2 (fun _ _ => 0) 1 2 (-1)), J, gx_63) := by
  refine spec_of (μ := (cX4_init, RX4, 2, 2, "<init>")) (k := 1) (L0 := [some (vR g 63), none]) rfl mw_P_init rfl rfl (by show 63 ≤ 239; decide) (fun φ hb hE => ?_)
  replace hb : cb φ = 239 := hb
  refine z_aload_n dX4_init_0 rfl ?_
  refine z_objI dX4_init_1 (tin2 4 (by rfl) rfl) wOi wOc rfl rfl ?_
  refine z_aload_n dX4_init_4 rfl ?_
  refine z_bipush dX4_init_5 (by decide +kernel) ?_
  refine z_newq (n := 25) dX4_init_7 rfl (inRd (by decide)) (tin2 5 (by rfl) rfl) wOvobject (by decide) (by decide +kernel) (by rw [hb]; exact NL rfl) (hf) ?_
  show Zt _ _ _ _ 10 _ [vR g 64, vR g 63] (64, (up2 (fun _ _ => 0) 1 2 (-1)), J, gx_12)
  have hf1 : fresh 64 (up2 (fun _ _ => 0) 1 2 (-1)) J gx_12 := fresh_up (hf) (by decide)
  refine z_putFR (v := 64) (k := 0) dX4_init_10 cl4 (by decide +kernel) (by decide) (NL rfl) rfl rfl rfl rfl rfl (tin2 8 (by rfl) rfl) rfl rfl (by decide) ?_
  show Zt _ _ _ _ 13 _ [] (64, (up2 (fun _ _ => 0) 1 2 (-1)), J, gx_13)
  have hf2 : fresh 64 (up2 (fun _ _ => 0) 1 2 (-1)) J gx_13 := fresh_G (hf1) (by decide)
  refine z_iconst dX4_init_13 ?_
  refine z_istore_n (L' := [some (vR g 63), some (vI 0)]) dX4_init_14 rfl rfl rfl ?_
  refine z_iload_n dX4_init_15 rfl ?_
  refine z_bipush dX4_init_16 (by decide +kernel) ?_
  refine z_icmp_ge (tgt := 40) dX4_init_18 (by decide) (inRd (x := 0) (by decide)) (inRd (x := 25) (by decide)) (fun hc => absurd hc (by decide)) (fun hc => ?_)
  refine z_aload_n dX4_init_21 rfl ?_
  refine y_getR (v := 64) dX4_init_22 cl4 (by decide +kernel) (by decide) (NL rfl) 0 rfl rfl (tin2 8 (by rfl) rfl) (by decide +kernel) (by decide) ?_
  refine z_iload_n dX4_init_25 rfl ?_
  refine z_new dX4_init_26 cl0 wDf0 (tin2 5 (by rfl) rfl) wIns0 ini_0 (by decide +kernel) (by rw [hb]; exact NL rfl) (hf2) ?_
  show Zt _ _ _ _ 29 _ [vR g 65, vI 0, vR g 64] (65, (up2 (fun _ _ => 0) 1 2 (-1)), J, gx_13)
  have hf3 : fresh 65 (up2 (fun _ _ => 0) 1 2 (-1)) J gx_13 := fresh_up (hf2) (by decide)
  refine z_dup dX4_init_29 rfl ?_
  refine z_callIN (As := []) (rest := [vR g 65, vI 0, vR g 64]) (n_B (z := 65) (G := gx_13) hf3 (by decide +kernel) (by decide)) dX4_init_30 mw_B_init (nin2 7 (by rfl) rfl) im_B_init rfl rfl rfl rfl rfl (NL rfl) (by rw [hb]; exact NL rfl) (fun _ => ?_)
  show Zt _ _ _ _ 33 _ [vR g 65, vI 0, vR g 64] (71, (up2 (fun _ _ => 0) 1 2 (-1)), J, gx_14)
  have hf4 : fresh 71 (up2 (fun _ _ => 0) 1 2 (-1)) J gx_14 := fresh_B (hf3)
  refine z_aast (n := 25) (v := 65) dX4_init_33 (by decide +kernel) (by decide) (NL rfl) (inRd (by decide)) (by decide) (by decide +kernel) (by decide) (NL rfl) ?_
  show Zt _ _ _ _ 34 _ [] (71, (up2 (fun _ _ => 0) 1 2 (-1)), J, gx_15)
  have hf5 : fresh 71 (up2 (fun _ _ => 0) 1 2 (-1)) J gx_15 := fresh_G (hf4) (by decide)
  refine z_iinc (L' := [some (vR g 63), some (vI 1)]) dX4_init_34 rfl rfl rfl (by rw [show w32 (0 + 1) = 1 from by decide +kernel]; rfl) ?_
  refine z_goto (tgt := 15) dX4_init_37 (by decide) ?_
  refine z_iload_n dX4_init_15 rfl ?_
  refine z_bipush dX4_init_16 (by decide +kernel) ?_
  refine z_icmp_ge (tgt := 40) dX4_init_18 (by decide) (inRd (x := 1) (by decide)) (inRd (x := 25) (by decide)) (fun hc => absurd hc (by decide)) (fun hc => ?_)
  refine z_aload_n dX4_init_21 rfl ?_
  refine y_getR (v := 64) dX4_init_22 cl4 (by decide +kernel) (by decide) (NL rfl) 0 rfl rfl (tin2 8 (by rfl) rfl) (by decide +kernel) (by decide) ?_
  refine z_iload_n dX4_init_25 rfl ?_
  refine z_new dX4_init_26 cl0 wDf0 (tin2 5 (by rfl) rfl) wIns0 ini_0 (by decide +kernel) (by rw [hb]; exact NL rfl) (hf5) ?_
  show Zt _ _ _ _ 29 _ [vR g 72, vI 1, vR g 64] (72, (up2 (fun _ _ => 0) 1 2 (-1)), J, gx_15)
  have hf6 : fresh 72 (up2 (fun _ _ => 0) 1 2 (-1)) J gx_15 := fresh_up (hf5) (by decide)
  refine z_dup dX4_init_29 rfl ?_
  refine z_callIN (As := []) (rest := [vR g 72, vI 1, vR g 64]) (n_B (z := 72) (G := gx_15) hf6 (by decide +kernel) (by decide)) dX4_init_30 mw_B_init (nin2 7 (by rfl) rfl) im_B_init rfl rfl rfl rfl rfl (NL rfl) (by rw [hb]; exact NL rfl) (fun _ => ?_)
  show Zt _ _ _ _ 33 _ [vR g 72, vI 1, vR g 64] (78, (up2 (fun _ _ => 0) 1 2 (-1)), J, gx_16)
  have hf7 : fresh 78 (up2 (fun _ _ => 0) 1 2 (-1)) J gx_16 := fresh_B (hf6)
  refine z_aast (n := 25) (v := 72) dX4_init_33 (by decide +kernel) (by decide) (NL rfl) (inRd (by decide)) (by decide) (by decide +kernel) (by decide) (NL rfl) ?_
  show Zt _ _ _ _ 34 _ [] (78, (up2 (fun _ _ => 0) 1 2 (-1)), J, gx_17)
  have hf8 : fresh 78 (up2 (fun _ _ => 0) 1 2 (-1)) J gx_17 := fresh_G (hf7) (by decide)
  refine z_iinc (L' := [some (vR g 63), some (vI 2)]) dX4_init_34 rfl rfl rfl (by rw [show w32 (1 + 1) = 2 from by decide +kernel]; rfl) ?_
  refine z_goto (tgt := 15) dX4_init_37 (by decide) ?_
  refine z_iload_n dX4_init_15 rfl ?_
  refine z_bipush dX4_init_16 (by decide +kernel) ?_
  refine z_icmp_ge (tgt := 40) dX4_init_18 (by decide) (inRd (x := 2) (by decide)) (inRd (x := 25) (by decide)) (fun hc => absurd hc (by decide)) (fun hc => ?_)
  refine z_aload_n dX4_init_21 rfl ?_
  refine y_getR (v := 64) dX4_init_22 cl4 (by decide +kernel) (by decide) (NL rfl) 0 rfl rfl (tin2 8 (by rfl) rfl) (by decide +kernel) (by decide) ?_
  refine z_iload_n dX4_init_25 rfl ?_
  refine z_new dX4_init_26 cl0 wDf0 (tin2 5 (by rfl) rfl) wIns0 ini_0 (by decide +kernel) (by rw [hb]; exact NL rfl) (hf8) ?_
  show Zt _ _ _ _ 29 _ [vR g 79, vI 2, vR g 64] (79, (up2 (fun _ _ => 0) 1 2 (-1)), J, gx_17)
  have hf9 : fresh 79 (up2 (fun _ _ => 0) 1 2 (-1)) J gx_17 := fresh_up (hf8) (by decide)
  refine z_dup dX4_init_29 rfl ?_
  refine z_callIN (As := []) (rest := [vR g 79, vI 2, vR g 64]) (n_B (z := 79) (G := gx_17) hf9 (by decide +kernel) (by decide)) dX4_init_30 mw_B_init (nin2 7 (by rfl) rfl) im_B_init rfl rfl rfl rfl rfl (NL rfl) (by rw [hb]; exact NL rfl) (fun _ => ?_)
  show Zt _ _ _ _ 33 _ [vR g 79, vI 2, vR g 64] (85, (up2 (fun _ _ => 0) 1 2 (-1)), J, gx_18)
  have hf10 : fresh 85 (up2 (fun _ _ => 0) 1 2 (-1)) J gx_18 := fresh_B (hf9)
  refine z_aast (n := 25) (v := 79) dX4_init_33 (by decide +kernel) (by decide) (NL rfl) (inRd (by decide)) (by decide) (by decide +kernel) (by decide) (NL rfl) ?_
  show Zt _ _ _ _ 34 _ [] (85, (up2 (fun _ _ => 0) 1 2 (-1)), J, gx_19)
  have hf11 : fresh 85 (up2 (fun _ _ => 0) 1 2 (-1)) J gx_19 := fresh_G (hf10) (by decide)
  refine z_iinc (L' := [some (vR g 63), some (vI 3)]) dX4_init_34 rfl rfl rfl (by rw [show w32 (2 + 1) = 3 from by decide +kernel]; rfl) ?_
  refine z_goto (tgt := 15) dX4_init_37 (by decide) ?_
  refine z_iload_n dX4_init_15 rfl ?_
  refine z_bipush dX4_init_16 (by decide +kernel) ?_
  refine z_icmp_ge (tgt := 40) dX4_init_18 (by decide) (inRd (x := 3) (by decide)) (inRd (x := 25) (by decide)) (fun hc => absurd hc (by decide)) (fun hc => ?_)
  refine z_aload_n dX4_init_21 rfl ?_
  refine y_getR (v := 64) dX4_init_22 cl4 (by decide +kernel) (by decide) (NL rfl) 0 rfl rfl (tin2 8 (by rfl) rfl) (by decide +kernel) (by decide) ?_
  refine z_iload_n dX4_init_25 rfl ?_
  refine z_new dX4_init_26 cl0 wDf0 (tin2 5 (by rfl) rfl) wIns0 ini_0 (by decide +kernel) (by rw [hb]; exact NL rfl) (hf11) ?_
  show Zt _ _ _ _ 29 _ [vR g 86, vI 3, vR g 64] (86, (up2 (fun _ _ => 0) 1 2 (-1)), J, gx_19)
  have hf12 : fresh 86 (up2 (fun _ _ => 0) 1 2 (-1)) J gx_19 := fresh_up (hf11) (by decide)
  refine z_dup dX4_init_29 rfl ?_
  refine z_callIN (As := []) (rest := [vR g 86, vI 3, vR g 64]) (n_B (z := 86) (G := gx_19) hf12 (by decide +kernel) (by decide)) dX4_init_30 mw_B_init (nin2 7 (by rfl) rfl) im_B_init rfl rfl rfl rfl rfl (NL rfl) (by rw [hb]; exact NL rfl) (fun _ => ?_)
  show Zt _ _ _ _ 33 _ [vR g 86, vI 3, vR g 64] (92, (up2 (fun _ _ => 0) 1 2 (-1)), J, gx_20)
  have hf13 : fresh 92 (up2 (fun _ _ => 0) 1 2 (-1)) J gx_20 := fresh_B (hf12)
  refine z_aast (n := 25) (v := 86) dX4_init_33 (by decide +kernel) (by decide) (NL rfl) (inRd (by decide)) (by decide) (by decide +kernel) (by decide) (NL rfl) ?_
  show Zt _ _ _ _ 34 _ [] (92, (up2 (fun _ _ => 0) 1 2 (-1)), J, gx_21)
  have hf14 : fresh 92 (up2 (fun _ _ => 0) 1 2 (-1)) J gx_21 := fresh_G (hf13) (by decide)
  refine z_iinc (L' := [some (vR g 63), some (vI 4)]) dX4_init_34 rfl rfl rfl (by rw [show w32 (3 + 1) = 4 from by decide +kernel]; rfl) ?_
  refine z_goto (tgt := 15) dX4_init_37 (by decide) ?_
  refine z_iload_n dX4_init_15 rfl ?_
  refine z_bipush dX4_init_16 (by decide +kernel) ?_
  refine z_icmp_ge (tgt := 40) dX4_init_18 (by decide) (inRd (x := 4) (by decide)) (inRd (x := 25) (by decide)) (fun hc => absurd hc (by decide)) (fun hc => ?_)
  refine z_aload_n dX4_init_21 rfl ?_
  refine y_getR (v := 64) dX4_init_22 cl4 (by decide +kernel) (by decide) (NL rfl) 0 rfl rfl (tin2 8 (by rfl) rfl) (by decide +kernel) (by decide) ?_
  refine z_iload_n dX4_init_25 rfl ?_
  refine z_new dX4_init_26 cl0 wDf0 (tin2 5 (by rfl) rfl) wIns0 ini_0 (by decide +kernel) (by rw [hb]; exact NL rfl) (hf14) ?_
  show Zt _ _ _ _ 29 _ [vR g 93, vI 4, vR g 64] (93, (up2 (fun _ _ => 0) 1 2 (-1)), J, gx_21)
  have hf15 : fresh 93 (up2 (fun _ _ => 0) 1 2 (-1)) J gx_21 := fresh_up (hf14) (by decide)
  refine z_dup dX4_init_29 rfl ?_
  refine z_callIN (As := []) (rest := [vR g 93, vI 4, vR g 64]) (n_B (z := 93) (G := gx_21) hf15 (by decide +kernel) (by decide)) dX4_init_30 mw_B_init (nin2 7 (by rfl) rfl) im_B_init rfl rfl rfl rfl rfl (NL rfl) (by rw [hb]; exact NL rfl) (fun _ => ?_)
  show Zt _ _ _ _ 33 _ [vR g 93, vI 4, vR g 64] (99, (up2 (fun _ _ => 0) 1 2 (-1)), J, gx_22)
  have hf16 : fresh 99 (up2 (fun _ _ => 0) 1 2 (-1)) J gx_22 := fresh_B (hf15)
  refine z_aast (n := 25) (v := 93) dX4_init_33 (by decide +kernel) (by decide) (NL rfl) (inRd (by decide)) (by decide) (by decide +kernel) (by decide) (NL rfl) ?_
  show Zt _ _ _ _ 34 _ [] (99, (up2 (fun _ _ => 0) 1 2 (-1)), J, gx_23)
  have hf17 : fresh 99 (up2 (fun _ _ => 0) 1 2 (-1)) J gx_23 := fresh_G (hf16) (by decide)
  refine z_iinc (L' := [some (vR g 63), some (vI 5)]) dX4_init_34 rfl rfl rfl (by rw [show w32 (4 + 1) = 5 from by decide +kernel]; rfl) ?_
  refine z_goto (tgt := 15) dX4_init_37 (by decide) ?_
  refine z_iload_n dX4_init_15 rfl ?_
  refine z_bipush dX4_init_16 (by decide +kernel) ?_
  refine z_icmp_ge (tgt := 40) dX4_init_18 (by decide) (inRd (x := 5) (by decide)) (inRd (x := 25) (by decide)) (fun hc => absurd hc (by decide)) (fun hc => ?_)
  refine z_aload_n dX4_init_21 rfl ?_
  refine y_getR (v := 64) dX4_init_22 cl4 (by decide +kernel) (by decide) (NL rfl) 0 rfl rfl (tin2 8 (by rfl) rfl) (by decide +kernel) (by decide) ?_
  refine z_iload_n dX4_init_25 rfl ?_
  refine z_new dX4_init_26 cl0 wDf0 (tin2 5 (by rfl) rfl) wIns0 ini_0 (by decide +kernel) (by rw [hb]; exact NL rfl) (hf17) ?_
  show Zt _ _ _ _ 29 _ [vR g 100, vI 5, vR g 64] (100, (up2 (fun _ _ => 0) 1 2 (-1)), J, gx_23)
  have hf18 : fresh 100 (up2 (fun _ _ => 0) 1 2 (-1)) J gx_23 := fresh_up (hf17) (by decide)
  refine z_dup dX4_init_29 rfl ?_
  refine z_callIN (As := []) (rest := [vR g 100, vI 5, vR g 64]) (n_B (z := 100) (G := gx_23) hf18 (by decide +kernel) (by decide)) dX4_init_30 mw_B_init (nin2 7 (by rfl) rfl) im_B_init rfl rfl rfl rfl rfl (NL rfl) (by rw [hb]; exact NL rfl) (fun _ => ?_)
  show Zt _ _ _ _ 33 _ [vR g 100, vI 5, vR g 64] (106, (up2 (fun _ _ => 0) 1 2 (-1)), J, gx_24)
  have hf19 : fresh 106 (up2 (fun _ _ => 0) 1 2 (-1)) J gx_24 := fresh_B (hf18)
  refine z_aast (n := 25) (v := 100) dX4_init_33 (by decide +kernel) (by decide) (NL rfl) (inRd (by decide)) (by decide) (by decide +kernel) (by decide) (NL rfl) ?_
  show Zt _ _ _ _ 34 _ [] (106, (up2 (fun _ _ => 0) 1 2 (-1)), J, gx_25)
  have hf20 : fresh 106 (up2 (fun _ _ => 0) 1 2 (-1)) J gx_25 := fresh_G (hf19) (by decide)
  refine z_iinc (L' := [some (vR g 63), some (vI 6)]) dX4_init_34 rfl rfl rfl (by rw [show w32 (5 + 1) = 6 from by decide +kernel]; rfl) ?_
  refine z_goto (tgt := 15) dX4_init_37 (by decide) ?_
  refine z_iload_n dX4_init_15 rfl ?_
  refine z_bipush dX4_init_16 (by decide +kernel) ?_
  refine z_icmp_ge (tgt := 40) dX4_init_18 (by decide) (inRd (x := 6) (by decide)) (inRd (x := 25) (by decide)) (fun hc => absurd hc (by decide)) (fun hc => ?_)
  refine z_aload_n dX4_init_21 rfl ?_
  refine y_getR (v := 64) dX4_init_22 cl4 (by decide +kernel) (by decide) (NL rfl) 0 rfl rfl (tin2 8 (by rfl) rfl) (by decide +kernel) (by decide) ?_
  refine z_iload_n dX4_init_25 rfl ?_
  refine z_new dX4_init_26 cl0 wDf0 (tin2 5 (by rfl) rfl) wIns0 ini_0 (by decide +kernel) (by rw [hb]; exact NL rfl) (hf20) ?_
  show Zt _ _ _ _ 29 _ [vR g 107, vI 6, vR g 64] (107, (up2 (fun _ _ => 0) 1 2 (-1)), J, gx_25)
  have hf21 : fresh 107 (up2 (fun _ _ => 0) 1 2 (-1)) J gx_25 := fresh_up (hf20) (by decide)
  refine z_dup dX4_init_29 rfl ?_
  refine z_callIN (As := []) (rest := [vR g 107, vI 6, vR g 64]) (n_B (z := 107) (G := gx_25) hf21 (by decide +kernel) (by decide)) dX4_init_30 mw_B_init (nin2 7 (by rfl) rfl) im_B_init rfl rfl rfl rfl rfl (NL rfl) (by rw [hb]; exact NL rfl) (fun _ => ?_)
  show Zt _ _ _ _ 33 _ [vR g 107, vI 6, vR g 64] (113, (up2 (fun _ _ => 0) 1 2 (-1)), J, gx_26)
  have hf22 : fresh 113 (up2 (fun _ _ => 0) 1 2 (-1)) J gx_26 := fresh_B (hf21)
  refine z_aast (n := 25) (v := 107) dX4_init_33 (by decide +kernel) (by decide) (NL rfl) (inRd (by decide)) (by decide) (by decide +kernel) (by decide) (NL rfl) ?_
  show Zt _ _ _ _ 34 _ [] (113, (up2 (fun _ _ => 0) 1 2 (-1)), J, gx_27)
  have hf23 : fresh 113 (up2 (fun _ _ => 0) 1 2 (-1)) J gx_27 := fresh_G (hf22) (by decide)
  refine z_iinc (L' := [some (vR g 63), some (vI 7)]) dX4_init_34 rfl rfl rfl (by rw [show w32 (6 + 1) = 7 from by decide +kernel]; rfl) ?_
  refine z_goto (tgt := 15) dX4_init_37 (by decide) ?_
  refine z_iload_n dX4_init_15 rfl ?_
  refine z_bipush dX4_init_16 (by decide +kernel) ?_
  refine z_icmp_ge (tgt := 40) dX4_init_18 (by decide) (inRd (x := 7) (by decide)) (inRd (x := 25) (by decide)) (fun hc => absurd hc (by decide)) (fun hc => ?_)
  refine z_aload_n dX4_init_21 rfl ?_
  refine y_getR (v := 64) dX4_init_22 cl4 (by decide +kernel) (by decide) (NL rfl) 0 rfl rfl (tin2 8 (by rfl) rfl) (by decide +kernel) (by decide) ?_
  refine z_iload_n dX4_init_25 rfl ?_
  refine z_new dX4_init_26 cl0 wDf0 (tin2 5 (by rfl) rfl) wIns0 ini_0 (by decide +kernel) (by rw [hb]; exact NL rfl) (hf23) ?_
  show Zt _ _ _ _ 29 _ [vR g 114, vI 7, vR g 64] (114, (up2 (fun _ _ => 0) 1 2 (-1)), J, gx_27)
  have hf24 : fresh 114 (up2 (fun _ _ => 0) 1 2 (-1)) J gx_27 := fresh_up (hf23) (by decide)
  refine z_dup dX4_init_29 rfl ?_
  refine z_callIN (As := []) (rest := [vR g 114, vI 7, vR g 64]) (n_B (z := 114) (G := gx_27) hf24 (by decide +kernel) (by decide)) dX4_init_30 mw_B_init (nin2 7 (by rfl) rfl) im_B_init rfl rfl rfl rfl rfl (NL rfl) (by rw [hb]; exact NL rfl) (fun _ => ?_)
  show Zt _ _ _ _ 33 _ [vR g 114, vI 7, vR g 64] (120, (up2 (fun _ _ => 0) 1 2 (-1)), J, gx_28)
  have hf25 : fresh 120 (up2 (fun _ _ => 0) 1 2 (-1)) J gx_28 := fresh_B (hf24)
  refine z_aast (n := 25) (v := 114) dX4_init_33 (by decide +kernel) (by decide) (NL rfl) (inRd (by decide)) (by decide) (by decide +kernel) (by decide) (NL rfl) ?_
  show Zt _ _ _ _ 34 _ [] (120, (up2 (fun _ _ => 0) 1 2 (-1)), J, gx_29)
  have hf26 : fresh 120 (up2 (fun _ _ => 0) 1 2 (-1)) J gx_29 := fresh_G (hf25) (by decide)
  refine z_iinc (L' := [some (vR g 63), some (vI 8)]) dX4_init_34 rfl rfl rfl (by rw [show w32 (7 + 1) = 8 from by decide +kernel]; rfl) ?_
  refine z_goto (tgt := 15) dX4_init_37 (by decide) ?_
  refine z_iload_n dX4_init_15 rfl ?_
  refine z_bipush dX4_init_16 (by decide +kernel) ?_
  refine z_icmp_ge (tgt := 40) dX4_init_18 (by decide) (inRd (x := 8) (by decide)) (inRd (x := 25) (by decide)) (fun hc => absurd hc (by decide)) (fun hc => ?_)
  refine z_aload_n dX4_init_21 rfl ?_
  refine y_getR (v := 64) dX4_init_22 cl4 (by decide +kernel) (by decide) (NL rfl) 0 rfl rfl (tin2 8 (by rfl) rfl) (by decide +kernel) (by decide) ?_
  refine z_iload_n dX4_init_25 rfl ?_
  refine z_new dX4_init_26 cl0 wDf0 (tin2 5 (by rfl) rfl) wIns0 ini_0 (by decide +kernel) (by rw [hb]; exact NL rfl) (hf26) ?_
  show Zt _ _ _ _ 29 _ [vR g 121, vI 8, vR g 64] (121, (up2 (fun _ _ => 0) 1 2 (-1)), J, gx_29)
  have hf27 : fresh 121 (up2 (fun _ _ => 0) 1 2 (-1)) J gx_29 := fresh_up (hf26) (by decide)
  refine z_dup dX4_init_29 rfl ?_
  refine z_callIN (As := []) (rest := [vR g 121, vI 8, vR g 64]) (n_B (z := 121) (G := gx_29) hf27 (by decide +kernel) (by decide)) dX4_init_30 mw_B_init (nin2 7 (by rfl) rfl) im_B_init rfl rfl rfl rfl rfl (NL rfl) (by rw [hb]; exact NL rfl) (fun _ => ?_)
  show Zt _ _ _ _ 33 _ [vR g 121, vI 8, vR g 64] (127, (up2 (fun _ _ => 0) 1 2 (-1)), J, gx_30)
  have hf28 : fresh 127 (up2 (fun _ _ => 0) 1 2 (-1)) J gx_30 := fresh_B (hf27)
  refine z_aast (n := 25) (v := 121) dX4_init_33 (by decide +kernel) (by decide) (NL rfl) (inRd (by decide)) (by decide) (by decide +kernel) (by decide) (NL rfl) ?_
  show Zt _ _ _ _ 34 _ [] (127, (up2 (fun _ _ => 0) 1 2 (-1)), J, gx_31)
  have hf29 : fresh 127 (up2 (fun _ _ => 0) 1 2 (-1)) J gx_31 := fresh_G (hf28) (by decide)
  refine z_iinc (L' := [some (vR g 63), some (vI 9)]) dX4_init_34 rfl rfl rfl (by rw [show w32 (8 + 1) = 9 from by decide +kernel]; rfl) ?_
  refine z_goto (tgt := 15) dX4_init_37 (by decide) ?_
  refine z_iload_n dX4_init_15 rfl ?_
  refine z_bipush dX4_init_16 (by decide +kernel) ?_
  refine z_icmp_ge (tgt := 40) dX4_init_18 (by decide) (inRd (x := 9) (by decide)) (inRd (x := 25) (by decide)) (fun hc => absurd hc (by decide)) (fun hc => ?_)
  refine z_aload_n dX4_init_21 rfl ?_
  refine y_getR (v := 64) dX4_init_22 cl4 (by decide +kernel) (by decide) (NL rfl) 0 rfl rfl (tin2 8 (by rfl) rfl) (by decide +kernel) (by decide) ?_
  refine z_iload_n dX4_init_25 rfl ?_
  refine z_new dX4_init_26 cl0 wDf0 (tin2 5 (by rfl) rfl) wIns0 ini_0 (by decide +kernel) (by rw [hb]; exact NL rfl) (hf29) ?_
  show Zt _ _ _ _ 29 _ [vR g 128, vI 9, vR g 64] (128, (up2 (fun _ _ => 0) 1 2 (-1)), J, gx_31)
  have hf30 : fresh 128 (up2 (fun _ _ => 0) 1 2 (-1)) J gx_31 := fresh_up (hf29) (by decide)
  refine z_dup dX4_init_29 rfl ?_
  refine z_callIN (As := []) (rest := [vR g 128, vI 9, vR g 64]) (n_B (z := 128) (G := gx_31) hf30 (by decide +kernel) (by decide)) dX4_init_30 mw_B_init (nin2 7 (by rfl) rfl) im_B_init rfl rfl rfl rfl rfl (NL rfl) (by rw [hb]; exact NL rfl) (fun _ => ?_)
  show Zt _ _ _ _ 33 _ [vR g 128, vI 9, vR g 64] (134, (up2 (fun _ _ => 0) 1 2 (-1)), J, gx_32)
  have hf31 : fresh 134 (up2 (fun _ _ => 0) 1 2 (-1)) J gx_32 := fresh_B (hf30)
  refine z_aast (n := 25) (v := 128) dX4_init_33 (by decide +kernel) (by decide) (NL rfl) (inRd (by decide)) (by decide) (by decide +kernel) (by decide) (NL rfl) ?_
  show Zt _ _ _ _ 34 _ [] (134, (up2 (fun _ _ => 0) 1 2 (-1)), J, gx_33)
  have hf32 : fresh 134 (up2 (fun _ _ => 0) 1 2 (-1)) J gx_33 := fresh_G (hf31) (by decide)
  refine z_iinc (L' := [some (vR g 63), some (vI 10)]) dX4_init_34 rfl rfl rfl (by rw [show w32 (9 + 1) = 10 from by decide +kernel]; rfl) ?_
  refine z_goto (tgt := 15) dX4_init_37 (by decide) ?_
  refine z_iload_n dX4_init_15 rfl ?_
  refine z_bipush dX4_init_16 (by decide +kernel) ?_
  refine z_icmp_ge (tgt := 40) dX4_init_18 (by decide) (inRd (x := 10) (by decide)) (inRd (x := 25) (by decide)) (fun hc => absurd hc (by decide)) (fun hc => ?_)
  refine z_aload_n dX4_init_21 rfl ?_
  refine y_getR (v := 64) dX4_init_22 cl4 (by decide +kernel) (by decide) (NL rfl) 0 rfl rfl (tin2 8 (by rfl) rfl) (by decide +kernel) (by decide) ?_
  refine z_iload_n dX4_init_25 rfl ?_
  refine z_new dX4_init_26 cl0 wDf0 (tin2 5 (by rfl) rfl) wIns0 ini_0 (by decide +kernel) (by rw [hb]; exact NL rfl) (hf32) ?_
  show Zt _ _ _ _ 29 _ [vR g 135, vI 10, vR g 64] (135, (up2 (fun _ _ => 0) 1 2 (-1)), J, gx_33)
  have hf33 : fresh 135 (up2 (fun _ _ => 0) 1 2 (-1)) J gx_33 := fresh_up (hf32) (by decide)
  refine z_dup dX4_init_29 rfl ?_
  refine z_callIN (As := []) (rest := [vR g 135, vI 10, vR g 64]) (n_B (z := 135) (G := gx_33) hf33 (by decide +kernel) (by decide)) dX4_init_30 mw_B_init (nin2 7 (by rfl) rfl) im_B_init rfl rfl rfl rfl rfl (NL rfl) (by rw [hb]; exact NL rfl) (fun _ => ?_)
  show Zt _ _ _ _ 33 _ [vR g 135, vI 10, vR g 64] (141, (up2 (fun _ _ => 0) 1 2 (-1)), J, gx_34)
  have hf34 : fresh 141 (up2 (fun _ _ => 0) 1 2 (-1)) J gx_34 := fresh_B (hf33)
  refine z_aast (n := 25) (v := 135) dX4_init_33 (by decide +kernel) (by decide) (NL rfl) (inRd (by decide)) (by decide) (by decide +kernel) (by decide) (NL rfl) ?_
  show Zt _ _ _ _ 34 _ [] (141, (up2 (fun _ _ => 0) 1 2 (-1)), J, gx_35)
  have hf35 : fresh 141 (up2 (fun _ _ => 0) 1 2 (-1)) J gx_35 := fresh_G (hf34) (by decide)
  refine z_iinc (L' := [some (vR g 63), some (vI 11)]) dX4_init_34 rfl rfl rfl (by rw [show w32 (10 + 1) = 11 from by decide +kernel]; rfl) ?_
  refine z_goto (tgt := 15) dX4_init_37 (by decide) ?_
  refine z_iload_n dX4_init_15 rfl ?_
  refine z_bipush dX4_init_16 (by decide +kernel) ?_
  refine z_icmp_ge (tgt := 40) dX4_init_18 (by decide) (inRd (x := 11) (by decide)) (inRd (x := 25) (by decide)) (fun hc => absurd hc (by decide)) (fun hc => ?_)
  refine z_aload_n dX4_init_21 rfl ?_
  refine y_getR (v := 64) dX4_init_22 cl4 (by decide +kernel) (by decide) (NL rfl) 0 rfl rfl (tin2 8 (by rfl) rfl) (by decide +kernel) (by decide) ?_
  refine z_iload_n dX4_init_25 rfl ?_
  refine z_new dX4_init_26 cl0 wDf0 (tin2 5 (by rfl) rfl) wIns0 ini_0 (by decide +kernel) (by rw [hb]; exact NL rfl) (hf35) ?_
  show Zt _ _ _ _ 29 _ [vR g 142, vI 11, vR g 64] (142, (up2 (fun _ _ => 0) 1 2 (-1)), J, gx_35)
  have hf36 : fresh 142 (up2 (fun _ _ => 0) 1 2 (-1)) J gx_35 := fresh_up (hf35) (by decide)
  refine z_dup dX4_init_29 rfl ?_
  refine z_callIN (As := []) (rest := [vR g 142, vI 11, vR g 64]) (n_B (z := 142) (G := gx_35) hf36 (by decide +kernel) (by decide)) dX4_init_30 mw_B_init (nin2 7 (by rfl) rfl) im_B_init rfl rfl rfl rfl rfl (NL rfl) (by rw [hb]; exact NL rfl) (fun _ => ?_)
  show Zt _ _ _ _ 33 _ [vR g 142, vI 11, vR g 64] (148, (up2 (fun _ _ => 0) 1 2 (-1)), J, gx_36)
  have hf37 : fresh 148 (up2 (fun _ _ => 0) 1 2 (-1)) J gx_36 := fresh_B (hf36)
  refine z_aast (n := 25) (v := 142) dX4_init_33 (by decide +kernel) (by decide) (NL rfl) (inRd (by decide)) (by decide) (by decide +kernel) (by decide) (NL rfl) ?_
  show Zt _ _ _ _ 34 _ [] (148, (up2 (fun _ _ => 0) 1 2 (-1)), J, gx_37)
  have hf38 : fresh 148 (up2 (fun _ _ => 0) 1 2 (-1)) J gx_37 := fresh_G (hf37) (by decide)
  refine z_iinc (L' := [some (vR g 63), some (vI 12)]) dX4_init_34 rfl rfl rfl (by rw [show w32 (11 + 1) = 12 from by decide +kernel]; rfl) ?_
  refine z_goto (tgt := 15) dX4_init_37 (by decide) ?_
  refine z_iload_n dX4_init_15 rfl ?_
  refine z_bipush dX4_init_16 (by decide +kernel) ?_
  refine z_icmp_ge (tgt := 40) dX4_init_18 (by decide) (inRd (x := 12) (by decide)) (inRd (x := 25) (by decide)) (fun hc => absurd hc (by decide)) (fun hc => ?_)
  refine z_aload_n dX4_init_21 rfl ?_
  refine y_getR (v := 64) dX4_init_22 cl4 (by decide +kernel) (by decide) (NL rfl) 0 rfl rfl (tin2 8 (by rfl) rfl) (by decide +kernel) (by decide) ?_
  refine z_iload_n dX4_init_25 rfl ?_
  refine z_new dX4_init_26 cl0 wDf0 (tin2 5 (by rfl) rfl) wIns0 ini_0 (by decide +kernel) (by rw [hb]; exact NL rfl) (hf38) ?_
  show Zt _ _ _ _ 29 _ [vR g 149, vI 12, vR g 64] (149, (up2 (fun _ _ => 0) 1 2 (-1)), J, gx_37)
  have hf39 : fresh 149 (up2 (fun _ _ => 0) 1 2 (-1)) J gx_37 := fresh_up (hf38) (by decide)
  refine z_dup dX4_init_29 rfl ?_
  refine z_callIN (As := []) (rest := [vR g 149, vI 12, vR g 64]) (n_B (z := 149) (G := gx_37) hf39 (by decide +kernel) (by decide)) dX4_init_30 mw_B_init (nin2 7 (by rfl) rfl) im_B_init rfl rfl rfl rfl rfl (NL rfl) (by rw [hb]; exact NL rfl) (fun _ => ?_)
  show Zt _ _ _ _ 33 _ [vR g 149, vI 12, vR g 64] (155, (up2 (fun _ _ => 0) 1 2 (-1)), J, gx_38)
  have hf40 : fresh 155 (up2 (fun _ _ => 0) 1 2 (-1)) J gx_38 := fresh_B (hf39)
  refine z_aast (n := 25) (v := 149) dX4_init_33 (by decide +kernel) (by decide) (NL rfl) (inRd (by decide)) (by decide) (by decide +kernel) (by decide) (NL rfl) ?_
  show Zt _ _ _ _ 34 _ [] (155, (up2 (fun _ _ => 0) 1 2 (-1)), J, gx_39)
  have hf41 : fresh 155 (up2 (fun _ _ => 0) 1 2 (-1)) J gx_39 := fresh_G (hf40) (by decide)
  refine z_iinc (L' := [some (vR g 63), some (vI 13)]) dX4_init_34 rfl rfl rfl (by rw [show w32 (12 + 1) = 13 from by decide +kernel]; rfl) ?_
  refine z_goto (tgt := 15) dX4_init_37 (by decide) ?_
  refine z_iload_n dX4_init_15 rfl ?_
  refine z_bipush dX4_init_16 (by decide +kernel) ?_
  refine z_icmp_ge (tgt := 40) dX4_init_18 (by decide) (inRd (x := 13) (by decide)) (inRd (x := 25) (by decide)) (fun hc => absurd hc (by decide)) (fun hc => ?_)
  refine z_aload_n dX4_init_21 rfl ?_
  refine y_getR (v := 64) dX4_init_22 cl4 (by decide +kernel) (by decide) (NL rfl) 0 rfl rfl (tin2 8 (by rfl) rfl) (by decide +kernel) (by decide) ?_
  refine z_iload_n dX4_init_25 rfl ?_
  refine z_new dX4_init_26 cl0 wDf0 (tin2 5 (by rfl) rfl) wIns0 ini_0 (by decide +kernel) (by rw [hb]; exact NL rfl) (hf41) ?_
  show Zt _ _ _ _ 29 _ [vR g 156, vI 13, vR g 64] (156, (up2 (fun _ _ => 0) 1 2 (-1)), J, gx_39)
  have hf42 : fresh 156 (up2 (fun _ _ => 0) 1 2 (-1)) J gx_39 := fresh_up (hf41) (by decide)
  refine z_dup dX4_init_29 rfl ?_
  refine z_callIN (As := []) (rest := [vR g 156, vI 13, vR g 64]) (n_B (z := 156) (G := gx_39) hf42 (by decide +kernel) (by decide)) dX4_init_30 mw_B_init (nin2 7 (by rfl) rfl) im_B_init rfl rfl rfl rfl rfl (NL rfl) (by rw [hb]; exact NL rfl) (fun _ => ?_)
  show Zt _ _ _ _ 33 _ [vR g 156, vI 13, vR g 64] (162, (up2 (fun _ _ => 0) 1 2 (-1)), J, gx_40)
  have hf43 : fresh 162 (up2 (fun _ _ => 0) 1 2 (-1)) J gx_40 := fresh_B (hf42)
  refine z_aast (n := 25) (v := 156) dX4_init_33 (by decide +kernel) (by decide) (NL rfl) (inRd (by decide)) (by decide) (by decide +kernel) (by decide) (NL rfl) ?_
  show Zt _ _ _ _ 34 _ [] (162, (up2 (fun _ _ => 0) 1 2 (-1)), J, gx_41)
  have hf44 : fresh 162 (up2 (fun _ _ => 0) 1 2 (-1)) J gx_41 := fresh_G (hf43) (by decide)
  refine z_iinc (L' := [some (vR g 63), some (vI 14)]) dX4_init_34 rfl rfl rfl (by rw [show w32 (13 + 1) = 14 from by decide +kernel]; rfl) ?_
  refine z_goto (tgt := 15) dX4_init_37 (by decide) ?_
  refine z_iload_n dX4_init_15 rfl ?_
  refine z_bipush dX4_init_16 (by decide +kernel) ?_
  refine z_icmp_ge (tgt := 40) dX4_init_18 (by decide) (inRd (x := 14) (by decide)) (inRd (x := 25) (by decide)) (fun hc => absurd hc (by decide)) (fun hc => ?_)
  refine z_aload_n dX4_init_21 rfl ?_
  refine y_getR (v := 64) dX4_init_22 cl4 (by decide +kernel) (by decide) (NL rfl) 0 rfl rfl (tin2 8 (by rfl) rfl) (by decide +kernel) (by decide) ?_
  refine z_iload_n dX4_init_25 rfl ?_
  refine z_new dX4_init_26 cl0 wDf0 (tin2 5 (by rfl) rfl) wIns0 ini_0 (by decide +kernel) (by rw [hb]; exact NL rfl) (hf44) ?_
  show Zt _ _ _ _ 29 _ [vR g 163, vI 14, vR g 64] (163, (up2 (fun _ _ => 0) 1 2 (-1)), J, gx_41)
  have hf45 : fresh 163 (up2 (fun _ _ => 0) 1 2 (-1)) J gx_41 := fresh_up (hf44) (by decide)
  refine z_dup dX4_init_29 rfl ?_
  refine z_callIN (As := []) (rest := [vR g 163, vI 14, vR g 64]) (n_B (z := 163) (G := gx_41) hf45 (by decide +kernel) (by decide)) dX4_init_30 mw_B_init (nin2 7 (by rfl) rfl) im_B_init rfl rfl rfl rfl rfl (NL rfl) (by rw [hb]; exact NL rfl) (fun _ => ?_)
  show Zt _ _ _ _ 33 _ [vR g 163, vI 14, vR g 64] (169, (up2 (fun _ _ => 0) 1 2 (-1)), J, gx_42)
  have hf46 : fresh 169 (up2 (fun _ _ => 0) 1 2 (-1)) J gx_42 := fresh_B (hf45)
  refine z_aast (n := 25) (v := 163) dX4_init_33 (by decide +kernel) (by decide) (NL rfl) (inRd (by decide)) (by decide) (by decide +kernel) (by decide) (NL rfl) ?_
  show Zt _ _ _ _ 34 _ [] (169, (up2 (fun _ _ => 0) 1 2 (-1)), J, gx_43)
  have hf47 : fresh 169 (up2 (fun _ _ => 0) 1 2 (-1)) J gx_43 := fresh_G (hf46) (by decide)
  refine z_iinc (L' := [some (vR g 63), some (vI 15)]) dX4_init_34 rfl rfl rfl (by rw [show w32 (14 + 1) = 15 from by decide +kernel]; rfl) ?_
  refine z_goto (tgt := 15) dX4_init_37 (by decide) ?_
  refine z_iload_n dX4_init_15 rfl ?_
  refine z_bipush dX4_init_16 (by decide +kernel) ?_
  refine z_icmp_ge (tgt := 40) dX4_init_18 (by decide) (inRd (x := 15) (by decide)) (inRd (x := 25) (by decide)) (fun hc => absurd hc (by decide)) (fun hc => ?_)
  refine z_aload_n dX4_init_21 rfl ?_
  refine y_getR (v := 64) dX4_init_22 cl4 (by decide +kernel) (by decide) (NL rfl) 0 rfl rfl (tin2 8 (by rfl) rfl) (by decide +kernel) (by decide) ?_
  refine z_iload_n dX4_init_25 rfl ?_
  refine z_new dX4_init_26 cl0 wDf0 (tin2 5 (by rfl) rfl) wIns0 ini_0 (by decide +kernel) (by rw [hb]; exact NL rfl) (hf47) ?_
  show Zt _ _ _ _ 29 _ [vR g 170, vI 15, vR g 64] (170, (up2 (fun _ _ => 0) 1 2 (-1)), J, gx_43)
  have hf48 : fresh 170 (up2 (fun _ _ => 0) 1 2 (-1)) J gx_43 := fresh_up (hf47) (by decide)
  refine z_dup dX4_init_29 rfl ?_
  refine z_callIN (As := []) (rest := [vR g 170, vI 15, vR g 64]) (n_B (z := 170) (G := gx_43) hf48 (by decide +kernel) (by decide)) dX4_init_30 mw_B_init (nin2 7 (by rfl) rfl) im_B_init rfl rfl rfl rfl rfl (NL rfl) (by rw [hb]; exact NL rfl) (fun _ => ?_)
  show Zt _ _ _ _ 33 _ [vR g 170, vI 15, vR g 64] (176, (up2 (fun _ _ => 0) 1 2 (-1)), J, gx_44)
  have hf49 : fresh 176 (up2 (fun _ _ => 0) 1 2 (-1)) J gx_44 := fresh_B (hf48)
  refine z_aast (n := 25) (v := 170) dX4_init_33 (by decide +kernel) (by decide) (NL rfl) (inRd (by decide)) (by decide) (by decide +kernel) (by decide) (NL rfl) ?_
  show Zt _ _ _ _ 34 _ [] (176, (up2 (fun _ _ => 0) 1 2 (-1)), J, gx_45)
  have hf50 : fresh 176 (up2 (fun _ _ => 0) 1 2 (-1)) J gx_45 := fresh_G (hf49) (by decide)
  refine z_iinc (L' := [some (vR g 63), some (vI 16)]) dX4_init_34 rfl rfl rfl (by rw [show w32 (15 + 1) = 16 from by decide +kernel]; rfl) ?_
  refine z_goto (tgt := 15) dX4_init_37 (by decide) ?_
  refine z_iload_n dX4_init_15 rfl ?_
  refine z_bipush dX4_init_16 (by decide +kernel) ?_
  refine z_icmp_ge (tgt := 40) dX4_init_18 (by decide) (inRd (x := 16) (by decide)) (inRd (x := 25) (by decide)) (fun hc => absurd hc (by decide)) (fun hc => ?_)
  refine z_aload_n dX4_init_21 rfl ?_
  refine y_getR (v := 64) dX4_init_22 cl4 (by decide +kernel) (by decide) (NL rfl) 0 rfl rfl (tin2 8 (by rfl) rfl) (by decide +kernel) (by decide) ?_
  refine z_iload_n dX4_init_25 rfl ?_
  refine z_new dX4_init_26 cl0 wDf0 (tin2 5 (by rfl) rfl) wIns0 ini_0 (by decide +kernel) (by rw [hb]; exact NL rfl) (hf50) ?_
  show Zt _ _ _ _ 29 _ [vR g 177, vI 16, vR g 64] (177, (up2 (fun _ _ => 0) 1 2 (-1)), J, gx_45)
  have hf51 : fresh 177 (up2 (fun _ _ => 0) 1 2 (-1)) J gx_45 := fresh_up (hf50) (by decide)
  refine z_dup dX4_init_29 rfl ?_
  refine z_callIN (As := []) (rest := [vR g 177, vI 16, vR g 64]) (n_B (z := 177) (G := gx_45) hf51 (by decide +kernel) (by decide)) dX4_init_30 mw_B_init (nin2 7 (by rfl) rfl) im_B_init rfl rfl rfl rfl rfl (NL rfl) (by rw [hb]; exact NL rfl) (fun _ => ?_)
  show Zt _ _ _ _ 33 _ [vR g 177, vI 16, vR g 64] (183, (up2 (fun _ _ => 0) 1 2 (-1)), J, gx_46)
  have hf52 : fresh 183 (up2 (fun _ _ => 0) 1 2 (-1)) J gx_46 := fresh_B (hf51)
  refine z_aast (n := 25) (v := 177) dX4_init_33 (by decide +kernel) (by decide) (NL rfl) (inRd (by decide)) (by decide) (by decide +kernel) (by decide) (NL rfl) ?_
  show Zt _ _ _ _ 34 _ [] (183, (up2 (fun _ _ => 0) 1 2 (-1)), J, gx_47)
  have hf53 : fresh 183 (up2 (fun _ _ => 0) 1 2 (-1)) J gx_47 := fresh_G (hf52) (by decide)
  refine z_iinc (L' := [some (vR g 63), some (vI 17)]) dX4_init_34 rfl rfl rfl (by rw [show w32 (16 + 1) = 17 from by decide +kernel]; rfl) ?_
  refine z_goto (tgt := 15) dX4_init_37 (by decide) ?_
  refine z_iload_n dX4_init_15 rfl ?_
  refine z_bipush dX4_init_16 (by decide +kernel) ?_
  refine z_icmp_ge (tgt := 40) dX4_init_18 (by decide) (inRd (x := 17) (by decide)) (inRd (x := 25) (by decide)) (fun hc => absurd hc (by decide)) (fun hc => ?_)
  refine z_aload_n dX4_init_21 rfl ?_
  refine y_getR (v := 64) dX4_init_22 cl4 (by decide +kernel) (by decide) (NL rfl) 0 rfl rfl (tin2 8 (by rfl) rfl) (by decide +kernel) (by decide) ?_
  refine z_iload_n dX4_init_25 rfl ?_
  refine z_new dX4_init_26 cl0 wDf0 (tin2 5 (by rfl) rfl) wIns0 ini_0 (by decide +kernel) (by rw [hb]; exact NL rfl) (hf53) ?_
  show Zt _ _ _ _ 29 _ [vR g 184, vI 17, vR g 64] (184, (up2 (fun _ _ => 0) 1 2 (-1)), J, gx_47)
  have hf54 : fresh 184 (up2 (fun _ _ => 0) 1 2 (-1)) J gx_47 := fresh_up (hf53) (by decide)
  refine z_dup dX4_init_29 rfl ?_
  refine z_callIN (As := []) (rest := [vR g 184, vI 17, vR g 64]) (n_B (z := 184) (G := gx_47) hf54 (by decide +kernel) (by decide)) dX4_init_30 mw_B_init (nin2 7 (by rfl) rfl) im_B_init rfl rfl rfl rfl rfl (NL rfl) (by rw [hb]; exact NL rfl) (fun _ => ?_)
  show Zt _ _ _ _ 33 _ [vR g 184, vI 17, vR g 64] (190, (up2 (fun _ _ => 0) 1 2 (-1)), J, gx_48)
  have hf55 : fresh 190 (up2 (fun _ _ => 0) 1 2 (-1)) J gx_48 := fresh_B (hf54)
  refine z_aast (n := 25) (v := 184) dX4_init_33 (by decide +kernel) (by decide) (NL rfl) (inRd (by decide)) (by decide) (by decide +kernel) (by decide) (NL rfl) ?_
  show Zt _ _ _ _ 34 _ [] (190, (up2 (fun _ _ => 0) 1 2 (-1)), J, gx_49)
  have hf56 : fresh 190 (up2 (fun _ _ => 0) 1 2 (-1)) J gx_49 := fresh_G (hf55) (by decide)
  refine z_iinc (L' := [some (vR g 63), some (vI 18)]) dX4_init_34 rfl rfl rfl (by rw [show w32 (17 + 1) = 18 from by decide +kernel]; rfl) ?_
  refine z_goto (tgt := 15) dX4_init_37 (by decide) ?_
  refine z_iload_n dX4_init_15 rfl ?_
  refine z_bipush dX4_init_16 (by decide +kernel) ?_
  refine z_icmp_ge (tgt := 40) dX4_init_18 (by decide) (inRd (x := 18) (by decide)) (inRd (x := 25) (by decide)) (fun hc => absurd hc (by decide)) (fun hc => ?_)
  refine z_aload_n dX4_init_21 rfl ?_
  refine y_getR (v := 64) dX4_init_22 cl4 (by decide +kernel) (by decide) (NL rfl) 0 rfl rfl (tin2 8 (by rfl) rfl) (by decide +kernel) (by decide) ?_
  refine z_iload_n dX4_init_25 rfl ?_
  refine z_new dX4_init_26 cl0 wDf0 (tin2 5 (by rfl) rfl) wIns0 ini_0 (by decide +kernel) (by rw [hb]; exact NL rfl) (hf56) ?_
  show Zt _ _ _ _ 29 _ [vR g 191, vI 18, vR g 64] (191, (up2 (fun _ _ => 0) 1 2 (-1)), J, gx_49)
  have hf57 : fresh 191 (up2 (fun _ _ => 0) 1 2 (-1)) J gx_49 := fresh_up (hf56) (by decide)
  refine z_dup dX4_init_29 rfl ?_
  refine z_callIN (As := []) (rest := [vR g 191, vI 18, vR g 64]) (n_B (z := 191) (G := gx_49) hf57 (by decide +kernel) (by decide)) dX4_init_30 mw_B_init (nin2 7 (by rfl) rfl) im_B_init rfl rfl rfl rfl rfl (NL rfl) (by rw [hb]; exact NL rfl) (fun _ => ?_)
  show Zt _ _ _ _ 33 _ [vR g 191, vI 18, vR g 64] (197, (up2 (fun _ _ => 0) 1 2 (-1)), J, gx_50)
  have hf58 : fresh 197 (up2 (fun _ _ => 0) 1 2 (-1)) J gx_50 := fresh_B (hf57)
  refine z_aast (n := 25) (v := 191) dX4_init_33 (by decide +kernel) (by decide) (NL rfl) (inRd (by decide)) (by decide) (by decide +kernel) (by decide) (NL rfl) ?_
  show Zt _ _ _ _ 34 _ [] (197, (up2 (fun _ _ => 0) 1 2 (-1)), J, gx_51)
  have hf59 : fresh 197 (up2 (fun _ _ => 0) 1 2 (-1)) J gx_51 := fresh_G (hf58) (by decide)
  refine z_iinc (L' := [some (vR g 63), some (vI 19)]) dX4_init_34 rfl rfl rfl (by rw [show w32 (18 + 1) = 19 from by decide +kernel]; rfl) ?_
  refine z_goto (tgt := 15) dX4_init_37 (by decide) ?_
  refine z_iload_n dX4_init_15 rfl ?_
  refine z_bipush dX4_init_16 (by decide +kernel) ?_
  refine z_icmp_ge (tgt := 40) dX4_init_18 (by decide) (inRd (x := 19) (by decide)) (inRd (x := 25) (by decide)) (fun hc => absurd hc (by decide)) (fun hc => ?_)
  refine z_aload_n dX4_init_21 rfl ?_
  refine y_getR (v := 64) dX4_init_22 cl4 (by decide +kernel) (by decide) (NL rfl) 0 rfl rfl (tin2 8 (by rfl) rfl) (by decide +kernel) (by decide) ?_
  refine z_iload_n dX4_init_25 rfl ?_
  refine z_new dX4_init_26 cl0 wDf0 (tin2 5 (by rfl) rfl) wIns0 ini_0 (by decide +kernel) (by rw [hb]; exact NL rfl) (hf59) ?_
  show Zt _ _ _ _ 29 _ [vR g 198, vI 19, vR g 64] (198, (up2 (fun _ _ => 0) 1 2 (-1)), J, gx_51)
  have hf60 : fresh 198 (up2 (fun _ _ => 0) 1 2 (-1)) J gx_51 := fresh_up (hf59) (by decide)
  refine z_dup dX4_init_29 rfl ?_
  refine z_callIN (As := []) (rest := [vR g 198, vI 19, vR g 64]) (n_B (z := 198) (G := gx_51) hf60 (by decide +kernel) (by decide)) dX4_init_30 mw_B_init (nin2 7 (by rfl) rfl) im_B_init rfl rfl rfl rfl rfl (NL rfl) (by rw [hb]; exact NL rfl) (fun _ => ?_)
  show Zt _ _ _ _ 33 _ [vR g 198, vI 19, vR g 64] (204, (up2 (fun _ _ => 0) 1 2 (-1)), J, gx_52)
  have hf61 : fresh 204 (up2 (fun _ _ => 0) 1 2 (-1)) J gx_52 := fresh_B (hf60)
  refine z_aast (n := 25) (v := 198) dX4_init_33 (by decide +kernel) (by decide) (NL rfl) (inRd (by decide)) (by decide) (by decide +kernel) (by decide) (NL rfl) ?_
  show Zt _ _ _ _ 34 _ [] (204, (up2 (fun _ _ => 0) 1 2 (-1)), J, gx_53)
  have hf62 : fresh 204 (up2 (fun _ _ => 0) 1 2 (-1)) J gx_53 := fresh_G (hf61) (by decide)
  refine z_iinc (L' := [some (vR g 63), some (vI 20)]) dX4_init_34 rfl rfl rfl (by rw [show w32 (19 + 1) = 20 from by decide +kernel]; rfl) ?_
  refine z_goto (tgt := 15) dX4_init_37 (by decide) ?_
  refine z_iload_n dX4_init_15 rfl ?_
  refine z_bipush dX4_init_16 (by decide +kernel) ?_
  refine z_icmp_ge (tgt := 40) dX4_init_18 (by decide) (inRd (x := 20) (by decide)) (inRd (x := 25) (by decide)) (fun hc => absurd hc (by decide)) (fun hc => ?_)
  refine z_aload_n dX4_init_21 rfl ?_
  refine y_getR (v := 64) dX4_init_22 cl4 (by decide +kernel) (by decide) (NL rfl) 0 rfl rfl (tin2 8 (by rfl) rfl) (by decide +kernel) (by decide) ?_
  refine z_iload_n dX4_init_25 rfl ?_
  refine z_new dX4_init_26 cl0 wDf0 (tin2 5 (by rfl) rfl) wIns0 ini_0 (by decide +kernel) (by rw [hb]; exact NL rfl) (hf62) ?_
  show Zt _ _ _ _ 29 _ [vR g 205, vI 20, vR g 64] (205, (up2 (fun _ _ => 0) 1 2 (-1)), J, gx_53)
  have hf63 : fresh 205 (up2 (fun _ _ => 0) 1 2 (-1)) J gx_53 := fresh_up (hf62) (by decide)
  refine z_dup dX4_init_29 rfl ?_
  refine z_callIN (As := []) (rest := [vR g 205, vI 20, vR g 64]) (n_B (z := 205) (G := gx_53) hf63 (by decide +kernel) (by decide)) dX4_init_30 mw_B_init (nin2 7 (by rfl) rfl) im_B_init rfl rfl rfl rfl rfl (NL rfl) (by rw [hb]; exact NL rfl) (fun _ => ?_)
  show Zt _ _ _ _ 33 _ [vR g 205, vI 20, vR g 64] (211, (up2 (fun _ _ => 0) 1 2 (-1)), J, gx_54)
  have hf64 : fresh 211 (up2 (fun _ _ => 0) 1 2 (-1)) J gx_54 := fresh_B (hf63)
  refine z_aast (n := 25) (v := 205) dX4_init_33 (by decide +kernel) (by decide) (NL rfl) (inRd (by decide)) (by decide) (by decide +kernel) (by decide) (NL rfl) ?_
  show Zt _ _ _ _ 34 _ [] (211, (up2 (fun _ _ => 0) 1 2 (-1)), J, gx_55)
  have hf65 : fresh 211 (up2 (fun _ _ => 0) 1 2 (-1)) J gx_55 := fresh_G (hf64) (by decide)
  refine z_iinc (L' := [some (vR g 63), some (vI 21)]) dX4_init_34 rfl rfl rfl (by rw [show w32 (20 + 1) = 21 from by decide +kernel]; rfl) ?_
  refine z_goto (tgt := 15) dX4_init_37 (by decide) ?_
  refine z_iload_n dX4_init_15 rfl ?_
  refine z_bipush dX4_init_16 (by decide +kernel) ?_
  refine z_icmp_ge (tgt := 40) dX4_init_18 (by decide) (inRd (x := 21) (by decide)) (inRd (x := 25) (by decide)) (fun hc => absurd hc (by decide)) (fun hc => ?_)
  refine z_aload_n dX4_init_21 rfl ?_
  refine y_getR (v := 64) dX4_init_22 cl4 (by decide +kernel) (by decide) (NL rfl) 0 rfl rfl (tin2 8 (by rfl) rfl) (by decide +kernel) (by decide) ?_
  refine z_iload_n dX4_init_25 rfl ?_
  refine z_new dX4_init_26 cl0 wDf0 (tin2 5 (by rfl) rfl) wIns0 ini_0 (by decide +kernel) (by rw [hb]; exact NL rfl) (hf65) ?_
  show Zt _ _ _ _ 29 _ [vR g 212, vI 21, vR g 64] (212, (up2 (fun _ _ => 0) 1 2 (-1)), J, gx_55)
  have hf66 : fresh 212 (up2 (fun _ _ => 0) 1 2 (-1)) J gx_55 := fresh_up (hf65) (by decide)
  refine z_dup dX4_init_29 rfl ?_
  refine z_callIN (As := []) (rest := [vR g 212, vI 21, vR g 64]) (n_B (z := 212) (G := gx_55) hf66 (by decide +kernel) (by decide)) dX4_init_30 mw_B_init (nin2 7 (by rfl) rfl) im_B_init rfl rfl rfl rfl rfl (NL rfl) (by rw [hb]; exact NL rfl) (fun _ => ?_)
  show Zt _ _ _ _ 33 _ [vR g 212, vI 21, vR g 64] (218, (up2 (fun _ _ => 0) 1 2 (-1)), J, gx_56)
  have hf67 : fresh 218 (up2 (fun _ _ => 0) 1 2 (-1)) J gx_56 := fresh_B (hf66)
  refine z_aast (n := 25) (v := 212) dX4_init_33 (by decide +kernel) (by decide) (NL rfl) (inRd (by decide)) (by decide) (by decide +kernel) (by decide) (NL rfl) ?_
  show Zt _ _ _ _ 34 _ [] (218, (up2 (fun _ _ => 0) 1 2 (-1)), J, gx_57)
  have hf68 : fresh 218 (up2 (fun _ _ => 0) 1 2 (-1)) J gx_57 := fresh_G (hf67) (by decide)
  refine z_iinc (L' := [some (vR g 63), some (vI 22)]) dX4_init_34 rfl rfl rfl (by rw [show w32 (21 + 1) = 22 from by decide +kernel]; rfl) ?_
  refine z_goto (tgt := 15) dX4_init_37 (by decide) ?_
  refine z_iload_n dX4_init_15 rfl ?_
  refine z_bipush dX4_init_16 (by decide +kernel) ?_
  refine z_icmp_ge (tgt := 40) dX4_init_18 (by decide) (inRd (x := 22) (by decide)) (inRd (x := 25) (by decide)) (fun hc => absurd hc (by decide)) (fun hc => ?_)
  refine z_aload_n dX4_init_21 rfl ?_
  refine y_getR (v := 64) dX4_init_22 cl4 (by decide +kernel) (by decide) (NL rfl) 0 rfl rfl (tin2 8 (by rfl) rfl) (by decide +kernel) (by decide) ?_
  refine z_iload_n dX4_init_25 rfl ?_
  refine z_new dX4_init_26 cl0 wDf0 (tin2 5 (by rfl) rfl) wIns0 ini_0 (by decide +kernel) (by rw [hb]; exact NL rfl) (hf68) ?_
  show Zt _ _ _ _ 29 _ [vR g 219, vI 22, vR g 64] (219, (up2 (fun _ _ => 0) 1 2 (-1)), J, gx_57)
  have hf69 : fresh 219 (up2 (fun _ _ => 0) 1 2 (-1)) J gx_57 := fresh_up (hf68) (by decide)
  refine z_dup dX4_init_29 rfl ?_
  refine z_callIN (As := []) (rest := [vR g 219, vI 22, vR g 64]) (n_B (z := 219) (G := gx_57) hf69 (by decide +kernel) (by decide)) dX4_init_30 mw_B_init (nin2 7 (by rfl) rfl) im_B_init rfl rfl rfl rfl rfl (NL rfl) (by rw [hb]; exact NL rfl) (fun _ => ?_)
  show Zt _ _ _ _ 33 _ [vR g 219, vI 22, vR g 64] (225, (up2 (fun _ _ => 0) 1 2 (-1)), J, gx_58)
  have hf70 : fresh 225 (up2 (fun _ _ => 0) 1 2 (-1)) J gx_58 := fresh_B (hf69)
  refine z_aast (n := 25) (v := 219) dX4_init_33 (by decide +kernel) (by decide) (NL rfl) (inRd (by decide)) (by decide) (by decide +kernel) (by decide) (NL rfl) ?_
  show Zt _ _ _ _ 34 _ [] (225, (up2 (fun _ _ => 0) 1 2 (-1)), J, gx_59)
  have hf71 : fresh 225 (up2 (fun _ _ => 0) 1 2 (-1)) J gx_59 := fresh_G (hf70) (by decide)
  refine z_iinc (L' := [some (vR g 63), some (vI 23)]) dX4_init_34 rfl rfl rfl (by rw [show w32 (22 + 1) = 23 from by decide +kernel]; rfl) ?_
  refine z_goto (tgt := 15) dX4_init_37 (by decide) ?_
  refine z_iload_n dX4_init_15 rfl ?_
  refine z_bipush dX4_init_16 (by decide +kernel) ?_
  refine z_icmp_ge (tgt := 40) dX4_init_18 (by decide) (inRd (x := 23) (by decide)) (inRd (x := 25) (by decide)) (fun hc => absurd hc (by decide)) (fun hc => ?_)
  refine z_aload_n dX4_init_21 rfl ?_
  refine y_getR (v := 64) dX4_init_22 cl4 (by decide +kernel) (by decide) (NL rfl) 0 rfl rfl (tin2 8 (by rfl) rfl) (by decide +kernel) (by decide) ?_
  refine z_iload_n dX4_init_25 rfl ?_
  refine z_new dX4_init_26 cl0 wDf0 (tin2 5 (by rfl) rfl) wIns0 ini_0 (by decide +kernel) (by rw [hb]; exact NL rfl) (hf71) ?_
  show Zt _ _ _ _ 29 _ [vR g 226, vI 23, vR g 64] (226, (up2 (fun _ _ => 0) 1 2 (-1)), J, gx_59)
  have hf72 : fresh 226 (up2 (fun _ _ => 0) 1 2 (-1)) J gx_59 := fresh_up (hf71) (by decide)
  refine z_dup dX4_init_29 rfl ?_
  refine z_callIN (As := []) (rest := [vR g 226, vI 23, vR g 64]) (n_B (z := 226) (G := gx_59) hf72 (by decide +kernel) (by decide)) dX4_init_30 mw_B_init (nin2 7 (by rfl) rfl) im_B_init rfl rfl rfl rfl rfl (NL rfl) (by rw [hb]; exact NL rfl) (fun _ => ?_)
  show Zt _ _ _ _ 33 _ [vR g 226, vI 23, vR g 64] (232, (up2 (fun _ _ => 0) 1 2 (-1)), J, gx_60)
  have hf73 : fresh 232 (up2 (fun _ _ => 0) 1 2 (-1)) J gx_60 := fresh_B (hf72)
  refine z_aast (n := 25) (v := 226) dX4_init_33 (by decide +kernel) (by decide) (NL rfl) (inRd (by decide)) (by decide) (by decide +kernel) (by decide) (NL rfl) ?_
  show Zt _ _ _ _ 34 _ [] (232, (up2 (fun _ _ => 0) 1 2 (-1)), J, gx_61)
  have hf74 : fresh 232 (up2 (fun _ _ => 0) 1 2 (-1)) J gx_61 := fresh_G (hf73) (by decide)
  refine z_iinc (L' := [some (vR g 63), some (vI 24)]) dX4_init_34 rfl rfl rfl (by rw [show w32 (23 + 1) = 24 from by decide +kernel]; rfl) ?_
  refine z_goto (tgt := 15) dX4_init_37 (by decide) ?_
  refine z_iload_n dX4_init_15 rfl ?_
  refine z_bipush dX4_init_16 (by decide +kernel) ?_
  refine z_icmp_ge (tgt := 40) dX4_init_18 (by decide) (inRd (x := 24) (by decide)) (inRd (x := 25) (by decide)) (fun hc => absurd hc (by decide)) (fun hc => ?_)
  refine z_aload_n dX4_init_21 rfl ?_
  refine y_getR (v := 64) dX4_init_22 cl4 (by decide +kernel) (by decide) (NL rfl) 0 rfl rfl (tin2 8 (by rfl) rfl) (by decide +kernel) (by decide) ?_
  refine z_iload_n dX4_init_25 rfl ?_
  refine z_new dX4_init_26 cl0 wDf0 (tin2 5 (by rfl) rfl) wIns0 ini_0 (by decide +kernel) (by rw [hb]; exact NL rfl) (hf74) ?_
  show Zt _ _ _ _ 29 _ [vR g 233, vI 24, vR g 64] (233, (up2 (fun _ _ => 0) 1 2 (-1)), J, gx_61)
  have hf75 : fresh 233 (up2 (fun _ _ => 0) 1 2 (-1)) J gx_61 := fresh_up (hf74) (by decide)
  refine z_dup dX4_init_29 rfl ?_
  refine z_callIN (As := []) (rest := [vR g 233, vI 24, vR g 64]) (n_B (z := 233) (G := gx_61) hf75 (by decide +kernel) (by decide)) dX4_init_30 mw_B_init (nin2 7 (by rfl) rfl) im_B_init rfl rfl rfl rfl rfl (NL rfl) (by rw [hb]; exact NL rfl) (fun _ => ?_)
  show Zt _ _ _ _ 33 _ [vR g 233, vI 24, vR g 64] (239, (up2 (fun _ _ => 0) 1 2 (-1)), J, gx_62)
  have hf76 : fresh 239 (up2 (fun _ _ => 0) 1 2 (-1)) J gx_62 := fresh_B (hf75)
  refine z_aast (n := 25) (v := 233) dX4_init_33 (by decide +kernel) (by decide) (NL rfl) (inRd (by decide)) (by decide) (by decide +kernel) (by decide) (NL rfl) ?_
  show Zt _ _ _ _ 34 _ [] (239, (up2 (fun _ _ => 0) 1 2 (-1)), J, gx_63)
  have hf77 : fresh 239 (up2 (fun _ _ => 0) 1 2 (-1)) J gx_63 := fresh_G (hf76) (by decide)
  refine z_iinc (L' := [some (vR g 63), some (vI 25)]) dX4_init_34 rfl rfl rfl (by rw [show w32 (24 + 1) = 25 from by decide +kernel]; rfl) ?_
  refine z_goto (tgt := 15) dX4_init_37 (by decide) ?_
  refine z_iload_n dX4_init_15 rfl ?_
  refine z_bipush dX4_init_16 (by decide +kernel) ?_
  refine z_icmp_ge (tgt := 40) dX4_init_18 (by decide) (inRd (x := 25) (by decide)) (inRd (x := 25) (by decide)) (fun hc => ?_) (fun hc => absurd (by decide) hc)
  exact z_vret dX4_init_40 hE trivial rfl
def gx_64 : Nat → Nat → Nat := up2 gx_63 1 7 63
def gx_65 : Nat → Nat → Nat := up2 gx_64 1 8 240
def gx_66 : Nat → Nat → Nat := up2 gx_65 1 9 241
def gx_67 : Nat → Nat → Nat := up2 gx_66 1 10 242
def gx_68 : Nat → Nat → Nat := up2 gx_67 1 11 243
def gx_69 : Nat → Nat → Nat := g_Y gx_68 244
def gx_70 : Nat → Nat → Nat := up2 gx_69 1 13 244
def gx_71 : Nat → Nat → Nat := g_F gx_70 250
def gx_72 : Nat → Nat → Nat := up2 gx_71 1 14 250
def gx_73 : Nat → Nat → Nat := g_V gx_72 255
def gx_74 : Nat → Nat → Nat := up2 gx_73 1 15 255
def gx_75 : Nat → Nat → Nat := g_B gx_74 275
def gx_76 : Nat → Nat → Nat := up2 gx_75 240 0 275
def gx_77 : Nat → Nat → Nat := g_B gx_76 282
def gx_78 : Nat → Nat → Nat := up2 gx_77 240 1 282
def gx_79 : Nat → Nat → Nat := g_B gx_78 289
def gx_80 : Nat → Nat → Nat := up2 gx_79 240 2 289
theorem lyX_new : lyX gx_80 := by
  have h : ∀ e ∈ LYX, gx_80 e.1 e.2.1 = e.2.2 := by decide +kernel
  exact h
theorem rv_new : gx_80 1 3 = 11 := by decide +kernel
theorem sp_new : gx_80 1 4 = 30 := by decide +kernel
def gX : Nat → Nat → Nat := gx_80
def f_X_init (F : Nat) : Option MI := (f_R_clear F 11 (up2 (fun _ _ => 0) 1 2 (-1))).bind fun q => f_X_beginAnew F q
set_option maxHeartbeats 4000000 in
set_option maxRecDepth 10000 in
theorem n_X {l : Launch} {g : GX} {F : Nat} {J : MI} (hf : fresh 1 (fun _ _ => 0) J gx_0) {res : MI} (h : f_X_init F = some res) : Spec l g 20 yX10_init cX10_init 2 none [vR g 1] (1, (fun _ _ => 0), J, gx_0) none True (295, res, J, gx_80) := by
  refine spec_of (μ := (cX10_init, RX10, 2, 20, "<init>")) (k := 1) (L0 := [some (vR g 1), none]) rfl mw_X_init rfl rfl (by show 1 ≤ 295; decide) (fun φ hb hE => ?_)
  replace hb : cb φ = 295 := hb
  refine z_aload_n dX10_init_0 rfl ?_
  refine z_objI dX10_init_1 (tin1 26 (by rfl) rfl) wOi wOc rfl rfl ?_
  refine z_aload_n dX10_init_4 rfl ?_
  refine z_new dX10_init_5 cl7 wDf7 (tin1 29 (by rfl) rfl) wIns7 ini_7 (by decide +kernel) (by rw [hb]; exact NL rfl) (hf) ?_
  show Zt _ _ _ _ 8 _ [vR g 2, vR g 1] (2, (fun _ _ => 0), J, gx_0)
  have hf1 : fresh 2 (fun _ _ => 0) J gx_0 := fresh_up (hf) (by decide)
  refine z_dup dX10_init_8 rfl ?_
  refine z_callIN (As := []) (rest := [vR g 2, vR g 1]) (n_T (z := 2) (G := gx_0) hf1 (by decide +kernel) (by decide)) dX10_init_9 mw_T_init (nin1 31 (by rfl) rfl) im_T_init rfl rfl rfl rfl rfl (NL rfl) (by rw [hb]; exact NL rfl) (fun _ => ?_)
  show Zt _ _ _ _ 12 _ [vR g 2, vR g 1] (3, (fun _ _ => 0), J, gx_1)
  have hf2 : fresh 3 (fun _ _ => 0) J gx_1 := fresh_T (hf1)
  refine z_putFR (v := 2) (k := 0) dX10_init_12 cl10 (by decide +kernel) (by decide) (NL rfl) rfl rfl rfl rfl rfl (tin2 146 (by rfl) rfl) rfl rfl (by decide) ?_
  show Zt _ _ _ _ 15 _ [] (3, (fun _ _ => 0), J, gx_2)
  have hf3 : fresh 3 (fun _ _ => 0) J gx_2 := fresh_G (hf2) (by decide)
  refine z_aload_n dX10_init_15 rfl ?_
  refine z_new dX10_init_16 cl5 wDf5 (tin1 45 (by rfl) rfl) wIns5 ini_5 (by decide +kernel) (by rw [hb]; exact NL rfl) (hf3) ?_
  show Zt _ _ _ _ 19 _ [vR g 4, vR g 1] (4, (fun _ _ => 0), J, gx_2)
  have hf4 : fresh 4 (fun _ _ => 0) J gx_2 := fresh_up (hf3) (by decide)
  refine z_dup dX10_init_19 rfl ?_
  refine z_callIN (As := []) (rest := [vR g 4, vR g 1]) (n_E (z := 4) (G := gx_2) hf4 (by decide +kernel) (by decide)) dX10_init_20 mw_E_init (nin1 47 (by rfl) rfl) im_E_init rfl rfl rfl rfl rfl (NL rfl) (by rw [hb]; exact NL rfl) (fun _ => ?_)
  show Zt _ _ _ _ 23 _ [vR g 4, vR g 1] (10, (fun _ _ => 0), J, gx_3)
  have hf5 : fresh 10 (fun _ _ => 0) J gx_3 := fresh_E (hf4)
  refine z_putFR (v := 4) (k := 1) dX10_init_23 cl10 (by decide +kernel) (by decide) (NL rfl) rfl rfl rfl rfl rfl (tin2 147 (by rfl) rfl) rfl rfl (by decide) ?_
  show Zt _ _ _ _ 26 _ [] (10, (fun _ _ => 0), J, gx_4)
  have hf6 : fresh 10 (fun _ _ => 0) J gx_4 := fresh_G (hf5) (by decide)
  refine z_aload_n dX10_init_26 rfl ?_
  refine z_iconst dX10_init_27 ?_
  refine y_putI dX10_init_28 cl10 (by decide +kernel) (by decide) (NL rfl) 2 rfl rfl rfl (tin2 148 (by rfl) rfl) rfl rfl (inRd (by decide)) ?_
  show Zt _ _ _ _ 31 _ [] (10, (up2 (fun _ _ => 0) 1 2 (-1)), J, gx_4)
  have hf7 : fresh 10 (up2 (fun _ _ => 0) 1 2 (-1)) J gx_4 := fresh_I (hf6) (by decide)
  refine z_aload_n dX10_init_31 rfl ?_
  refine z_new dX10_init_32 cl6 wDf6 (tin1 100 (by rfl) rfl) wIns6 ini_6 (by decide +kernel) (by rw [hb]; exact NL rfl) (hf7) ?_
  show Zt _ _ _ _ 35 _ [vR g 11, vR g 1] (11, (up2 (fun _ _ => 0) 1 2 (-1)), J, gx_4)
  have hf8 : fresh 11 (up2 (fun _ _ => 0) 1 2 (-1)) J gx_4 := fresh_up (hf7) (by decide)
  refine z_dup dX10_init_35 rfl ?_
  refine z_callIN (As := []) (rest := [vR g 11, vR g 1]) (n_R (z := 11) (G := gx_4) hf8 (by decide +kernel) (by decide)) dX10_init_36 mw_R_init (nin1 102 (by rfl) rfl) im_R_init rfl rfl rfl rfl rfl (NL rfl) (by rw [hb]; exact NL rfl) (fun _ => ?_)
  show Zt _ _ _ _ 39 _ [vR g 11, vR g 1] (29, (up2 (fun _ _ => 0) 1 2 (-1)), J, gx_5)
  have hf9 : fresh 29 (up2 (fun _ _ => 0) 1 2 (-1)) J gx_5 := fresh_R (hf8)
  refine y_putR (v := 11) dX10_init_39 cl10 (by decide +kernel) (by decide) (NL rfl) 3 rfl rfl rfl (tin2 149 (by rfl) rfl) rfl rfl (by decide) ?_
  show Zt _ _ _ _ 42 _ [] (29, (up2 (fun _ _ => 0) 1 2 (-1)), J, gx_6)
  have hf10 : fresh 29 (up2 (fun _ _ => 0) 1 2 (-1)) J gx_6 := fresh_G (hf9) (by decide)
  refine z_aload_n dX10_init_42 rfl ?_
  refine z_new dX10_init_43 cl6 wDf6 (tin1 100 (by rfl) rfl) wIns6 ini_6 (by decide +kernel) (by rw [hb]; exact NL rfl) (hf10) ?_
  show Zt _ _ _ _ 46 _ [vR g 30, vR g 1] (30, (up2 (fun _ _ => 0) 1 2 (-1)), J, gx_6)
  have hf11 : fresh 30 (up2 (fun _ _ => 0) 1 2 (-1)) J gx_6 := fresh_up (hf10) (by decide)
  refine z_dup dX10_init_46 rfl ?_
  refine z_callIN (As := []) (rest := [vR g 30, vR g 1]) (n_R (z := 30) (G := gx_6) hf11 (by decide +kernel) (by decide)) dX10_init_47 mw_R_init (nin1 102 (by rfl) rfl) im_R_init rfl rfl rfl rfl rfl (NL rfl) (by rw [hb]; exact NL rfl) (fun _ => ?_)
  show Zt _ _ _ _ 50 _ [vR g 30, vR g 1] (48, (up2 (fun _ _ => 0) 1 2 (-1)), J, gx_7)
  have hf12 : fresh 48 (up2 (fun _ _ => 0) 1 2 (-1)) J gx_7 := fresh_R (hf11)
  refine y_putR (v := 30) dX10_init_50 cl10 (by decide +kernel) (by decide) (NL rfl) 4 rfl rfl rfl (tin2 150 (by rfl) rfl) rfl rfl (by decide) ?_
  show Zt _ _ _ _ 53 _ [] (48, (up2 (fun _ _ => 0) 1 2 (-1)), J, gx_8)
  have hf13 : fresh 48 (up2 (fun _ _ => 0) 1 2 (-1)) J gx_8 := fresh_G (hf12) (by decide)
  refine z_aload_n dX10_init_53 rfl ?_
  refine z_new dX10_init_54 cl0 wDf0 (tin1 207 (by rfl) rfl) wIns0 ini_0 (by decide +kernel) (by rw [hb]; exact NL rfl) (hf13) ?_
  show Zt _ _ _ _ 57 _ [vR g 49, vR g 1] (49, (up2 (fun _ _ => 0) 1 2 (-1)), J, gx_8)
  have hf14 : fresh 49 (up2 (fun _ _ => 0) 1 2 (-1)) J gx_8 := fresh_up (hf13) (by decide)
  refine z_dup dX10_init_57 rfl ?_
  refine z_callIN (As := []) (rest := [vR g 49, vR g 1]) (n_B (z := 49) (G := gx_8) hf14 (by decide +kernel) (by decide)) dX10_init_58 mw_B_init (nin1 209 (by rfl) rfl) im_B_init rfl rfl rfl rfl rfl (NL rfl) (by rw [hb]; exact NL rfl) (fun _ => ?_)
  show Zt _ _ _ _ 61 _ [vR g 49, vR g 1] (55, (up2 (fun _ _ => 0) 1 2 (-1)), J, gx_9)
  have hf15 : fresh 55 (up2 (fun _ _ => 0) 1 2 (-1)) J gx_9 := fresh_B (hf14)
  refine z_putFR (v := 49) (k := 5) dX10_init_61 cl10 (by decide +kernel) (by decide) (NL rfl) rfl rfl rfl rfl rfl (tin2 151 (by rfl) rfl) rfl rfl (by decide) ?_
  show Zt _ _ _ _ 64 _ [] (55, (up2 (fun _ _ => 0) 1 2 (-1)), J, gx_10)
  have hf16 : fresh 55 (up2 (fun _ _ => 0) 1 2 (-1)) J gx_10 := fresh_G (hf15) (by decide)
  refine z_aload_n dX10_init_64 rfl ?_
  refine z_new dX10_init_65 cl0 wDf0 (tin1 207 (by rfl) rfl) wIns0 ini_0 (by decide +kernel) (by rw [hb]; exact NL rfl) (hf16) ?_
  show Zt _ _ _ _ 68 _ [vR g 56, vR g 1] (56, (up2 (fun _ _ => 0) 1 2 (-1)), J, gx_10)
  have hf17 : fresh 56 (up2 (fun _ _ => 0) 1 2 (-1)) J gx_10 := fresh_up (hf16) (by decide)
  refine z_dup dX10_init_68 rfl ?_
  refine z_callIN (As := []) (rest := [vR g 56, vR g 1]) (n_B (z := 56) (G := gx_10) hf17 (by decide +kernel) (by decide)) dX10_init_69 mw_B_init (nin1 209 (by rfl) rfl) im_B_init rfl rfl rfl rfl rfl (NL rfl) (by rw [hb]; exact NL rfl) (fun _ => ?_)
  show Zt _ _ _ _ 72 _ [vR g 56, vR g 1] (62, (up2 (fun _ _ => 0) 1 2 (-1)), J, gx_11)
  have hf18 : fresh 62 (up2 (fun _ _ => 0) 1 2 (-1)) J gx_11 := fresh_B (hf17)
  refine z_putFR (v := 56) (k := 6) dX10_init_72 cl10 (by decide +kernel) (by decide) (NL rfl) rfl rfl rfl rfl rfl (tin2 152 (by rfl) rfl) rfl rfl (by decide) ?_
  show Zt _ _ _ _ 75 _ [] (62, (up2 (fun _ _ => 0) 1 2 (-1)), J, gx_12)
  have hf19 : fresh 62 (up2 (fun _ _ => 0) 1 2 (-1)) J gx_12 := fresh_G (hf18) (by decide)
  refine z_aload_n dX10_init_75 rfl ?_
  refine z_new dX10_init_76 cl4 wDf4 (tin1 239 (by rfl) rfl) wIns4 ini_4 (by decide +kernel) (by rw [hb]; exact NL rfl) (hf19) ?_
  show Zt _ _ _ _ 79 _ [vR g 63, vR g 1] (63, (up2 (fun _ _ => 0) 1 2 (-1)), J, gx_12)
  have hf20 : fresh 63 (up2 (fun _ _ => 0) 1 2 (-1)) J gx_12 := fresh_up (hf19) (by decide)
  refine z_dup dX10_init_79 rfl ?_
  refine z_callI (As := []) (rest := [vR g 63, vR g 1]) (n_P hf20) dX10_init_80 mw_P_init (tin2 1 (by rfl) rfl) im_P_init rfl rfl rfl rfl rfl (NL rfl) (by rw [hb]; exact NL rfl) (fun _ => ?_)
  show Zt _ _ _ _ 83 _ [vR g 63, vR g 1] (239, (up2 (fun _ _ => 0) 1 2 (-1)), J, gx_63)
  have hf21 : fresh 239 (up2 (fun _ _ => 0) 1 2 (-1)) J gx_63 := fresh_P hf20
  refine z_putFR (v := 63) (k := 7) dX10_init_83 cl10 (by decide +kernel) (by decide) (NL rfl) rfl rfl rfl rfl rfl (tin2 153 (by rfl) rfl) rfl rfl (by decide) ?_
  show Zt _ _ _ _ 86 _ [] (239, (up2 (fun _ _ => 0) 1 2 (-1)), J, gx_64)
  have hf22 : fresh 239 (up2 (fun _ _ => 0) 1 2 (-1)) J gx_64 := fresh_G (hf21) (by decide)
  refine z_aload_n dX10_init_86 rfl ?_
  refine z_iconst dX10_init_87 ?_
  refine z_newq (n := 3) dX10_init_88 rfl (inRd (by decide)) (tin1 207 (by rfl) rfl) wOvobject (by decide) (by decide +kernel) (by rw [hb]; exact NL rfl) (hf22) ?_
  show Zt _ _ _ _ 91 _ [vR g 240, vR g 1] (240, (up2 (fun _ _ => 0) 1 2 (-1)), J, gx_64)
  have hf23 : fresh 240 (up2 (fun _ _ => 0) 1 2 (-1)) J gx_64 := fresh_up (hf22) (by decide)
  refine z_putFR (v := 240) (k := 8) dX10_init_91 cl10 (by decide +kernel) (by decide) (NL rfl) rfl rfl rfl rfl rfl (tin2 154 (by rfl) rfl) rfl rfl (by decide) ?_
  show Zt _ _ _ _ 94 _ [] (240, (up2 (fun _ _ => 0) 1 2 (-1)), J, gx_65)
  have hf24 : fresh 240 (up2 (fun _ _ => 0) 1 2 (-1)) J gx_65 := fresh_G (hf23) (by decide)
  refine z_aload_n dX10_init_94 rfl ?_
  refine z_iconst dX10_init_95 ?_
  refine z_newa (kd := 2) (n := 3) (ty := .boolean) dX10_init_96 rfl rfl (fun U cA h => h) rfl (inRd (by decide)) wArZ (by decide) (by decide +kernel) (by decide) (by rw [hb]; exact NL rfl) (fun cA h => by rw [elt_arr (c := 22) (n := 3) (by decide +kernel) (by omega) (by omega)]; rw [← h]; rfl) rfl (hf24) ?_
  show Zt _ _ _ _ 98 _ [vR g 241, vR g 1] (241, (up2 (fun _ _ => 0) 1 2 (-1)), J, gx_65)
  have hf25 : fresh 241 (up2 (fun _ _ => 0) 1 2 (-1)) J gx_65 := fresh_up (hf24) (by decide)
  refine z_putFR (v := 241) (k := 9) dX10_init_98 cl10 (by decide +kernel) (by decide) (NL rfl) rfl rfl rfl rfl rfl (tin2 155 (by rfl) rfl) rfl rfl (by decide) ?_
  show Zt _ _ _ _ 101 _ [] (241, (up2 (fun _ _ => 0) 1 2 (-1)), J, gx_66)
  have hf26 : fresh 241 (up2 (fun _ _ => 0) 1 2 (-1)) J gx_66 := fresh_G (hf25) (by decide)
  refine z_aload_n dX10_init_101 rfl ?_
  refine z_bipush dX10_init_102 (by decide +kernel) ?_
  refine z_newa (kd := 0) (n := 20) (ty := .int) dX10_init_104 rfl rfl (fun U cA h => h) rfl (inRd (by decide)) wArI (by decide) (by decide +kernel) (by decide) (by rw [hb]; exact NL rfl) (fun cA h => by rw [elt_arr (c := 20) (n := 20) (by decide +kernel) (by omega) (by omega)]; rw [← h]; rfl) rfl (hf26) ?_
  show Zt _ _ _ _ 106 _ [vR g 242, vR g 1] (242, (up2 (fun _ _ => 0) 1 2 (-1)), J, gx_66)
  have hf27 : fresh 242 (up2 (fun _ _ => 0) 1 2 (-1)) J gx_66 := fresh_up (hf26) (by decide)
  refine z_putFR (v := 242) (k := 10) dX10_init_106 cl10 (by decide +kernel) (by decide) (NL rfl) rfl rfl rfl rfl rfl (tin2 156 (by rfl) rfl) rfl rfl (by decide) ?_
  show Zt _ _ _ _ 109 _ [] (242, (up2 (fun _ _ => 0) 1 2 (-1)), J, gx_67)
  have hf28 : fresh 242 (up2 (fun _ _ => 0) 1 2 (-1)) J gx_67 := fresh_G (hf27) (by decide)
  refine z_aload_n dX10_init_109 rfl ?_
  refine z_bipush dX10_init_110 (by decide +kernel) ?_
  refine z_newa (kd := 0) (n := 20) (ty := .int) dX10_init_112 rfl rfl (fun U cA h => h) rfl (inRd (by decide)) wArI (by decide) (by decide +kernel) (by decide) (by rw [hb]; exact NL rfl) (fun cA h => by rw [elt_arr (c := 20) (n := 20) (by decide +kernel) (by omega) (by omega)]; rw [← h]; rfl) rfl (hf28) ?_
  show Zt _ _ _ _ 114 _ [vR g 243, vR g 1] (243, (up2 (fun _ _ => 0) 1 2 (-1)), J, gx_67)
  have hf29 : fresh 243 (up2 (fun _ _ => 0) 1 2 (-1)) J gx_67 := fresh_up (hf28) (by decide)
  refine z_putFR (v := 243) (k := 11) dX10_init_114 cl10 (by decide +kernel) (by decide) (NL rfl) rfl rfl rfl rfl rfl (tin2 157 (by rfl) rfl) rfl rfl (by decide) ?_
  show Zt _ _ _ _ 117 _ [] (243, (up2 (fun _ _ => 0) 1 2 (-1)), J, gx_68)
  have hf30 : fresh 243 (up2 (fun _ _ => 0) 1 2 (-1)) J gx_68 := fresh_G (hf29) (by decide)
  refine z_aload_n dX10_init_117 rfl ?_
  refine z_new dX10_init_118 cl9 wDf9 (tin2 19 (by rfl) rfl) wIns9 ini_9 (by decide +kernel) (by rw [hb]; exact NL rfl) (hf30) ?_
  show Zt _ _ _ _ 121 _ [vR g 244, vR g 1] (244, (up2 (fun _ _ => 0) 1 2 (-1)), J, gx_68)
  have hf31 : fresh 244 (up2 (fun _ _ => 0) 1 2 (-1)) J gx_68 := fresh_up (hf30) (by decide)
  refine z_dup dX10_init_121 rfl ?_
  refine z_callIN (As := []) (rest := [vR g 244, vR g 1]) (n_Y (z := 244) (G := gx_68) hf31 (by decide +kernel) (by decide)) dX10_init_122 mw_Y_init (nin2 21 (by rfl) rfl) im_Y_init rfl rfl rfl rfl rfl (NL rfl) (by rw [hb]; exact NL rfl) (fun _ => ?_)
  show Zt _ _ _ _ 125 _ [vR g 244, vR g 1] (249, (up2 (fun _ _ => 0) 1 2 (-1)), J, gx_69)
  have hf32 : fresh 249 (up2 (fun _ _ => 0) 1 2 (-1)) J gx_69 := fresh_Y (hf31)
  refine z_putFR (v := 244) (k := 13) dX10_init_125 cl10 (by decide +kernel) (by decide) (NL rfl) rfl rfl rfl rfl rfl (tin2 159 (by rfl) rfl) rfl rfl (by decide) ?_
  show Zt _ _ _ _ 128 _ [] (249, (up2 (fun _ _ => 0) 1 2 (-1)), J, gx_70)
  have hf33 : fresh 249 (up2 (fun _ _ => 0) 1 2 (-1)) J gx_70 := fresh_G (hf32) (by decide)
  refine z_aload_n dX10_init_128 rfl ?_
  refine z_new dX10_init_129 cl1 wDf1 (tin2 51 (by rfl) rfl) wIns1 ini_1 (by decide +kernel) (by rw [hb]; exact NL rfl) (hf33) ?_
  show Zt _ _ _ _ 132 _ [vR g 250, vR g 1] (250, (up2 (fun _ _ => 0) 1 2 (-1)), J, gx_70)
  have hf34 : fresh 250 (up2 (fun _ _ => 0) 1 2 (-1)) J gx_70 := fresh_up (hf33) (by decide)
  refine z_dup dX10_init_132 rfl ?_
  refine z_callIN (As := []) (rest := [vR g 250, vR g 1]) (n_F (z := 250) (G := gx_70) hf34 (by decide +kernel) (by decide)) dX10_init_133 mw_F_init (nin2 53 (by rfl) rfl) im_F_init rfl rfl rfl rfl rfl (NL rfl) (by rw [hb]; exact NL rfl) (fun _ => ?_)
  show Zt _ _ _ _ 136 _ [vR g 250, vR g 1] (254, (up2 (fun _ _ => 0) 1 2 (-1)), J, gx_71)
  have hf35 : fresh 254 (up2 (fun _ _ => 0) 1 2 (-1)) J gx_71 := fresh_F (hf34)
  refine z_putFR (v := 250) (k := 14) dX10_init_136 cl10 (by decide +kernel) (by decide) (NL rfl) rfl rfl rfl rfl rfl (tin2 160 (by rfl) rfl) rfl rfl (by decide) ?_
  show Zt _ _ _ _ 139 _ [] (254, (up2 (fun _ _ => 0) 1 2 (-1)), J, gx_72)
  have hf36 : fresh 254 (up2 (fun _ _ => 0) 1 2 (-1)) J gx_72 := fresh_G (hf35) (by decide)
  refine z_aload_n dX10_init_139 rfl ?_
  refine z_new dX10_init_140 cl2 wDf2 (tin2 73 (by rfl) rfl) wIns2 ini_2 (by decide +kernel) (by rw [hb]; exact NL rfl) (hf36) ?_
  show Zt _ _ _ _ 143 _ [vR g 255, vR g 1] (255, (up2 (fun _ _ => 0) 1 2 (-1)), J, gx_72)
  have hf37 : fresh 255 (up2 (fun _ _ => 0) 1 2 (-1)) J gx_72 := fresh_up (hf36) (by decide)
  refine z_dup dX10_init_143 rfl ?_
  refine z_callIN (As := []) (rest := [vR g 255, vR g 1]) (n_V (z := 255) (G := gx_72) hf37 (by decide +kernel) (by decide)) dX10_init_144 mw_V_init (nin2 75 (by rfl) rfl) im_V_init rfl rfl rfl rfl rfl (NL rfl) (by rw [hb]; exact NL rfl) (fun _ => ?_)
  show Zt _ _ _ _ 147 _ [vR g 255, vR g 1] (274, (up2 (fun _ _ => 0) 1 2 (-1)), J, gx_73)
  have hf38 : fresh 274 (up2 (fun _ _ => 0) 1 2 (-1)) J gx_73 := fresh_V (hf37)
  refine z_putFR (v := 255) (k := 15) dX10_init_147 cl10 (by decide +kernel) (by decide) (NL rfl) rfl rfl rfl rfl rfl (tin2 161 (by rfl) rfl) rfl rfl (by decide) ?_
  show Zt _ _ _ _ 150 _ [] (274, (up2 (fun _ _ => 0) 1 2 (-1)), J, gx_74)
  have hf39 : fresh 274 (up2 (fun _ _ => 0) 1 2 (-1)) J gx_74 := fresh_G (hf38) (by decide)
  refine z_iconst dX10_init_150 ?_
  refine z_istore_n (L' := [some (vR g 1), some (vI 0)]) dX10_init_151 rfl rfl rfl ?_
  refine z_iload_n dX10_init_152 rfl ?_
  refine z_iconst dX10_init_153 ?_
  refine z_icmp_ge (tgt := 176) dX10_init_154 (by decide) (inRd (x := 0) (by decide)) (inRd (x := 3) (by decide)) (fun hc => absurd hc (by decide)) (fun hc => ?_)
  refine z_aload_n dX10_init_157 rfl ?_
  refine y_getR (v := 240) dX10_init_158 cl10 (by decide +kernel) (by decide) (NL rfl) 8 rfl rfl (tin2 154 (by rfl) rfl) (by decide +kernel) (by decide) ?_
  refine z_iload_n dX10_init_161 rfl ?_
  refine z_new dX10_init_162 cl0 wDf0 (tin1 207 (by rfl) rfl) wIns0 ini_0 (by decide +kernel) (by rw [hb]; exact NL rfl) (hf39) ?_
  show Zt _ _ _ _ 165 _ [vR g 275, vI 0, vR g 240] (275, (up2 (fun _ _ => 0) 1 2 (-1)), J, gx_74)
  have hf40 : fresh 275 (up2 (fun _ _ => 0) 1 2 (-1)) J gx_74 := fresh_up (hf39) (by decide)
  refine z_dup dX10_init_165 rfl ?_
  refine z_callIN (As := []) (rest := [vR g 275, vI 0, vR g 240]) (n_B (z := 275) (G := gx_74) hf40 (by decide +kernel) (by decide)) dX10_init_166 mw_B_init (nin1 209 (by rfl) rfl) im_B_init rfl rfl rfl rfl rfl (NL rfl) (by rw [hb]; exact NL rfl) (fun _ => ?_)
  show Zt _ _ _ _ 169 _ [vR g 275, vI 0, vR g 240] (281, (up2 (fun _ _ => 0) 1 2 (-1)), J, gx_75)
  have hf41 : fresh 281 (up2 (fun _ _ => 0) 1 2 (-1)) J gx_75 := fresh_B (hf40)
  refine z_aast (n := 3) (v := 275) dX10_init_169 (by decide +kernel) (by decide) (NL rfl) (inRd (by decide)) (by decide) (by decide +kernel) (by decide) (NL rfl) ?_
  show Zt _ _ _ _ 170 _ [] (281, (up2 (fun _ _ => 0) 1 2 (-1)), J, gx_76)
  have hf42 : fresh 281 (up2 (fun _ _ => 0) 1 2 (-1)) J gx_76 := fresh_G (hf41) (by decide)
  refine z_iinc (L' := [some (vR g 1), some (vI 1)]) dX10_init_170 rfl rfl rfl (by rw [show w32 (0 + 1) = 1 from by decide +kernel]; rfl) ?_
  refine z_goto (tgt := 152) dX10_init_173 (by decide) ?_
  refine z_iload_n dX10_init_152 rfl ?_
  refine z_iconst dX10_init_153 ?_
  refine z_icmp_ge (tgt := 176) dX10_init_154 (by decide) (inRd (x := 1) (by decide)) (inRd (x := 3) (by decide)) (fun hc => absurd hc (by decide)) (fun hc => ?_)
  refine z_aload_n dX10_init_157 rfl ?_
  refine y_getR (v := 240) dX10_init_158 cl10 (by decide +kernel) (by decide) (NL rfl) 8 rfl rfl (tin2 154 (by rfl) rfl) (by decide +kernel) (by decide) ?_
  refine z_iload_n dX10_init_161 rfl ?_
  refine z_new dX10_init_162 cl0 wDf0 (tin1 207 (by rfl) rfl) wIns0 ini_0 (by decide +kernel) (by rw [hb]; exact NL rfl) (hf42) ?_
  show Zt _ _ _ _ 165 _ [vR g 282, vI 1, vR g 240] (282, (up2 (fun _ _ => 0) 1 2 (-1)), J, gx_76)
  have hf43 : fresh 282 (up2 (fun _ _ => 0) 1 2 (-1)) J gx_76 := fresh_up (hf42) (by decide)
  refine z_dup dX10_init_165 rfl ?_
  refine z_callIN (As := []) (rest := [vR g 282, vI 1, vR g 240]) (n_B (z := 282) (G := gx_76) hf43 (by decide +kernel) (by decide)) dX10_init_166 mw_B_init (nin1 209 (by rfl) rfl) im_B_init rfl rfl rfl rfl rfl (NL rfl) (by rw [hb]; exact NL rfl) (fun _ => ?_)
  show Zt _ _ _ _ 169 _ [vR g 282, vI 1, vR g 240] (288, (up2 (fun _ _ => 0) 1 2 (-1)), J, gx_77)
  have hf44 : fresh 288 (up2 (fun _ _ => 0) 1 2 (-1)) J gx_77 := fresh_B (hf43)
  refine z_aast (n := 3) (v := 282) dX10_init_169 (by decide +kernel) (by decide) (NL rfl) (inRd (by decide)) (by decide) (by decide +kernel) (by decide) (NL rfl) ?_
  show Zt _ _ _ _ 170 _ [] (288, (up2 (fun _ _ => 0) 1 2 (-1)), J, gx_78)
  have hf45 : fresh 288 (up2 (fun _ _ => 0) 1 2 (-1)) J gx_78 := fresh_G (hf44) (by decide)
  refine z_iinc (L' := [some (vR g 1), some (vI 2)]) dX10_init_170 rfl rfl rfl (by rw [show w32 (1 + 1) = 2 from by decide +kernel]; rfl) ?_
  refine z_goto (tgt := 152) dX10_init_173 (by decide) ?_
  refine z_iload_n dX10_init_152 rfl ?_
  refine z_iconst dX10_init_153 ?_
  refine z_icmp_ge (tgt := 176) dX10_init_154 (by decide) (inRd (x := 2) (by decide)) (inRd (x := 3) (by decide)) (fun hc => absurd hc (by decide)) (fun hc => ?_)
  refine z_aload_n dX10_init_157 rfl ?_
  refine y_getR (v := 240) dX10_init_158 cl10 (by decide +kernel) (by decide) (NL rfl) 8 rfl rfl (tin2 154 (by rfl) rfl) (by decide +kernel) (by decide) ?_
  refine z_iload_n dX10_init_161 rfl ?_
  refine z_new dX10_init_162 cl0 wDf0 (tin1 207 (by rfl) rfl) wIns0 ini_0 (by decide +kernel) (by rw [hb]; exact NL rfl) (hf45) ?_
  show Zt _ _ _ _ 165 _ [vR g 289, vI 2, vR g 240] (289, (up2 (fun _ _ => 0) 1 2 (-1)), J, gx_78)
  have hf46 : fresh 289 (up2 (fun _ _ => 0) 1 2 (-1)) J gx_78 := fresh_up (hf45) (by decide)
  refine z_dup dX10_init_165 rfl ?_
  refine z_callIN (As := []) (rest := [vR g 289, vI 2, vR g 240]) (n_B (z := 289) (G := gx_78) hf46 (by decide +kernel) (by decide)) dX10_init_166 mw_B_init (nin1 209 (by rfl) rfl) im_B_init rfl rfl rfl rfl rfl (NL rfl) (by rw [hb]; exact NL rfl) (fun _ => ?_)
  show Zt _ _ _ _ 169 _ [vR g 289, vI 2, vR g 240] (295, (up2 (fun _ _ => 0) 1 2 (-1)), J, gx_79)
  have hf47 : fresh 295 (up2 (fun _ _ => 0) 1 2 (-1)) J gx_79 := fresh_B (hf46)
  refine z_aast (n := 3) (v := 289) dX10_init_169 (by decide +kernel) (by decide) (NL rfl) (inRd (by decide)) (by decide) (by decide +kernel) (by decide) (NL rfl) ?_
  show Zt _ _ _ _ 170 _ [] (295, (up2 (fun _ _ => 0) 1 2 (-1)), J, gx_80)
  have hf48 : fresh 295 (up2 (fun _ _ => 0) 1 2 (-1)) J gx_80 := fresh_G (hf47) (by decide)
  refine z_iinc (L' := [some (vR g 1), some (vI 3)]) dX10_init_170 rfl rfl rfl (by rw [show w32 (2 + 1) = 3 from by decide +kernel]; rfl) ?_
  refine z_goto (tgt := 152) dX10_init_173 (by decide) ?_
  refine z_iload_n dX10_init_152 rfl ?_
  refine z_iconst dX10_init_153 ?_
  refine z_icmp_ge (tgt := 176) dX10_init_154 (by decide) (inRd (x := 3) (by decide)) (inRd (x := 3) (by decide)) (fun hc => ?_) (fun hc => absurd (by decide) hc)
  refine z_aload_n dX10_init_176 rfl ?_
  refine y_getR (v := 11) dX10_init_177 cl10 (by decide +kernel) (by decide) (NL rfl) 3 rfl rfl (tin2 149 (by rfl) rfl) (by decide +kernel) (by decide) ?_
  obtain ⟨q1, hq2, h⟩ := bindE h
  refine z_callV (As := []) (rest := []) (s_R_clear (r0 := 11) (Nat.le_refl _) lyX_new is_11 hq2) dX10_init_180 mw_R_clear cl6 (by decide +kernel) (by decide) (NL rfl) (tin2 122 (by rfl) rfl) im_R_clear se_R_clear rfl rfl rfl rfl (NL rfl) (by rw [hb]; exact NL rfl) (fun _ => ?_)
  show Zt _ _ _ _ 183 _ [] (295, q1, J, gx_80)
  refine z_aload_n dX10_init_183 rfl ?_
  refine z_callV (As := []) (rest := []) (s_X_beginAnew (Nat.le_refl _) lyX_new rv_new is_11 sp_new is_30 h) dX10_init_184 mw_X_beginAnew cl10 (by decide +kernel) (by decide) (NL rfl) (tin2 133 (by rfl) rfl) im_X_beginAnew se_X_beginAnew rfl rfl rfl rfl (NL rfl) (by rw [hb]; exact NL rfl) (fun _ => ?_)
  show Zt _ _ _ _ 187 _ [] (295, res, J, gx_80)
  exact z_vret dX10_init_187 hE trivial rfl
