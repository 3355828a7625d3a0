def gm_0 : Nat → Nat → Nat := up2 gx_80 296 1 297
def gm_1 : Nat → Nat → Nat := up2 gm_0 296 3 298
def gm_2 : Nat → Nat → Nat := up2 gm_1 296 5 299
def gm_3 : Nat → Nat → Nat := up2 gm_2 296 6 300
def gm_4 : Nat → Nat → Nat := up2 gm_3 296 7 301
def gm_5 : Nat → Nat → Nat := up2 gm_4 296 8 302
def gm_6 : Nat → Nat → Nat := up2 gm_5 296 9 303
def gm_7 : Nat → Nat → Nat := up2 gm_6 296 21 304
def gm_8 : Nat → Nat → Nat := up2 gm_7 296 22 305
def gm_9 : Nat → Nat → Nat := up2 gm_8 296 23 306
def gm_10 : Nat → Nat → Nat := up2 gm_9 296 24 307
def gm_11 : Nat → Nat → Nat := up2 gm_10 296 25 308
def gm_12 : Nat → Nat → Nat := up2 gm_11 296 26 309
def gm_13 : Nat → Nat → Nat := up2 gm_12 296 27 310
def gm_14 : Nat → Nat → Nat := up2 gm_13 296 28 311
def gm_15 : Nat → Nat → Nat := up2 gm_14 296 29 312
def gm_16 : Nat → Nat → Nat := up2 gm_15 296 30 313
def gm_17 : Nat → Nat → Nat := up2 gm_16 296 31 314
def gm_18 : Nat → Nat → Nat := up2 gm_17 296 32 315
def gm_19 : Nat → Nat → Nat := up2 gm_18 296 33 316
def gm_20 : Nat → Nat → Nat := up2 gm_19 296 34 317
def gm_21 : Nat → Nat → Nat := up2 gm_20 296 35 318
def gm_22 : Nat → Nat → Nat := up2 gm_21 296 36 319
def gm_23 : Nat → Nat → Nat := up2 gm_22 296 37 320
def gm_24 : Nat → Nat → Nat := up2 gm_23 296 39 321
def gm_25 : Nat → Nat → Nat := up2 gm_24 296 40 322
def gm_26 : Nat → Nat → Nat := up2 gm_25 296 41 323
def gm_27 : Nat → Nat → Nat := up2 gm_26 296 42 324
def gm_28 : Nat → Nat → Nat := up2 gm_27 296 43 325
def gm_29 : Nat → Nat → Nat := up2 gm_28 296 45 326
def gm_30 : Nat → Nat → Nat := up2 gm_29 296 46 327
def gm_31 : Nat → Nat → Nat := up2 gm_30 296 47 328
def gm_32 : Nat → Nat → Nat := up2 gm_31 296 49 329
def gm_33 : Nat → Nat → Nat := up2 gm_32 296 50 330
def gm_34 : Nat → Nat → Nat := up2 gm_33 296 52 331
def gm_35 : Nat → Nat → Nat := up2 gm_34 296 53 332
def gm_36 : Nat → Nat → Nat := up2 gm_35 296 54 333
def gm_37 : Nat → Nat → Nat := up2 gm_36 296 56 334
def gm_38 : Nat → Nat → Nat := up2 gm_37 296 57 335
def gm_39 : Nat → Nat → Nat := up2 gm_38 296 58 336
def gm_40 : Nat → Nat → Nat := up2 gm_39 296 59 337
def gm_41 : Nat → Nat → Nat := up2 gm_40 296 61 338
def gm_42 : Nat → Nat → Nat := up2 gm_41 296 62 339
def gm_43 : Nat → Nat → Nat := up2 gm_42 296 64 340
def gm_44 : Nat → Nat → Nat := up2 gm_43 296 65 341
def gm_45 : Nat → Nat → Nat := up2 gm_44 296 66 342
def gm_46 : Nat → Nat → Nat := up2 gm_45 296 67 343
def gm_47 : Nat → Nat → Nat := up2 gm_46 296 69 344
def gm_48 : Nat → Nat → Nat := up2 gm_47 296 70 345
def gm_49 : Nat → Nat → Nat := up2 gm_48 296 71 346
def gm_50 : Nat → Nat → Nat := up2 gm_49 296 72 347
def gm_51 : Nat → Nat → Nat := up2 gm_50 296 73 348
def gm_52 : Nat → Nat → Nat := up2 gm_51 296 74 349
def gm_53 : Nat → Nat → Nat := up2 gm_52 296 77 350
def gm_54 : Nat → Nat → Nat := up2 gm_53 296 78 351
def gm_55 : Nat → Nat → Nat := up2 gm_54 296 79 352
def gm_56 : Nat → Nat → Nat := up2 gm_55 296 80 353
def gmz : Nat → Nat → Nat := gm_56
theorem lyM_new : lyM gm_56 := by
  have h : ∀ e ∈ LYM, gm_56 e.1 e.2.1 = e.2.2 := by decide +kernel
  exact h
def f_M_init (F : Nat) (I J : MI) : Option (MI × MI) := (f_M_plain F 0 (up2 I 296 17 (-1)) J).bind fun q0 => (f_M_word F 114 105 118 101 114 0 0 q0 J).bind fun w1 => (f_M_word F 100 101 112 116 104 0 0 q0 (up2 J 303 0 w1)).bind fun w2 => (f_M_word F 102 108 111 119 0 0 0 q0 (up2 (up2 J 303 0 w1) 303 1 w2)).bind fun w3 => (f_M_word F 108 101 97 112 0 0 0 q0 (up2 (up2 (up2 J 303 0 w1) 303 1 w2) 303 2 w3)).bind fun w4 => (f_M_word F 108 101 97 118 101 114 0 q0 (up2 (up2 (up2 (up2 J 303 0 w1) 303 1 w2) 303 2 w3) 303 3 w4)).bind fun w5 => (f_M_word F 102 108 111 111 100 0 0 q0 (up2 (up2 (up2 (up2 (up2 J 303 0 w1) 303 1 w2) 303 2 w3) 303 3 w4) 303 4 w5)).bind fun w6 => (f_M_word F 99 97 114 114 121 0 0 q0 (up2 (up2 (up2 (up2 (up2 (up2 J 303 0 w1) 303 1 w2) 303 2 w3) 303 3 w4) 303 4 w5) 303 5 w6)).bind fun w7 => (f_M_word F 115 108 105 112 0 0 0 q0 (up2 (up2 (up2 (up2 (up2 (up2 (up2 J 303 0 w1) 303 1 w2) 303 2 w3) 303 3 w4) 303 4 w5) 303 5 w6) 303 6 w7)).bind fun w8 => (f_M_word F 105 102 0 0 0 0 0 q0 (up2 (up2 (up2 (up2 (up2 (up2 (up2 (up2 J 303 0 w1) 303 1 w2) 303 2 w3) 303 3 w4) 303 4 w5) 303 5 w6) 303 6 w7) 303 7 w8)).bind fun w9 => (f_M_word F 116 104 101 110 0 0 0 q0 (up2 (up2 (up2 (up2 (up2 (up2 (up2 (up2 (up2 J 303 0 w1) 303 1 w2) 303 2 w3) 303 3 w4) 303 4 w5) 303 5 w6) 303 6 w7) 303 7 w8) 303 8 w9)).bind fun w10 => (f_M_word F 101 108 115 101 0 0 0 q0 (up2 (up2 (up2 (up2 (up2 (up2 (up2 (up2 (up2 (up2 J 303 0 w1) 303 1 w2) 303 2 w3) 303 3 w4) 303 4 w5) 303 5 w6) 303 6 w7) 303 7 w8) 303 8 w9) 303 9 w10)).bind fun w11 => (f_M_word F 115 116 111 110 101 115 0 q0 (up2 (up2 (up2 (up2 (up2 (up2 (up2 (up2 (up2 (up2 (up2 J 303 0 w1) 303 1 w2) 303 2 w3) 303 3 w4) 303 4 w5) 303 5 w6) 303 6 w7) 303 7 w8) 303 8 w9) 303 9 w10) 303 10 w11)).bind fun w12 => (f_M_word F 100 101 101 112 0 0 0 q0 (up2 (up2 (up2 (up2 (up2 (up2 (up2 (up2 (up2 (up2 (up2 (up2 J 303 0 w1) 303 1 w2) 303 2 w3) 303 3 w4) 303 4 w5) 303 5 w6) 303 6 w7) 303 7 w8) 303 8 w9) 303 9 w10) 303 10 w11) 303 11 w12)).bind fun w13 => (f_M_word F 102 111 114 99 101 0 0 q0 (up2 (up2 (up2 (up2 (up2 (up2 (up2 (up2 (up2 (up2 (up2 (up2 (up2 J 303 0 w1) 303 1 w2) 303 2 w3) 303 3 w4) 303 4 w5) 303 5 w6) 303 6 w7) 303 7 w8) 303 8 w9) 303 9 w10) 303 10 w11) 303 11 w12) 303 12 w13)).bind fun w14 => (f_M_word F 109 111 115 115 0 0 0 q0 (up2 (up2 (up2 (up2 (up2 (up2 (up2 (up2 (up2 (up2 (up2 (up2 (up2 (up2 J 303 0 w1) 303 1 w2) 303 2 w3) 303 3 w4) 303 4 w5) 303 5 w6) 303 6 w7) 303 7 w8) 303 8 w9) 303 9 w10) 303 10 w11) 303 11 w12) 303 12 w13) 303 13 w14)).bind fun w15 => (f_M_word F 97 99 114 111 115 115 0 q0 (up2 (up2 (up2 (up2 (up2 (up2 (up2 (up2 (up2 (up2 (up2 (up2 (up2 (up2 (up2 J 303 0 w1) 303 1 w2) 303 2 w3) 303 3 w4) 303 4 w5) 303 5 w6) 303 6 w7) 303 7 w8) 303 8 w9) 303 9 w10) 303 10 w11) 303 11 w12) 303 12 w13) 303 13 w14) 303 14 w15)).bind fun w16 => (f_M_word F 97 108 111 110 103 0 0 q0 (up2 (up2 (up2 (up2 (up2 (up2 (up2 (up2 (up2 (up2 (up2 (up2 (up2 (up2 (up2 (up2 J 303 0 w1) 303 1 w2) 303 2 w3) 303 3 w4) 303 4 w5) 303 5 w6) 303 6 w7) 303 7 w8) 303 8 w9) 303 9 w10) 303 10 w11) 303 11 w12) 303 12 w13) 303 13 w14) 303 14 w15) 303 15 w16)).bind fun w17 => (f_M_begins F q0 (up2 (up2 (up2 (up2 (up2 (up2 (up2 (up2 (up2 (up2 (up2 (up2 (up2 (up2 (up2 (up2 (up2 J 303 0 w1) 303 1 w2) 303 2 w3) 303 3 w4) 303 4 w5) 303 5 w6) 303 6 w7) 303 7 w8) 303 8 w9) 303 9 w10) 303 10 w11) 303 11 w12) 303 12 w13) 303 13 w14) 303 14 w15) 303 15 w16) 303 16 w17)).bind fun q => some (q, (up2 (up2 (up2 (up2 (up2 (up2 (up2 (up2 (up2 (up2 (up2 (up2 (up2 (up2 (up2 (up2 (up2 J 303 0 w1) 303 1 w2) 303 2 w3) 303 3 w4) 303 4 w5) 303 5 w6) 303 6 w7) 303 7 w8) 303 8 w9) 303 9 w10) 303 10 w11) 303 11 w12) 303 12 w13) 303 13 w14) 303 14 w15) 303 15 w16) 303 16 w17))
set_option maxHeartbeats 4000000 in
set_option maxRecDepth 10000 in
theorem n_M {l : Launch} {g : GX} {F : Nat} {I J : MI} (hf : fresh 296 I J gx_80) {res : MI × MI} (h : f_M_init F I J = some res) : Spec l g 20 yX11_init cX11_init 1 none [vR g 296] (296, I, J, gx_80) none True (353, res.1, res.2, gmz) := by
  refine spec_of (μ := (cX11_init, RX11, 1, 20, "<init>")) (k := 0) (L0 := [some (vR g 296)]) rfl mw_M_init rfl rfl (NL rfl) (fun φ hb hE => ?_)
  replace hb : cb φ = 353 := hb
  refine z_aload_n dX11_init_0 rfl ?_
  refine z_objI dX11_init_1 (tin5 161 (by rfl) rfl) wOi wOc rfl rfl ?_
  refine z_aload_n dX11_init_4 rfl ?_
  refine z_sipush dX11_init_5 (by decide +kernel) ?_
  refine z_newa (kd := 1) (n := 2000) (ty := .byte) dX11_init_8 rfl rfl (fun U cA h => h) rfl (inRd (by decide)) wArB (by decide) (by decide +kernel) (by decide) (by rw [hb]; exact NL rfl) (fun cA h => by rw [elt_arr (c := 21) (n := 2000) (by decide +kernel) (by omega) (by omega)]; rw [← h]; rfl) rfl (hf) ?_
  show Zt _ _ _ _ 10 _ [vR g 297, vR g 296] (297, I, J, gx_80)
  have hf1 : fresh 297 I J gx_80 := fresh_up (hf) (by decide)
  refine z_putFR (v := 297) (k := 1) dX11_init_10 cl11 (by decide +kernel) (by decide) (NL rfl) rfl rfl rfl rfl rfl (tin5 177 (by rfl) rfl) rfl rfl (by decide) ?_
  show Zt _ _ _ _ 13 _ [] (297, I, J, gm_0)
  have hf2 : fresh 297 I J gm_0 := fresh_G (hf1) (by decide)
  refine z_aload_n dX11_init_13 rfl ?_
  refine z_sipush dX11_init_14 (by decide +kernel) ?_
  refine z_newa (kd := 1) (n := 2000) (ty := .byte) dX11_init_17 rfl rfl (fun U cA h => h) rfl (inRd (by decide)) wArB (by decide) (by decide +kernel) (by decide) (by rw [hb]; exact NL rfl) (fun cA h => by rw [elt_arr (c := 21) (n := 2000) (by decide +kernel) (by omega) (by omega)]; rw [← h]; rfl) rfl (hf2) ?_
  show Zt _ _ _ _ 19 _ [vR g 298, vR g 296] (298, I, J, gm_0)
  have hf3 : fresh 298 I J gm_0 := fresh_up (hf2) (by decide)
  refine z_putFR (v := 298) (k := 3) dX11_init_19 cl11 (by decide +kernel) (by decide) (NL rfl) rfl rfl rfl rfl rfl (tin5 179 (by rfl) rfl) rfl rfl (by decide) ?_
  show Zt _ _ _ _ 22 _ [] (298, I, J, gm_1)
  have hf4 : fresh 298 I J gm_1 := fresh_G (hf3) (by decide)
  refine z_aload_n dX11_init_22 rfl ?_
  refine z_sipush dX11_init_23 (by decide +kernel) ?_
  refine z_newa (kd := 0) (n := 403) (ty := .int) dX11_init_26 rfl rfl (fun U cA h => h) rfl (inRd (by decide)) wArI (by decide) (by decide +kernel) (by decide) (by rw [hb]; exact NL rfl) (fun cA h => by rw [elt_arr (c := 20) (n := 403) (by decide +kernel) (by omega) (by omega)]; rw [← h]; rfl) rfl (hf4) ?_
  show Zt _ _ _ _ 28 _ [vR g 299, vR g 296] (299, I, J, gm_1)
  have hf5 : fresh 299 I J gm_1 := fresh_up (hf4) (by decide)
  refine z_putFR (v := 299) (k := 5) dX11_init_28 cl11 (by decide +kernel) (by decide) (NL rfl) rfl rfl rfl rfl rfl (tin5 181 (by rfl) rfl) rfl rfl (by decide) ?_
  show Zt _ _ _ _ 31 _ [] (299, I, J, gm_2)
  have hf6 : fresh 299 I J gm_2 := fresh_G (hf5) (by decide)
  refine z_aload_n dX11_init_31 rfl ?_
  refine z_sipush dX11_init_32 (by decide +kernel) ?_
  refine z_newa (kd := 0) (n := 403) (ty := .int) dX11_init_35 rfl rfl (fun U cA h => h) rfl (inRd (by decide)) wArI (by decide) (by decide +kernel) (by decide) (by rw [hb]; exact NL rfl) (fun cA h => by rw [elt_arr (c := 20) (n := 403) (by decide +kernel) (by omega) (by omega)]; rw [← h]; rfl) rfl (hf6) ?_
  show Zt _ _ _ _ 37 _ [vR g 300, vR g 296] (300, I, J, gm_2)
  have hf7 : fresh 300 I J gm_2 := fresh_up (hf6) (by decide)
  refine z_putFR (v := 300) (k := 6) dX11_init_37 cl11 (by decide +kernel) (by decide) (NL rfl) rfl rfl rfl rfl rfl (tin5 182 (by rfl) rfl) rfl rfl (by decide) ?_
  show Zt _ _ _ _ 40 _ [] (300, I, J, gm_3)
  have hf8 : fresh 300 I J gm_3 := fresh_G (hf7) (by decide)
  refine z_aload_n dX11_init_40 rfl ?_
  refine z_sipush dX11_init_41 (by decide +kernel) ?_
  refine z_newa (kd := 0) (n := 403) (ty := .int) dX11_init_44 rfl rfl (fun U cA h => h) rfl (inRd (by decide)) wArI (by decide) (by decide +kernel) (by decide) (by rw [hb]; exact NL rfl) (fun cA h => by rw [elt_arr (c := 20) (n := 403) (by decide +kernel) (by omega) (by omega)]; rw [← h]; rfl) rfl (hf8) ?_
  show Zt _ _ _ _ 46 _ [vR g 301, vR g 296] (301, I, J, gm_3)
  have hf9 : fresh 301 I J gm_3 := fresh_up (hf8) (by decide)
  refine z_putFR (v := 301) (k := 7) dX11_init_46 cl11 (by decide +kernel) (by decide) (NL rfl) rfl rfl rfl rfl rfl (tin5 183 (by rfl) rfl) rfl rfl (by decide) ?_
  show Zt _ _ _ _ 49 _ [] (301, I, J, gm_4)
  have hf10 : fresh 301 I J gm_4 := fresh_G (hf9) (by decide)
  refine z_aload_n dX11_init_49 rfl ?_
  refine z_sipush dX11_init_50 (by decide +kernel) ?_
  refine z_newa (kd := 3) (n := 403) (ty := .long) dX11_init_53 rfl rfl (fun U cA h => h) rfl (inRd (by decide)) wArL (by decide) (by decide +kernel) (by decide) (by rw [hb]; exact NL rfl) (fun cA h => by rw [elt_lng (n := 403) (by decide +kernel)]; rw [← h]; rfl) rfl (hf10) ?_
  show Zt _ _ _ _ 55 _ [vR g 302, vR g 296] (302, I, J, gm_4)
  have hf11 : fresh 302 I J gm_4 := fresh_up (hf10) (by decide)
  refine z_putFR (v := 302) (k := 8) dX11_init_55 cl11 (by decide +kernel) (by decide) (NL rfl) rfl rfl rfl rfl rfl (tin5 184 (by rfl) rfl) rfl rfl (by decide) ?_
  show Zt _ _ _ _ 58 _ [] (302, I, J, gm_5)
  have hf12 : fresh 302 I J gm_5 := fresh_G (hf11) (by decide)
  refine z_aload_n dX11_init_58 rfl ?_
  refine z_bipush dX11_init_59 (by decide +kernel) ?_
  refine z_newa (kd := 3) (n := 17) (ty := .long) dX11_init_61 rfl rfl (fun U cA h => h) rfl (inRd (by decide)) wArL (by decide) (by decide +kernel) (by decide) (by rw [hb]; exact NL rfl) (fun cA h => by rw [elt_lng (n := 17) (by decide +kernel)]; rw [← h]; rfl) rfl (hf12) ?_
  show Zt _ _ _ _ 63 _ [vR g 303, vR g 296] (303, I, J, gm_5)
  have hf13 : fresh 303 I J gm_5 := fresh_up (hf12) (by decide)
  refine z_putFR (v := 303) (k := 9) dX11_init_63 cl11 (by decide +kernel) (by decide) (NL rfl) rfl rfl rfl rfl rfl (tin5 185 (by rfl) rfl) rfl rfl (by decide) ?_
  show Zt _ _ _ _ 66 _ [] (303, I, J, gm_6)
  have hf14 : fresh 303 I J gm_6 := fresh_G (hf13) (by decide)
  refine z_aload_n dX11_init_66 rfl ?_
  refine z_iconst dX11_init_67 ?_
  refine y_putI dX11_init_68 cl11 (by decide +kernel) (by decide) (NL rfl) 17 rfl rfl rfl (tin5 193 (by rfl) rfl) rfl rfl (inRd (by decide)) ?_
  show Zt _ _ _ _ 71 _ [] (303, (up2 I 296 17 (-1)), J, gm_6)
  have hf15 : fresh 303 (up2 I 296 17 (-1)) J gm_6 := fresh_I (hf14) (by decide)
  refine z_aload_n dX11_init_71 rfl ?_
  refine z_bipush dX11_init_72 (by decide +kernel) ?_
  refine z_newa (kd := 3) (n := 8) (ty := .long) dX11_init_74 rfl rfl (fun U cA h => h) rfl (inRd (by decide)) wArL (by decide) (by decide +kernel) (by decide) (by rw [hb]; exact NL rfl) (fun cA h => by rw [elt_lng (n := 8) (by decide +kernel)]; rw [← h]; rfl) rfl (hf15) ?_
  show Zt _ _ _ _ 76 _ [vR g 304, vR g 296] (304, (up2 I 296 17 (-1)), J, gm_6)
  have hf16 : fresh 304 (up2 I 296 17 (-1)) J gm_6 := fresh_up (hf15) (by decide)
  refine z_putFR (v := 304) (k := 21) dX11_init_76 cl11 (by decide +kernel) (by decide) (NL rfl) rfl rfl rfl rfl rfl (tin5 197 (by rfl) rfl) rfl rfl (by decide) ?_
  show Zt _ _ _ _ 79 _ [] (304, (up2 I 296 17 (-1)), J, gm_7)
  have hf17 : fresh 304 (up2 I 296 17 (-1)) J gm_7 := fresh_G (hf16) (by decide)
  refine z_aload_n dX11_init_79 rfl ?_
  refine z_iconst dX11_init_80 ?_
  refine z_newa (kd := 0) (n := 2) (ty := .int) dX11_init_81 rfl rfl (fun U cA h => h) rfl (inRd (by decide)) wArI (by decide) (by decide +kernel) (by decide) (by rw [hb]; exact NL rfl) (fun cA h => by rw [elt_arr (c := 20) (n := 2) (by decide +kernel) (by omega) (by omega)]; rw [← h]; rfl) rfl (hf17) ?_
  show Zt _ _ _ _ 83 _ [vR g 305, vR g 296] (305, (up2 I 296 17 (-1)), J, gm_7)
  have hf18 : fresh 305 (up2 I 296 17 (-1)) J gm_7 := fresh_up (hf17) (by decide)
  refine z_putFR (v := 305) (k := 22) dX11_init_83 cl11 (by decide +kernel) (by decide) (NL rfl) rfl rfl rfl rfl rfl (tin5 198 (by rfl) rfl) rfl rfl (by decide) ?_
  show Zt _ _ _ _ 86 _ [] (305, (up2 I 296 17 (-1)), J, gm_8)
  have hf19 : fresh 305 (up2 I 296 17 (-1)) J gm_8 := fresh_G (hf18) (by decide)
  refine z_aload_n dX11_init_86 rfl ?_
  refine z_iconst dX11_init_87 ?_
  refine z_newa (kd := 0) (n := 2) (ty := .int) dX11_init_88 rfl rfl (fun U cA h => h) rfl (inRd (by decide)) wArI (by decide) (by decide +kernel) (by decide) (by rw [hb]; exact NL rfl) (fun cA h => by rw [elt_arr (c := 20) (n := 2) (by decide +kernel) (by omega) (by omega)]; rw [← h]; rfl) rfl (hf19) ?_
  show Zt _ _ _ _ 90 _ [vR g 306, vR g 296] (306, (up2 I 296 17 (-1)), J, gm_8)
  have hf20 : fresh 306 (up2 I 296 17 (-1)) J gm_8 := fresh_up (hf19) (by decide)
  refine z_putFR (v := 306) (k := 23) dX11_init_90 cl11 (by decide +kernel) (by decide) (NL rfl) rfl rfl rfl rfl rfl (tin5 199 (by rfl) rfl) rfl rfl (by decide) ?_
  show Zt _ _ _ _ 93 _ [] (306, (up2 I 296 17 (-1)), J, gm_9)
  have hf21 : fresh 306 (up2 I 296 17 (-1)) J gm_9 := fresh_G (hf20) (by decide)
  refine z_aload_n dX11_init_93 rfl ?_
  refine z_iconst dX11_init_94 ?_
  refine z_newa (kd := 0) (n := 2) (ty := .int) dX11_init_95 rfl rfl (fun U cA h => h) rfl (inRd (by decide)) wArI (by decide) (by decide +kernel) (by decide) (by rw [hb]; exact NL rfl) (fun cA h => by rw [elt_arr (c := 20) (n := 2) (by decide +kernel) (by omega) (by omega)]; rw [← h]; rfl) rfl (hf21) ?_
  show Zt _ _ _ _ 97 _ [vR g 307, vR g 296] (307, (up2 I 296 17 (-1)), J, gm_9)
  have hf22 : fresh 307 (up2 I 296 17 (-1)) J gm_9 := fresh_up (hf21) (by decide)
  refine z_putFR (v := 307) (k := 24) dX11_init_97 cl11 (by decide +kernel) (by decide) (NL rfl) rfl rfl rfl rfl rfl (tin5 200 (by rfl) rfl) rfl rfl (by decide) ?_
  show Zt _ _ _ _ 100 _ [] (307, (up2 I 296 17 (-1)), J, gm_10)
  have hf23 : fresh 307 (up2 I 296 17 (-1)) J gm_10 := fresh_G (hf22) (by decide)
  refine z_aload_n dX11_init_100 rfl ?_
  refine z_sipush dX11_init_101 (by decide +kernel) ?_
  refine z_newa (kd := 0) (n := 192) (ty := .int) dX11_init_104 rfl rfl (fun U cA h => h) rfl (inRd (by decide)) wArI (by decide) (by decide +kernel) (by decide) (by rw [hb]; exact NL rfl) (fun cA h => by rw [elt_arr (c := 20) (n := 192) (by decide +kernel) (by omega) (by omega)]; rw [← h]; rfl) rfl (hf23) ?_
  show Zt _ _ _ _ 106 _ [vR g 308, vR g 296] (308, (up2 I 296 17 (-1)), J, gm_10)
  have hf24 : fresh 308 (up2 I 296 17 (-1)) J gm_10 := fresh_up (hf23) (by decide)
  refine z_putFR (v := 308) (k := 25) dX11_init_106 cl11 (by decide +kernel) (by decide) (NL rfl) rfl rfl rfl rfl rfl (tin5 201 (by rfl) rfl) rfl rfl (by decide) ?_
  show Zt _ _ _ _ 109 _ [] (308, (up2 I 296 17 (-1)), J, gm_11)
  have hf25 : fresh 308 (up2 I 296 17 (-1)) J gm_11 := fresh_G (hf24) (by decide)
  refine z_aload_n dX11_init_109 rfl ?_
  refine z_bipush dX11_init_110 (by decide +kernel) ?_
  refine z_newa (kd := 0) (n := 16) (ty := .int) dX11_init_112 rfl rfl (fun U cA h => h) rfl (inRd (by decide)) wArI (by decide) (by decide +kernel) (by decide) (by rw [hb]; exact NL rfl) (fun cA h => by rw [elt_arr (c := 20) (n := 16) (by decide +kernel) (by omega) (by omega)]; rw [← h]; rfl) rfl (hf25) ?_
  show Zt _ _ _ _ 114 _ [vR g 309, vR g 296] (309, (up2 I 296 17 (-1)), J, gm_11)
  have hf26 : fresh 309 (up2 I 296 17 (-1)) J gm_11 := fresh_up (hf25) (by decide)
  refine z_putFR (v := 309) (k := 26) dX11_init_114 cl11 (by decide +kernel) (by decide) (NL rfl) rfl rfl rfl rfl rfl (tin5 202 (by rfl) rfl) rfl rfl (by decide) ?_
  show Zt _ _ _ _ 117 _ [] (309, (up2 I 296 17 (-1)), J, gm_12)
  have hf27 : fresh 309 (up2 I 296 17 (-1)) J gm_12 := fresh_G (hf26) (by decide)
  refine z_aload_n dX11_init_117 rfl ?_
  refine z_iconst dX11_init_118 ?_
  refine z_newa (kd := 0) (n := 2) (ty := .int) dX11_init_119 rfl rfl (fun U cA h => h) rfl (inRd (by decide)) wArI (by decide) (by decide +kernel) (by decide) (by rw [hb]; exact NL rfl) (fun cA h => by rw [elt_arr (c := 20) (n := 2) (by decide +kernel) (by omega) (by omega)]; rw [← h]; rfl) rfl (hf27) ?_
  show Zt _ _ _ _ 121 _ [vR g 310, vR g 296] (310, (up2 I 296 17 (-1)), J, gm_12)
  have hf28 : fresh 310 (up2 I 296 17 (-1)) J gm_12 := fresh_up (hf27) (by decide)
  refine z_putFR (v := 310) (k := 27) dX11_init_121 cl11 (by decide +kernel) (by decide) (NL rfl) rfl rfl rfl rfl rfl (tin5 203 (by rfl) rfl) rfl rfl (by decide) ?_
  show Zt _ _ _ _ 124 _ [] (310, (up2 I 296 17 (-1)), J, gm_13)
  have hf29 : fresh 310 (up2 I 296 17 (-1)) J gm_13 := fresh_G (hf28) (by decide)
  refine z_aload_n dX11_init_124 rfl ?_
  refine z_iconst dX11_init_125 ?_
  refine z_newa (kd := 0) (n := 2) (ty := .int) dX11_init_126 rfl rfl (fun U cA h => h) rfl (inRd (by decide)) wArI (by decide) (by decide +kernel) (by decide) (by rw [hb]; exact NL rfl) (fun cA h => by rw [elt_arr (c := 20) (n := 2) (by decide +kernel) (by omega) (by omega)]; rw [← h]; rfl) rfl (hf29) ?_
  show Zt _ _ _ _ 128 _ [vR g 311, vR g 296] (311, (up2 I 296 17 (-1)), J, gm_13)
  have hf30 : fresh 311 (up2 I 296 17 (-1)) J gm_13 := fresh_up (hf29) (by decide)
  refine z_putFR (v := 311) (k := 28) dX11_init_128 cl11 (by decide +kernel) (by decide) (NL rfl) rfl rfl rfl rfl rfl (tin5 204 (by rfl) rfl) rfl rfl (by decide) ?_
  show Zt _ _ _ _ 131 _ [] (311, (up2 I 296 17 (-1)), J, gm_14)
  have hf31 : fresh 311 (up2 I 296 17 (-1)) J gm_14 := fresh_G (hf30) (by decide)
  refine z_aload_n dX11_init_131 rfl ?_
  refine z_bipush dX11_init_132 (by decide +kernel) ?_
  refine z_newa (kd := 0) (n := 16) (ty := .int) dX11_init_134 rfl rfl (fun U cA h => h) rfl (inRd (by decide)) wArI (by decide) (by decide +kernel) (by decide) (by rw [hb]; exact NL rfl) (fun cA h => by rw [elt_arr (c := 20) (n := 16) (by decide +kernel) (by omega) (by omega)]; rw [← h]; rfl) rfl (hf31) ?_
  show Zt _ _ _ _ 136 _ [vR g 312, vR g 296] (312, (up2 I 296 17 (-1)), J, gm_14)
  have hf32 : fresh 312 (up2 I 296 17 (-1)) J gm_14 := fresh_up (hf31) (by decide)
  refine z_putFR (v := 312) (k := 29) dX11_init_136 cl11 (by decide +kernel) (by decide) (NL rfl) rfl rfl rfl rfl rfl (tin5 205 (by rfl) rfl) rfl rfl (by decide) ?_
  show Zt _ _ _ _ 139 _ [] (312, (up2 I 296 17 (-1)), J, gm_15)
  have hf33 : fresh 312 (up2 I 296 17 (-1)) J gm_15 := fresh_G (hf32) (by decide)
  refine z_aload_n dX11_init_139 rfl ?_
  refine z_bipush dX11_init_140 (by decide +kernel) ?_
  refine z_newa (kd := 0) (n := 16) (ty := .int) dX11_init_142 rfl rfl (fun U cA h => h) rfl (inRd (by decide)) wArI (by decide) (by decide +kernel) (by decide) (by rw [hb]; exact NL rfl) (fun cA h => by rw [elt_arr (c := 20) (n := 16) (by decide +kernel) (by omega) (by omega)]; rw [← h]; rfl) rfl (hf33) ?_
  show Zt _ _ _ _ 144 _ [vR g 313, vR g 296] (313, (up2 I 296 17 (-1)), J, gm_15)
  have hf34 : fresh 313 (up2 I 296 17 (-1)) J gm_15 := fresh_up (hf33) (by decide)
  refine z_putFR (v := 313) (k := 30) dX11_init_144 cl11 (by decide +kernel) (by decide) (NL rfl) rfl rfl rfl rfl rfl (tin5 206 (by rfl) rfl) rfl rfl (by decide) ?_
  show Zt _ _ _ _ 147 _ [] (313, (up2 I 296 17 (-1)), J, gm_16)
  have hf35 : fresh 313 (up2 I 296 17 (-1)) J gm_16 := fresh_G (hf34) (by decide)
  refine z_aload_n dX11_init_147 rfl ?_
  refine z_bipush dX11_init_148 (by decide +kernel) ?_
  refine z_newa (kd := 0) (n := 16) (ty := .int) dX11_init_150 rfl rfl (fun U cA h => h) rfl (inRd (by decide)) wArI (by decide) (by decide +kernel) (by decide) (by rw [hb]; exact NL rfl) (fun cA h => by rw [elt_arr (c := 20) (n := 16) (by decide +kernel) (by omega) (by omega)]; rw [← h]; rfl) rfl (hf35) ?_
  show Zt _ _ _ _ 152 _ [vR g 314, vR g 296] (314, (up2 I 296 17 (-1)), J, gm_16)
  have hf36 : fresh 314 (up2 I 296 17 (-1)) J gm_16 := fresh_up (hf35) (by decide)
  refine z_putFR (v := 314) (k := 31) dX11_init_152 cl11 (by decide +kernel) (by decide) (NL rfl) rfl rfl rfl rfl rfl (tin5 207 (by rfl) rfl) rfl rfl (by decide) ?_
  show Zt _ _ _ _ 155 _ [] (314, (up2 I 296 17 (-1)), J, gm_17)
  have hf37 : fresh 314 (up2 I 296 17 (-1)) J gm_17 := fresh_G (hf36) (by decide)
  refine z_aload_n dX11_init_155 rfl ?_
  refine z_bipush dX11_init_156 (by decide +kernel) ?_
  refine z_newa (kd := 0) (n := 16) (ty := .int) dX11_init_158 rfl rfl (fun U cA h => h) rfl (inRd (by decide)) wArI (by decide) (by decide +kernel) (by decide) (by rw [hb]; exact NL rfl) (fun cA h => by rw [elt_arr (c := 20) (n := 16) (by decide +kernel) (by omega) (by omega)]; rw [← h]; rfl) rfl (hf37) ?_
  show Zt _ _ _ _ 160 _ [vR g 315, vR g 296] (315, (up2 I 296 17 (-1)), J, gm_17)
  have hf38 : fresh 315 (up2 I 296 17 (-1)) J gm_17 := fresh_up (hf37) (by decide)
  refine z_putFR (v := 315) (k := 32) dX11_init_160 cl11 (by decide +kernel) (by decide) (NL rfl) rfl rfl rfl rfl rfl (tin5 208 (by rfl) rfl) rfl rfl (by decide) ?_
  show Zt _ _ _ _ 163 _ [] (315, (up2 I 296 17 (-1)), J, gm_18)
  have hf39 : fresh 315 (up2 I 296 17 (-1)) J gm_18 := fresh_G (hf38) (by decide)
  refine z_aload_n dX11_init_163 rfl ?_
  refine z_iconst dX11_init_164 ?_
  refine z_newa (kd := 0) (n := 2) (ty := .int) dX11_init_165 rfl rfl (fun U cA h => h) rfl (inRd (by decide)) wArI (by decide) (by decide +kernel) (by decide) (by rw [hb]; exact NL rfl) (fun cA h => by rw [elt_arr (c := 20) (n := 2) (by decide +kernel) (by omega) (by omega)]; rw [← h]; rfl) rfl (hf39) ?_
  show Zt _ _ _ _ 167 _ [vR g 316, vR g 296] (316, (up2 I 296 17 (-1)), J, gm_18)
  have hf40 : fresh 316 (up2 I 296 17 (-1)) J gm_18 := fresh_up (hf39) (by decide)
  refine z_putFR (v := 316) (k := 33) dX11_init_167 cl11 (by decide +kernel) (by decide) (NL rfl) rfl rfl rfl rfl rfl (tin5 209 (by rfl) rfl) rfl rfl (by decide) ?_
  show Zt _ _ _ _ 170 _ [] (316, (up2 I 296 17 (-1)), J, gm_19)
  have hf41 : fresh 316 (up2 I 296 17 (-1)) J gm_19 := fresh_G (hf40) (by decide)
  refine z_aload_n dX11_init_170 rfl ?_
  refine z_bipush dX11_init_171 (by decide +kernel) ?_
  refine z_newa (kd := 0) (n := 16) (ty := .int) dX11_init_173 rfl rfl (fun U cA h => h) rfl (inRd (by decide)) wArI (by decide) (by decide +kernel) (by decide) (by rw [hb]; exact NL rfl) (fun cA h => by rw [elt_arr (c := 20) (n := 16) (by decide +kernel) (by omega) (by omega)]; rw [← h]; rfl) rfl (hf41) ?_
  show Zt _ _ _ _ 175 _ [vR g 317, vR g 296] (317, (up2 I 296 17 (-1)), J, gm_19)
  have hf42 : fresh 317 (up2 I 296 17 (-1)) J gm_19 := fresh_up (hf41) (by decide)
  refine z_putFR (v := 317) (k := 34) dX11_init_175 cl11 (by decide +kernel) (by decide) (NL rfl) rfl rfl rfl rfl rfl (tin5 210 (by rfl) rfl) rfl rfl (by decide) ?_
  show Zt _ _ _ _ 178 _ [] (317, (up2 I 296 17 (-1)), J, gm_20)
  have hf43 : fresh 317 (up2 I 296 17 (-1)) J gm_20 := fresh_G (hf42) (by decide)
  refine z_aload_n dX11_init_178 rfl ?_
  refine z_bipush dX11_init_179 (by decide +kernel) ?_
  refine z_newa (kd := 0) (n := 16) (ty := .int) dX11_init_181 rfl rfl (fun U cA h => h) rfl (inRd (by decide)) wArI (by decide) (by decide +kernel) (by decide) (by rw [hb]; exact NL rfl) (fun cA h => by rw [elt_arr (c := 20) (n := 16) (by decide +kernel) (by omega) (by omega)]; rw [← h]; rfl) rfl (hf43) ?_
  show Zt _ _ _ _ 183 _ [vR g 318, vR g 296] (318, (up2 I 296 17 (-1)), J, gm_20)
  have hf44 : fresh 318 (up2 I 296 17 (-1)) J gm_20 := fresh_up (hf43) (by decide)
  refine z_putFR (v := 318) (k := 35) dX11_init_183 cl11 (by decide +kernel) (by decide) (NL rfl) rfl rfl rfl rfl rfl (tin5 211 (by rfl) rfl) rfl rfl (by decide) ?_
  show Zt _ _ _ _ 186 _ [] (318, (up2 I 296 17 (-1)), J, gm_21)
  have hf45 : fresh 318 (up2 I 296 17 (-1)) J gm_21 := fresh_G (hf44) (by decide)
  refine z_aload_n dX11_init_186 rfl ?_
  refine z_iconst dX11_init_187 ?_
  refine z_newa (kd := 0) (n := 4) (ty := .int) dX11_init_188 rfl rfl (fun U cA h => h) rfl (inRd (by decide)) wArI (by decide) (by decide +kernel) (by decide) (by rw [hb]; exact NL rfl) (fun cA h => by rw [elt_arr (c := 20) (n := 4) (by decide +kernel) (by omega) (by omega)]; rw [← h]; rfl) rfl (hf45) ?_
  show Zt _ _ _ _ 190 _ [vR g 319, vR g 296] (319, (up2 I 296 17 (-1)), J, gm_21)
  have hf46 : fresh 319 (up2 I 296 17 (-1)) J gm_21 := fresh_up (hf45) (by decide)
  refine z_putFR (v := 319) (k := 36) dX11_init_190 cl11 (by decide +kernel) (by decide) (NL rfl) rfl rfl rfl rfl rfl (tin5 212 (by rfl) rfl) rfl rfl (by decide) ?_
  show Zt _ _ _ _ 193 _ [] (319, (up2 I 296 17 (-1)), J, gm_22)
  have hf47 : fresh 319 (up2 I 296 17 (-1)) J gm_22 := fresh_G (hf46) (by decide)
  refine z_aload_n dX11_init_193 rfl ?_
  refine z_iconst dX11_init_194 ?_
  refine z_newa (kd := 0) (n := 4) (ty := .int) dX11_init_195 rfl rfl (fun U cA h => h) rfl (inRd (by decide)) wArI (by decide) (by decide +kernel) (by decide) (by rw [hb]; exact NL rfl) (fun cA h => by rw [elt_arr (c := 20) (n := 4) (by decide +kernel) (by omega) (by omega)]; rw [← h]; rfl) rfl (hf47) ?_
  show Zt _ _ _ _ 197 _ [vR g 320, vR g 296] (320, (up2 I 296 17 (-1)), J, gm_22)
  have hf48 : fresh 320 (up2 I 296 17 (-1)) J gm_22 := fresh_up (hf47) (by decide)
  refine z_putFR (v := 320) (k := 37) dX11_init_197 cl11 (by decide +kernel) (by decide) (NL rfl) rfl rfl rfl rfl rfl (tin5 213 (by rfl) rfl) rfl rfl (by decide) ?_
  show Zt _ _ _ _ 200 _ [] (320, (up2 I 296 17 (-1)), J, gm_23)
  have hf49 : fresh 320 (up2 I 296 17 (-1)) J gm_23 := fresh_G (hf48) (by decide)
  refine z_aload_n dX11_init_200 rfl ?_
  refine z_sipush dX11_init_201 (by decide +kernel) ?_
  refine z_newa (kd := 2) (n := 260) (ty := .boolean) dX11_init_204 rfl rfl (fun U cA h => h) rfl (inRd (by decide)) wArZ (by decide) (by decide +kernel) (by decide) (by rw [hb]; exact NL rfl) (fun cA h => by rw [elt_arr (c := 22) (n := 260) (by decide +kernel) (by omega) (by omega)]; rw [← h]; rfl) rfl (hf49) ?_
  show Zt _ _ _ _ 206 _ [vR g 321, vR g 296] (321, (up2 I 296 17 (-1)), J, gm_23)
  have hf50 : fresh 321 (up2 I 296 17 (-1)) J gm_23 := fresh_up (hf49) (by decide)
  refine z_putFR (v := 321) (k := 39) dX11_init_206 cl11 (by decide +kernel) (by decide) (NL rfl) rfl rfl rfl rfl rfl (tin5 215 (by rfl) rfl) rfl rfl (by decide) ?_
  show Zt _ _ _ _ 209 _ [] (321, (up2 I 296 17 (-1)), J, gm_24)
  have hf51 : fresh 321 (up2 I 296 17 (-1)) J gm_24 := fresh_G (hf50) (by decide)
  refine z_aload_n dX11_init_209 rfl ?_
  refine z_sipush dX11_init_210 (by decide +kernel) ?_
  refine z_newa (kd := 0) (n := 260) (ty := .int) dX11_init_213 rfl rfl (fun U cA h => h) rfl (inRd (by decide)) wArI (by decide) (by decide +kernel) (by decide) (by rw [hb]; exact NL rfl) (fun cA h => by rw [elt_arr (c := 20) (n := 260) (by decide +kernel) (by omega) (by omega)]; rw [← h]; rfl) rfl (hf51) ?_
  show Zt _ _ _ _ 215 _ [vR g 322, vR g 296] (322, (up2 I 296 17 (-1)), J, gm_24)
  have hf52 : fresh 322 (up2 I 296 17 (-1)) J gm_24 := fresh_up (hf51) (by decide)
  refine z_putFR (v := 322) (k := 40) dX11_init_215 cl11 (by decide +kernel) (by decide) (NL rfl) rfl rfl rfl rfl rfl (tin5 216 (by rfl) rfl) rfl rfl (by decide) ?_
  show Zt _ _ _ _ 218 _ [] (322, (up2 I 296 17 (-1)), J, gm_25)
  have hf53 : fresh 322 (up2 I 296 17 (-1)) J gm_25 := fresh_G (hf52) (by decide)
  refine z_aload_n dX11_init_218 rfl ?_
  refine z_sipush dX11_init_219 (by decide +kernel) ?_
  refine z_newa (kd := 0) (n := 260) (ty := .int) dX11_init_222 rfl rfl (fun U cA h => h) rfl (inRd (by decide)) wArI (by decide) (by decide +kernel) (by decide) (by rw [hb]; exact NL rfl) (fun cA h => by rw [elt_arr (c := 20) (n := 260) (by decide +kernel) (by omega) (by omega)]; rw [← h]; rfl) rfl (hf53) ?_
  show Zt _ _ _ _ 224 _ [vR g 323, vR g 296] (323, (up2 I 296 17 (-1)), J, gm_25)
  have hf54 : fresh 323 (up2 I 296 17 (-1)) J gm_25 := fresh_up (hf53) (by decide)
  refine z_putFR (v := 323) (k := 41) dX11_init_224 cl11 (by decide +kernel) (by decide) (NL rfl) rfl rfl rfl rfl rfl (tin5 217 (by rfl) rfl) rfl rfl (by decide) ?_
  show Zt _ _ _ _ 227 _ [] (323, (up2 I 296 17 (-1)), J, gm_26)
  have hf55 : fresh 323 (up2 I 296 17 (-1)) J gm_26 := fresh_G (hf54) (by decide)
  refine z_aload_n dX11_init_227 rfl ?_
  refine z_sipush dX11_init_228 (by decide +kernel) ?_
  refine z_newa (kd := 0) (n := 260) (ty := .int) dX11_init_231 rfl rfl (fun U cA h => h) rfl (inRd (by decide)) wArI (by decide) (by decide +kernel) (by decide) (by rw [hb]; exact NL rfl) (fun cA h => by rw [elt_arr (c := 20) (n := 260) (by decide +kernel) (by omega) (by omega)]; rw [← h]; rfl) rfl (hf55) ?_
  show Zt _ _ _ _ 233 _ [vR g 324, vR g 296] (324, (up2 I 296 17 (-1)), J, gm_26)
  have hf56 : fresh 324 (up2 I 296 17 (-1)) J gm_26 := fresh_up (hf55) (by decide)
  refine z_putFR (v := 324) (k := 42) dX11_init_233 cl11 (by decide +kernel) (by decide) (NL rfl) rfl rfl rfl rfl rfl (tin5 218 (by rfl) rfl) rfl rfl (by decide) ?_
  show Zt _ _ _ _ 236 _ [] (324, (up2 I 296 17 (-1)), J, gm_27)
  have hf57 : fresh 324 (up2 I 296 17 (-1)) J gm_27 := fresh_G (hf56) (by decide)
  refine z_aload_n dX11_init_236 rfl ?_
  refine z_sipush dX11_init_237 (by decide +kernel) ?_
  refine z_newa (kd := 0) (n := 260) (ty := .int) dX11_init_240 rfl rfl (fun U cA h => h) rfl (inRd (by decide)) wArI (by decide) (by decide +kernel) (by decide) (by rw [hb]; exact NL rfl) (fun cA h => by rw [elt_arr (c := 20) (n := 260) (by decide +kernel) (by omega) (by omega)]; rw [← h]; rfl) rfl (hf57) ?_
  show Zt _ _ _ _ 242 _ [vR g 325, vR g 296] (325, (up2 I 296 17 (-1)), J, gm_27)
  have hf58 : fresh 325 (up2 I 296 17 (-1)) J gm_27 := fresh_up (hf57) (by decide)
  refine z_putFR (v := 325) (k := 43) dX11_init_242 cl11 (by decide +kernel) (by decide) (NL rfl) rfl rfl rfl rfl rfl (tin5 219 (by rfl) rfl) rfl rfl (by decide) ?_
  show Zt _ _ _ _ 245 _ [] (325, (up2 I 296 17 (-1)), J, gm_28)
  have hf59 : fresh 325 (up2 I 296 17 (-1)) J gm_28 := fresh_G (hf58) (by decide)
  refine z_aload_n dX11_init_245 rfl ?_
  refine z_sipush dX11_init_246 (by decide +kernel) ?_
  refine z_newa (kd := 0) (n := 840) (ty := .int) dX11_init_249 rfl rfl (fun U cA h => h) rfl (inRd (by decide)) wArI (by decide) (by decide +kernel) (by decide) (by rw [hb]; exact NL rfl) (fun cA h => by rw [elt_arr (c := 20) (n := 840) (by decide +kernel) (by omega) (by omega)]; rw [← h]; rfl) rfl (hf59) ?_
  show Zt _ _ _ _ 251 _ [vR g 326, vR g 296] (326, (up2 I 296 17 (-1)), J, gm_28)
  have hf60 : fresh 326 (up2 I 296 17 (-1)) J gm_28 := fresh_up (hf59) (by decide)
  refine z_putFR (v := 326) (k := 45) dX11_init_251 cl11 (by decide +kernel) (by decide) (NL rfl) rfl rfl rfl rfl rfl (tin5 221 (by rfl) rfl) rfl rfl (by decide) ?_
  show Zt _ _ _ _ 254 _ [] (326, (up2 I 296 17 (-1)), J, gm_29)
  have hf61 : fresh 326 (up2 I 296 17 (-1)) J gm_29 := fresh_G (hf60) (by decide)
  refine z_aload_n dX11_init_254 rfl ?_
  refine z_sipush dX11_init_255 (by decide +kernel) ?_
  refine z_newa (kd := 0) (n := 840) (ty := .int) dX11_init_258 rfl rfl (fun U cA h => h) rfl (inRd (by decide)) wArI (by decide) (by decide +kernel) (by decide) (by rw [hb]; exact NL rfl) (fun cA h => by rw [elt_arr (c := 20) (n := 840) (by decide +kernel) (by omega) (by omega)]; rw [← h]; rfl) rfl (hf61) ?_
  show Zt _ _ _ _ 260 _ [vR g 327, vR g 296] (327, (up2 I 296 17 (-1)), J, gm_29)
  have hf62 : fresh 327 (up2 I 296 17 (-1)) J gm_29 := fresh_up (hf61) (by decide)
  refine z_putFR (v := 327) (k := 46) dX11_init_260 cl11 (by decide +kernel) (by decide) (NL rfl) rfl rfl rfl rfl rfl (tin5 222 (by rfl) rfl) rfl rfl (by decide) ?_
  show Zt _ _ _ _ 263 _ [] (327, (up2 I 296 17 (-1)), J, gm_30)
  have hf63 : fresh 327 (up2 I 296 17 (-1)) J gm_30 := fresh_G (hf62) (by decide)
  refine z_aload_n dX11_init_263 rfl ?_
  refine z_bipush dX11_init_264 (by decide +kernel) ?_
  refine z_newa (kd := 0) (n := 64) (ty := .int) dX11_init_266 rfl rfl (fun U cA h => h) rfl (inRd (by decide)) wArI (by decide) (by decide +kernel) (by decide) (by rw [hb]; exact NL rfl) (fun cA h => by rw [elt_arr (c := 20) (n := 64) (by decide +kernel) (by omega) (by omega)]; rw [← h]; rfl) rfl (hf63) ?_
  show Zt _ _ _ _ 268 _ [vR g 328, vR g 296] (328, (up2 I 296 17 (-1)), J, gm_30)
  have hf64 : fresh 328 (up2 I 296 17 (-1)) J gm_30 := fresh_up (hf63) (by decide)
  refine z_putFR (v := 328) (k := 47) dX11_init_268 cl11 (by decide +kernel) (by decide) (NL rfl) rfl rfl rfl rfl rfl (tin5 223 (by rfl) rfl) rfl rfl (by decide) ?_
  show Zt _ _ _ _ 271 _ [] (328, (up2 I 296 17 (-1)), J, gm_31)
  have hf65 : fresh 328 (up2 I 296 17 (-1)) J gm_31 := fresh_G (hf64) (by decide)
  refine z_aload_n dX11_init_271 rfl ?_
  refine z_bipush dX11_init_272 (by decide +kernel) ?_
  refine z_newa (kd := 0) (n := 6) (ty := .int) dX11_init_274 rfl rfl (fun U cA h => h) rfl (inRd (by decide)) wArI (by decide) (by decide +kernel) (by decide) (by rw [hb]; exact NL rfl) (fun cA h => by rw [elt_arr (c := 20) (n := 6) (by decide +kernel) (by omega) (by omega)]; rw [← h]; rfl) rfl (hf65) ?_
  show Zt _ _ _ _ 276 _ [vR g 329, vR g 296] (329, (up2 I 296 17 (-1)), J, gm_31)
  have hf66 : fresh 329 (up2 I 296 17 (-1)) J gm_31 := fresh_up (hf65) (by decide)
  refine z_putFR (v := 329) (k := 49) dX11_init_276 cl11 (by decide +kernel) (by decide) (NL rfl) rfl rfl rfl rfl rfl (tin5 225 (by rfl) rfl) rfl rfl (by decide) ?_
  show Zt _ _ _ _ 279 _ [] (329, (up2 I 296 17 (-1)), J, gm_32)
  have hf67 : fresh 329 (up2 I 296 17 (-1)) J gm_32 := fresh_G (hf66) (by decide)
  refine z_aload_n dX11_init_279 rfl ?_
  refine z_sipush dX11_init_280 (by decide +kernel) ?_
  refine z_newa (kd := 0) (n := 400) (ty := .int) dX11_init_283 rfl rfl (fun U cA h => h) rfl (inRd (by decide)) wArI (by decide) (by decide +kernel) (by decide) (by rw [hb]; exact NL rfl) (fun cA h => by rw [elt_arr (c := 20) (n := 400) (by decide +kernel) (by omega) (by omega)]; rw [← h]; rfl) rfl (hf67) ?_
  show Zt _ _ _ _ 285 _ [vR g 330, vR g 296] (330, (up2 I 296 17 (-1)), J, gm_32)
  have hf68 : fresh 330 (up2 I 296 17 (-1)) J gm_32 := fresh_up (hf67) (by decide)
  refine z_putFR (v := 330) (k := 50) dX11_init_285 cl11 (by decide +kernel) (by decide) (NL rfl) rfl rfl rfl rfl rfl (tin5 226 (by rfl) rfl) rfl rfl (by decide) ?_
  show Zt _ _ _ _ 288 _ [] (330, (up2 I 296 17 (-1)), J, gm_33)
  have hf69 : fresh 330 (up2 I 296 17 (-1)) J gm_33 := fresh_G (hf68) (by decide)
  refine z_aload_n dX11_init_288 rfl ?_
  refine z_sipush dX11_init_289 (by decide +kernel) ?_
  refine z_newa (kd := 0) (n := 250) (ty := .int) dX11_init_292 rfl rfl (fun U cA h => h) rfl (inRd (by decide)) wArI (by decide) (by decide +kernel) (by decide) (by rw [hb]; exact NL rfl) (fun cA h => by rw [elt_arr (c := 20) (n := 250) (by decide +kernel) (by omega) (by omega)]; rw [← h]; rfl) rfl (hf69) ?_
  show Zt _ _ _ _ 294 _ [vR g 331, vR g 296] (331, (up2 I 296 17 (-1)), J, gm_33)
  have hf70 : fresh 331 (up2 I 296 17 (-1)) J gm_33 := fresh_up (hf69) (by decide)
  refine z_putFR (v := 331) (k := 52) dX11_init_294 cl11 (by decide +kernel) (by decide) (NL rfl) rfl rfl rfl rfl rfl (tin5 228 (by rfl) rfl) rfl rfl (by decide) ?_
  show Zt _ _ _ _ 297 _ [] (331, (up2 I 296 17 (-1)), J, gm_34)
  have hf71 : fresh 331 (up2 I 296 17 (-1)) J gm_34 := fresh_G (hf70) (by decide)
  refine z_aload_n dX11_init_297 rfl ?_
  refine z_sipush dX11_init_298 (by decide +kernel) ?_
  refine z_newa (kd := 0) (n := 250) (ty := .int) dX11_init_301 rfl rfl (fun U cA h => h) rfl (inRd (by decide)) wArI (by decide) (by decide +kernel) (by decide) (by rw [hb]; exact NL rfl) (fun cA h => by rw [elt_arr (c := 20) (n := 250) (by decide +kernel) (by omega) (by omega)]; rw [← h]; rfl) rfl (hf71) ?_
  show Zt _ _ _ _ 303 _ [vR g 332, vR g 296] (332, (up2 I 296 17 (-1)), J, gm_34)
  have hf72 : fresh 332 (up2 I 296 17 (-1)) J gm_34 := fresh_up (hf71) (by decide)
  refine z_putFR (v := 332) (k := 53) dX11_init_303 cl11 (by decide +kernel) (by decide) (NL rfl) rfl rfl rfl rfl rfl (tin5 229 (by rfl) rfl) rfl rfl (by decide) ?_
  show Zt _ _ _ _ 306 _ [] (332, (up2 I 296 17 (-1)), J, gm_35)
  have hf73 : fresh 332 (up2 I 296 17 (-1)) J gm_35 := fresh_G (hf72) (by decide)
  refine z_aload_n dX11_init_306 rfl ?_
  refine z_bipush dX11_init_307 (by decide +kernel) ?_
  refine z_newa (kd := 0) (n := 96) (ty := .int) dX11_init_309 rfl rfl (fun U cA h => h) rfl (inRd (by decide)) wArI (by decide) (by decide +kernel) (by decide) (by rw [hb]; exact NL rfl) (fun cA h => by rw [elt_arr (c := 20) (n := 96) (by decide +kernel) (by omega) (by omega)]; rw [← h]; rfl) rfl (hf73) ?_
  show Zt _ _ _ _ 311 _ [vR g 333, vR g 296] (333, (up2 I 296 17 (-1)), J, gm_35)
  have hf74 : fresh 333 (up2 I 296 17 (-1)) J gm_35 := fresh_up (hf73) (by decide)
  refine z_putFR (v := 333) (k := 54) dX11_init_311 cl11 (by decide +kernel) (by decide) (NL rfl) rfl rfl rfl rfl rfl (tin5 230 (by rfl) rfl) rfl rfl (by decide) ?_
  show Zt _ _ _ _ 314 _ [] (333, (up2 I 296 17 (-1)), J, gm_36)
  have hf75 : fresh 333 (up2 I 296 17 (-1)) J gm_36 := fresh_G (hf74) (by decide)
  refine z_aload_n dX11_init_314 rfl ?_
  refine z_sipush dX11_init_315 (by decide +kernel) ?_
  refine z_newa (kd := 0) (n := 6250) (ty := .int) dX11_init_318 rfl rfl (fun U cA h => h) rfl (inRd (by decide)) wArI (by decide) (by decide +kernel) (by decide) (by rw [hb]; exact NL rfl) (fun cA h => by rw [elt_arr (c := 20) (n := 6250) (by decide +kernel) (by omega) (by omega)]; rw [← h]; rfl) rfl (hf75) ?_
  show Zt _ _ _ _ 320 _ [vR g 334, vR g 296] (334, (up2 I 296 17 (-1)), J, gm_36)
  have hf76 : fresh 334 (up2 I 296 17 (-1)) J gm_36 := fresh_up (hf75) (by decide)
  refine z_putFR (v := 334) (k := 56) dX11_init_320 cl11 (by decide +kernel) (by decide) (NL rfl) rfl rfl rfl rfl rfl (tin5 232 (by rfl) rfl) rfl rfl (by decide) ?_
  show Zt _ _ _ _ 323 _ [] (334, (up2 I 296 17 (-1)), J, gm_37)
  have hf77 : fresh 334 (up2 I 296 17 (-1)) J gm_37 := fresh_G (hf76) (by decide)
  refine z_aload_n dX11_init_323 rfl ?_
  refine z_bipush dX11_init_324 (by decide +kernel) ?_
  refine z_newa (kd := 2) (n := 96) (ty := .boolean) dX11_init_326 rfl rfl (fun U cA h => h) rfl (inRd (by decide)) wArZ (by decide) (by decide +kernel) (by decide) (by rw [hb]; exact NL rfl) (fun cA h => by rw [elt_arr (c := 22) (n := 96) (by decide +kernel) (by omega) (by omega)]; rw [← h]; rfl) rfl (hf77) ?_
  show Zt _ _ _ _ 328 _ [vR g 335, vR g 296] (335, (up2 I 296 17 (-1)), J, gm_37)
  have hf78 : fresh 335 (up2 I 296 17 (-1)) J gm_37 := fresh_up (hf77) (by decide)
  refine z_putFR (v := 335) (k := 57) dX11_init_328 cl11 (by decide +kernel) (by decide) (NL rfl) rfl rfl rfl rfl rfl (tin5 233 (by rfl) rfl) rfl rfl (by decide) ?_
  show Zt _ _ _ _ 331 _ [] (335, (up2 I 296 17 (-1)), J, gm_38)
  have hf79 : fresh 335 (up2 I 296 17 (-1)) J gm_38 := fresh_G (hf78) (by decide)
  refine z_aload_n dX11_init_331 rfl ?_
  refine z_bipush dX11_init_332 (by decide +kernel) ?_
  refine z_newa (kd := 0) (n := 96) (ty := .int) dX11_init_334 rfl rfl (fun U cA h => h) rfl (inRd (by decide)) wArI (by decide) (by decide +kernel) (by decide) (by rw [hb]; exact NL rfl) (fun cA h => by rw [elt_arr (c := 20) (n := 96) (by decide +kernel) (by omega) (by omega)]; rw [← h]; rfl) rfl (hf79) ?_
  show Zt _ _ _ _ 336 _ [vR g 336, vR g 296] (336, (up2 I 296 17 (-1)), J, gm_38)
  have hf80 : fresh 336 (up2 I 296 17 (-1)) J gm_38 := fresh_up (hf79) (by decide)
  refine z_putFR (v := 336) (k := 58) dX11_init_336 cl11 (by decide +kernel) (by decide) (NL rfl) rfl rfl rfl rfl rfl (tin5 234 (by rfl) rfl) rfl rfl (by decide) ?_
  show Zt _ _ _ _ 339 _ [] (336, (up2 I 296 17 (-1)), J, gm_39)
  have hf81 : fresh 336 (up2 I 296 17 (-1)) J gm_39 := fresh_G (hf80) (by decide)
  refine z_aload_n dX11_init_339 rfl ?_
  refine z_bipush dX11_init_340 (by decide +kernel) ?_
  refine z_newa (kd := 0) (n := 97) (ty := .int) dX11_init_342 rfl rfl (fun U cA h => h) rfl (inRd (by decide)) wArI (by decide) (by decide +kernel) (by decide) (by rw [hb]; exact NL rfl) (fun cA h => by rw [elt_arr (c := 20) (n := 97) (by decide +kernel) (by omega) (by omega)]; rw [← h]; rfl) rfl (hf81) ?_
  show Zt _ _ _ _ 344 _ [vR g 337, vR g 296] (337, (up2 I 296 17 (-1)), J, gm_39)
  have hf82 : fresh 337 (up2 I 296 17 (-1)) J gm_39 := fresh_up (hf81) (by decide)
  refine z_putFR (v := 337) (k := 59) dX11_init_344 cl11 (by decide +kernel) (by decide) (NL rfl) rfl rfl rfl rfl rfl (tin5 235 (by rfl) rfl) rfl rfl (by decide) ?_
  show Zt _ _ _ _ 347 _ [] (337, (up2 I 296 17 (-1)), J, gm_40)
  have hf83 : fresh 337 (up2 I 296 17 (-1)) J gm_40 := fresh_G (hf82) (by decide)
  refine z_aload_n dX11_init_347 rfl ?_
  refine z_bipush dX11_init_348 (by decide +kernel) ?_
  refine z_newa (kd := 0) (n := 96) (ty := .int) dX11_init_350 rfl rfl (fun U cA h => h) rfl (inRd (by decide)) wArI (by decide) (by decide +kernel) (by decide) (by rw [hb]; exact NL rfl) (fun cA h => by rw [elt_arr (c := 20) (n := 96) (by decide +kernel) (by omega) (by omega)]; rw [← h]; rfl) rfl (hf83) ?_
  show Zt _ _ _ _ 352 _ [vR g 338, vR g 296] (338, (up2 I 296 17 (-1)), J, gm_40)
  have hf84 : fresh 338 (up2 I 296 17 (-1)) J gm_40 := fresh_up (hf83) (by decide)
  refine z_putFR (v := 338) (k := 61) dX11_init_352 cl11 (by decide +kernel) (by decide) (NL rfl) rfl rfl rfl rfl rfl (tin5 237 (by rfl) rfl) rfl rfl (by decide) ?_
  show Zt _ _ _ _ 355 _ [] (338, (up2 I 296 17 (-1)), J, gm_41)
  have hf85 : fresh 338 (up2 I 296 17 (-1)) J gm_41 := fresh_G (hf84) (by decide)
  refine z_aload_n dX11_init_355 rfl ?_
  refine z_sipush dX11_init_356 (by decide +kernel) ?_
  refine z_newa (kd := 0) (n := 900) (ty := .int) dX11_init_359 rfl rfl (fun U cA h => h) rfl (inRd (by decide)) wArI (by decide) (by decide +kernel) (by decide) (by rw [hb]; exact NL rfl) (fun cA h => by rw [elt_arr (c := 20) (n := 900) (by decide +kernel) (by omega) (by omega)]; rw [← h]; rfl) rfl (hf85) ?_
  show Zt _ _ _ _ 361 _ [vR g 339, vR g 296] (339, (up2 I 296 17 (-1)), J, gm_41)
  have hf86 : fresh 339 (up2 I 296 17 (-1)) J gm_41 := fresh_up (hf85) (by decide)
  refine z_putFR (v := 339) (k := 62) dX11_init_361 cl11 (by decide +kernel) (by decide) (NL rfl) rfl rfl rfl rfl rfl (tin5 238 (by rfl) rfl) rfl rfl (by decide) ?_
  show Zt _ _ _ _ 364 _ [] (339, (up2 I 296 17 (-1)), J, gm_42)
  have hf87 : fresh 339 (up2 I 296 17 (-1)) J gm_42 := fresh_G (hf86) (by decide)
  refine z_aload_n dX11_init_364 rfl ?_
  refine z_bipush dX11_init_365 (by decide +kernel) ?_
  refine z_newa (kd := 0) (n := 8) (ty := .int) dX11_init_367 rfl rfl (fun U cA h => h) rfl (inRd (by decide)) wArI (by decide) (by decide +kernel) (by decide) (by rw [hb]; exact NL rfl) (fun cA h => by rw [elt_arr (c := 20) (n := 8) (by decide +kernel) (by omega) (by omega)]; rw [← h]; rfl) rfl (hf87) ?_
  show Zt _ _ _ _ 369 _ [vR g 340, vR g 296] (340, (up2 I 296 17 (-1)), J, gm_42)
  have hf88 : fresh 340 (up2 I 296 17 (-1)) J gm_42 := fresh_up (hf87) (by decide)
  refine z_putFR (v := 340) (k := 64) dX11_init_369 cl11 (by decide +kernel) (by decide) (NL rfl) rfl rfl rfl rfl rfl (tin6 0 (by rfl) rfl) rfl rfl (by decide) ?_
  show Zt _ _ _ _ 372 _ [] (340, (up2 I 296 17 (-1)), J, gm_43)
  have hf89 : fresh 340 (up2 I 296 17 (-1)) J gm_43 := fresh_G (hf88) (by decide)
  refine z_aload_n dX11_init_372 rfl ?_
  refine z_bipush dX11_init_373 (by decide +kernel) ?_
  refine z_newa (kd := 0) (n := 8) (ty := .int) dX11_init_375 rfl rfl (fun U cA h => h) rfl (inRd (by decide)) wArI (by decide) (by decide +kernel) (by decide) (by rw [hb]; exact NL rfl) (fun cA h => by rw [elt_arr (c := 20) (n := 8) (by decide +kernel) (by omega) (by omega)]; rw [← h]; rfl) rfl (hf89) ?_
  show Zt _ _ _ _ 377 _ [vR g 341, vR g 296] (341, (up2 I 296 17 (-1)), J, gm_43)
  have hf90 : fresh 341 (up2 I 296 17 (-1)) J gm_43 := fresh_up (hf89) (by decide)
  refine z_putFR (v := 341) (k := 65) dX11_init_377 cl11 (by decide +kernel) (by decide) (NL rfl) rfl rfl rfl rfl rfl (tin6 1 (by rfl) rfl) rfl rfl (by decide) ?_
  show Zt _ _ _ _ 380 _ [] (341, (up2 I 296 17 (-1)), J, gm_44)
  have hf91 : fresh 341 (up2 I 296 17 (-1)) J gm_44 := fresh_G (hf90) (by decide)
  refine z_aload_n dX11_init_380 rfl ?_
  refine z_bipush dX11_init_381 (by decide +kernel) ?_
  refine z_newa (kd := 0) (n := 11) (ty := .int) dX11_init_383 rfl rfl (fun U cA h => h) rfl (inRd (by decide)) wArI (by decide) (by decide +kernel) (by decide) (by rw [hb]; exact NL rfl) (fun cA h => by rw [elt_arr (c := 20) (n := 11) (by decide +kernel) (by omega) (by omega)]; rw [← h]; rfl) rfl (hf91) ?_
  show Zt _ _ _ _ 385 _ [vR g 342, vR g 296] (342, (up2 I 296 17 (-1)), J, gm_44)
  have hf92 : fresh 342 (up2 I 296 17 (-1)) J gm_44 := fresh_up (hf91) (by decide)
  refine z_putFR (v := 342) (k := 66) dX11_init_385 cl11 (by decide +kernel) (by decide) (NL rfl) rfl rfl rfl rfl rfl (tin6 2 (by rfl) rfl) rfl rfl (by decide) ?_
  show Zt _ _ _ _ 388 _ [] (342, (up2 I 296 17 (-1)), J, gm_45)
  have hf93 : fresh 342 (up2 I 296 17 (-1)) J gm_45 := fresh_G (hf92) (by decide)
  refine z_aload_n dX11_init_388 rfl ?_
  refine z_bipush dX11_init_389 (by decide +kernel) ?_
  refine z_newa (kd := 0) (n := 8) (ty := .int) dX11_init_391 rfl rfl (fun U cA h => h) rfl (inRd (by decide)) wArI (by decide) (by decide +kernel) (by decide) (by rw [hb]; exact NL rfl) (fun cA h => by rw [elt_arr (c := 20) (n := 8) (by decide +kernel) (by omega) (by omega)]; rw [← h]; rfl) rfl (hf93) ?_
  show Zt _ _ _ _ 393 _ [vR g 343, vR g 296] (343, (up2 I 296 17 (-1)), J, gm_45)
  have hf94 : fresh 343 (up2 I 296 17 (-1)) J gm_45 := fresh_up (hf93) (by decide)
  refine z_putFR (v := 343) (k := 67) dX11_init_393 cl11 (by decide +kernel) (by decide) (NL rfl) rfl rfl rfl rfl rfl (tin6 3 (by rfl) rfl) rfl rfl (by decide) ?_
  show Zt _ _ _ _ 396 _ [] (343, (up2 I 296 17 (-1)), J, gm_46)
  have hf95 : fresh 343 (up2 I 296 17 (-1)) J gm_46 := fresh_G (hf94) (by decide)
  refine z_aload_n dX11_init_396 rfl ?_
  refine z_bipush dX11_init_397 (by decide +kernel) ?_
  refine z_newa (kd := 2) (n := 96) (ty := .boolean) dX11_init_399 rfl rfl (fun U cA h => h) rfl (inRd (by decide)) wArZ (by decide) (by decide +kernel) (by decide) (by rw [hb]; exact NL rfl) (fun cA h => by rw [elt_arr (c := 22) (n := 96) (by decide +kernel) (by omega) (by omega)]; rw [← h]; rfl) rfl (hf95) ?_
  show Zt _ _ _ _ 401 _ [vR g 344, vR g 296] (344, (up2 I 296 17 (-1)), J, gm_46)
  have hf96 : fresh 344 (up2 I 296 17 (-1)) J gm_46 := fresh_up (hf95) (by decide)
  refine z_putFR (v := 344) (k := 69) dX11_init_401 cl11 (by decide +kernel) (by decide) (NL rfl) rfl rfl rfl rfl rfl (tin6 5 (by rfl) rfl) rfl rfl (by decide) ?_
  show Zt _ _ _ _ 404 _ [] (344, (up2 I 296 17 (-1)), J, gm_47)
  have hf97 : fresh 344 (up2 I 296 17 (-1)) J gm_47 := fresh_G (hf96) (by decide)
  refine z_aload_n dX11_init_404 rfl ?_
  refine z_bipush dX11_init_405 (by decide +kernel) ?_
  refine z_newa (kd := 2) (n := 96) (ty := .boolean) dX11_init_407 rfl rfl (fun U cA h => h) rfl (inRd (by decide)) wArZ (by decide) (by decide +kernel) (by decide) (by rw [hb]; exact NL rfl) (fun cA h => by rw [elt_arr (c := 22) (n := 96) (by decide +kernel) (by omega) (by omega)]; rw [← h]; rfl) rfl (hf97) ?_
  show Zt _ _ _ _ 409 _ [vR g 345, vR g 296] (345, (up2 I 296 17 (-1)), J, gm_47)
  have hf98 : fresh 345 (up2 I 296 17 (-1)) J gm_47 := fresh_up (hf97) (by decide)
  refine z_putFR (v := 345) (k := 70) dX11_init_409 cl11 (by decide +kernel) (by decide) (NL rfl) rfl rfl rfl rfl rfl (tin6 6 (by rfl) rfl) rfl rfl (by decide) ?_
  show Zt _ _ _ _ 412 _ [] (345, (up2 I 296 17 (-1)), J, gm_48)
  have hf99 : fresh 345 (up2 I 296 17 (-1)) J gm_48 := fresh_G (hf98) (by decide)
  refine z_aload_n dX11_init_412 rfl ?_
  refine z_sipush dX11_init_413 (by decide +kernel) ?_
  refine z_newa (kd := 2) (n := 9216) (ty := .boolean) dX11_init_416 rfl rfl (fun U cA h => h) rfl (inRd (by decide)) wArZ (by decide) (by decide +kernel) (by decide) (by rw [hb]; exact NL rfl) (fun cA h => by rw [elt_arr (c := 22) (n := 9216) (by decide +kernel) (by omega) (by omega)]; rw [← h]; rfl) rfl (hf99) ?_
  show Zt _ _ _ _ 418 _ [vR g 346, vR g 296] (346, (up2 I 296 17 (-1)), J, gm_48)
  have hf100 : fresh 346 (up2 I 296 17 (-1)) J gm_48 := fresh_up (hf99) (by decide)
  refine z_putFR (v := 346) (k := 71) dX11_init_418 cl11 (by decide +kernel) (by decide) (NL rfl) rfl rfl rfl rfl rfl (tin6 7 (by rfl) rfl) rfl rfl (by decide) ?_
  show Zt _ _ _ _ 421 _ [] (346, (up2 I 296 17 (-1)), J, gm_49)
  have hf101 : fresh 346 (up2 I 296 17 (-1)) J gm_49 := fresh_G (hf100) (by decide)
  refine z_aload_n dX11_init_421 rfl ?_
  refine z_bipush dX11_init_422 (by decide +kernel) ?_
  refine z_newa (kd := 2) (n := 96) (ty := .boolean) dX11_init_424 rfl rfl (fun U cA h => h) rfl (inRd (by decide)) wArZ (by decide) (by decide +kernel) (by decide) (by rw [hb]; exact NL rfl) (fun cA h => by rw [elt_arr (c := 22) (n := 96) (by decide +kernel) (by omega) (by omega)]; rw [← h]; rfl) rfl (hf101) ?_
  show Zt _ _ _ _ 426 _ [vR g 347, vR g 296] (347, (up2 I 296 17 (-1)), J, gm_49)
  have hf102 : fresh 347 (up2 I 296 17 (-1)) J gm_49 := fresh_up (hf101) (by decide)
  refine z_putFR (v := 347) (k := 72) dX11_init_426 cl11 (by decide +kernel) (by decide) (NL rfl) rfl rfl rfl rfl rfl (tin6 8 (by rfl) rfl) rfl rfl (by decide) ?_
  show Zt _ _ _ _ 429 _ [] (347, (up2 I 296 17 (-1)), J, gm_50)
  have hf103 : fresh 347 (up2 I 296 17 (-1)) J gm_50 := fresh_G (hf102) (by decide)
  refine z_aload_n dX11_init_429 rfl ?_
  refine z_sipush dX11_init_430 (by decide +kernel) ?_
  refine z_newa (kd := 0) (n := 192) (ty := .int) dX11_init_433 rfl rfl (fun U cA h => h) rfl (inRd (by decide)) wArI (by decide) (by decide +kernel) (by decide) (by rw [hb]; exact NL rfl) (fun cA h => by rw [elt_arr (c := 20) (n := 192) (by decide +kernel) (by omega) (by omega)]; rw [← h]; rfl) rfl (hf103) ?_
  show Zt _ _ _ _ 435 _ [vR g 348, vR g 296] (348, (up2 I 296 17 (-1)), J, gm_50)
  have hf104 : fresh 348 (up2 I 296 17 (-1)) J gm_50 := fresh_up (hf103) (by decide)
  refine z_putFR (v := 348) (k := 73) dX11_init_435 cl11 (by decide +kernel) (by decide) (NL rfl) rfl rfl rfl rfl rfl (tin6 9 (by rfl) rfl) rfl rfl (by decide) ?_
  show Zt _ _ _ _ 438 _ [] (348, (up2 I 296 17 (-1)), J, gm_51)
  have hf105 : fresh 348 (up2 I 296 17 (-1)) J gm_51 := fresh_G (hf104) (by decide)
  refine z_aload_n dX11_init_438 rfl ?_
  refine z_sipush dX11_init_439 (by decide +kernel) ?_
  refine z_newa (kd := 0) (n := 192) (ty := .int) dX11_init_442 rfl rfl (fun U cA h => h) rfl (inRd (by decide)) wArI (by decide) (by decide +kernel) (by decide) (by rw [hb]; exact NL rfl) (fun cA h => by rw [elt_arr (c := 20) (n := 192) (by decide +kernel) (by omega) (by omega)]; rw [← h]; rfl) rfl (hf105) ?_
  show Zt _ _ _ _ 444 _ [vR g 349, vR g 296] (349, (up2 I 296 17 (-1)), J, gm_51)
  have hf106 : fresh 349 (up2 I 296 17 (-1)) J gm_51 := fresh_up (hf105) (by decide)
  refine z_putFR (v := 349) (k := 74) dX11_init_444 cl11 (by decide +kernel) (by decide) (NL rfl) rfl rfl rfl rfl rfl (tin6 10 (by rfl) rfl) rfl rfl (by decide) ?_
  show Zt _ _ _ _ 447 _ [] (349, (up2 I 296 17 (-1)), J, gm_52)
  have hf107 : fresh 349 (up2 I 296 17 (-1)) J gm_52 := fresh_G (hf106) (by decide)
  refine z_aload_n dX11_init_447 rfl ?_
  refine z_bipush dX11_init_448 (by decide +kernel) ?_
  refine z_newa (kd := 0) (n := 20) (ty := .int) dX11_init_450 rfl rfl (fun U cA h => h) rfl (inRd (by decide)) wArI (by decide) (by decide +kernel) (by decide) (by rw [hb]; exact NL rfl) (fun cA h => by rw [elt_arr (c := 20) (n := 20) (by decide +kernel) (by omega) (by omega)]; rw [← h]; rfl) rfl (hf107) ?_
  show Zt _ _ _ _ 452 _ [vR g 350, vR g 296] (350, (up2 I 296 17 (-1)), J, gm_52)
  have hf108 : fresh 350 (up2 I 296 17 (-1)) J gm_52 := fresh_up (hf107) (by decide)
  refine z_putFR (v := 350) (k := 77) dX11_init_452 cl11 (by decide +kernel) (by decide) (NL rfl) rfl rfl rfl rfl rfl (tin6 13 (by rfl) rfl) rfl rfl (by decide) ?_
  show Zt _ _ _ _ 455 _ [] (350, (up2 I 296 17 (-1)), J, gm_53)
  have hf109 : fresh 350 (up2 I 296 17 (-1)) J gm_53 := fresh_G (hf108) (by decide)
  refine z_aload_n dX11_init_455 rfl ?_
  refine z_bipush dX11_init_456 (by decide +kernel) ?_
  refine z_newa (kd := 0) (n := 20) (ty := .int) dX11_init_458 rfl rfl (fun U cA h => h) rfl (inRd (by decide)) wArI (by decide) (by decide +kernel) (by decide) (by rw [hb]; exact NL rfl) (fun cA h => by rw [elt_arr (c := 20) (n := 20) (by decide +kernel) (by omega) (by omega)]; rw [← h]; rfl) rfl (hf109) ?_
  show Zt _ _ _ _ 460 _ [vR g 351, vR g 296] (351, (up2 I 296 17 (-1)), J, gm_53)
  have hf110 : fresh 351 (up2 I 296 17 (-1)) J gm_53 := fresh_up (hf109) (by decide)
  refine z_putFR (v := 351) (k := 78) dX11_init_460 cl11 (by decide +kernel) (by decide) (NL rfl) rfl rfl rfl rfl rfl (tin6 14 (by rfl) rfl) rfl rfl (by decide) ?_
  show Zt _ _ _ _ 463 _ [] (351, (up2 I 296 17 (-1)), J, gm_54)
  have hf111 : fresh 351 (up2 I 296 17 (-1)) J gm_54 := fresh_G (hf110) (by decide)
  refine z_aload_n dX11_init_463 rfl ?_
  refine z_iconst dX11_init_464 ?_
  refine z_newa (kd := 2) (n := 3) (ty := .boolean) dX11_init_465 rfl rfl (fun U cA h => h) rfl (inRd (by decide)) wArZ (by decide) (by decide +kernel) (by decide) (by rw [hb]; exact NL rfl) (fun cA h => by rw [elt_arr (c := 22) (n := 3) (by decide +kernel) (by omega) (by omega)]; rw [← h]; rfl) rfl (hf111) ?_
  show Zt _ _ _ _ 467 _ [vR g 352, vR g 296] (352, (up2 I 296 17 (-1)), J, gm_54)
  have hf112 : fresh 352 (up2 I 296 17 (-1)) J gm_54 := fresh_up (hf111) (by decide)
  refine z_putFR (v := 352) (k := 79) dX11_init_467 cl11 (by decide +kernel) (by decide) (NL rfl) rfl rfl rfl rfl rfl (tin6 15 (by rfl) rfl) rfl rfl (by decide) ?_
  show Zt _ _ _ _ 470 _ [] (352, (up2 I 296 17 (-1)), J, gm_55)
  have hf113 : fresh 352 (up2 I 296 17 (-1)) J gm_55 := fresh_G (hf112) (by decide)
  refine z_aload_n dX11_init_470 rfl ?_
  refine z_sipush dX11_init_471 (by decide +kernel) ?_
  refine z_newa (kd := 0) (n := 750) (ty := .int) dX11_init_474 rfl rfl (fun U cA h => h) rfl (inRd (by decide)) wArI (by decide) (by decide +kernel) (by decide) (by rw [hb]; exact NL rfl) (fun cA h => by rw [elt_arr (c := 20) (n := 750) (by decide +kernel) (by omega) (by omega)]; rw [← h]; rfl) rfl (hf113) ?_
  show Zt _ _ _ _ 476 _ [vR g 353, vR g 296] (353, (up2 I 296 17 (-1)), J, gm_55)
  have hf114 : fresh 353 (up2 I 296 17 (-1)) J gm_55 := fresh_up (hf113) (by decide)
  refine z_putFR (v := 353) (k := 80) dX11_init_476 cl11 (by decide +kernel) (by decide) (NL rfl) rfl rfl rfl rfl rfl (tin6 16 (by rfl) rfl) rfl rfl (by decide) ?_
  show Zt _ _ _ _ 479 _ [] (353, (up2 I 296 17 (-1)), J, gm_56)
  have hf115 : fresh 353 (up2 I 296 17 (-1)) J gm_56 := fresh_G (hf114) (by decide)
  refine z_aload_n dX11_init_479 rfl ?_
  refine z_iconst dX11_init_480 ?_
  obtain ⟨q0, hq0, h⟩ := bindE h
  refine z_callV (As := [vI 0]) (rest := []) (s_M_plain (NL rfl) lyM_new inR_0 hq0) dX11_init_481 mw_M_plain cl11 (by decide +kernel) (by decide) (NL rfl) (tin5 162 (by rfl) rfl) im_M_plain se_M_plain rfl rfl rfl rfl (NL rfl) (by rw [hb]; exact NL rfl) (fun _ => ?_)
  show Zt _ _ _ _ 484 _ [] (353, q0, J, gm_56)
  refine z_aload_n dX11_init_484 rfl ?_
  refine y_getR (v := 303) dX11_init_485 cl11 (by decide +kernel) (by decide) (NL rfl) 9 rfl rfl (tin5 185 (by rfl) rfl) (by decide +kernel) (by decide) ?_
  refine z_iconst dX11_init_488 ?_
  refine z_bipush dX11_init_489 (by decide +kernel) ?_
  refine z_bipush dX11_init_491 (by decide +kernel) ?_
  refine z_bipush dX11_init_493 (by decide +kernel) ?_
  refine z_bipush dX11_init_495 (by decide +kernel) ?_
  refine z_bipush dX11_init_497 (by decide +kernel) ?_
  refine z_iconst dX11_init_499 ?_
  refine z_iconst dX11_init_500 ?_
  obtain ⟨w1, hw1, h⟩ := bindE h
  refine z_callS (As := [vI 114, vI 105, vI 118, vI 101, vI 114, vI 0, vI 0]) (rest := [vI 0, vR g 303]) (s_M_word (NL rfl) lyM_new (inRd (by decide)) (inRd (by decide)) (inRd (by decide)) (inRd (by decide)) (inRd (by decide)) (inRd (by decide)) (inRd (by decide)) hw1) dX11_init_501 mw_M_word (tin5 166 (by rfl) rfl) st_M_word rfl rfl rfl rfl (NL rfl) (by rw [hb]; exact NL rfl) (fun hl1 => ?_)
  show Zt _ _ _ _ 504 _ [vL w1, vI 0, vR g 303] (353, q0, J, gm_56)
  refine y_last (n := 17) dX11_init_504 (by decide +kernel) (by decide) (NL rfl) (inRd (by decide)) (by decide) hl1 ?_
  show Zt _ _ _ _ 505 _ [] (353, q0, (up2 J 303 0 w1), gm_56)
  refine z_aload_n dX11_init_505 rfl ?_
  refine y_getR (v := 303) dX11_init_506 cl11 (by decide +kernel) (by decide) (NL rfl) 9 rfl rfl (tin5 185 (by rfl) rfl) (by decide +kernel) (by decide) ?_
  refine z_iconst dX11_init_509 ?_
  refine z_bipush dX11_init_510 (by decide +kernel) ?_
  refine z_bipush dX11_init_512 (by decide +kernel) ?_
  refine z_bipush dX11_init_514 (by decide +kernel) ?_
  refine z_bipush dX11_init_516 (by decide +kernel) ?_
  refine z_bipush dX11_init_518 (by decide +kernel) ?_
  refine z_iconst dX11_init_520 ?_
  refine z_iconst dX11_init_521 ?_
  obtain ⟨w2, hw2, h⟩ := bindE h
  refine z_callS (As := [vI 100, vI 101, vI 112, vI 116, vI 104, vI 0, vI 0]) (rest := [vI 1, vR g 303]) (s_M_word (NL rfl) lyM_new (inRd (by decide)) (inRd (by decide)) (inRd (by decide)) (inRd (by decide)) (inRd (by decide)) (inRd (by decide)) (inRd (by decide)) hw2) dX11_init_522 mw_M_word (tin5 166 (by rfl) rfl) st_M_word rfl rfl rfl rfl (NL rfl) (by rw [hb]; exact NL rfl) (fun hl2 => ?_)
  show Zt _ _ _ _ 525 _ [vL w2, vI 1, vR g 303] (353, q0, (up2 J 303 0 w1), gm_56)
  refine y_last (n := 17) dX11_init_525 (by decide +kernel) (by decide) (NL rfl) (inRd (by decide)) (by decide) hl2 ?_
  show Zt _ _ _ _ 526 _ [] (353, q0, (up2 (up2 J 303 0 w1) 303 1 w2), gm_56)
  refine z_aload_n dX11_init_526 rfl ?_
  refine y_getR (v := 303) dX11_init_527 cl11 (by decide +kernel) (by decide) (NL rfl) 9 rfl rfl (tin5 185 (by rfl) rfl) (by decide +kernel) (by decide) ?_
  refine z_iconst dX11_init_530 ?_
  refine z_bipush dX11_init_531 (by decide +kernel) ?_
  refine z_bipush dX11_init_533 (by decide +kernel) ?_
  refine z_bipush dX11_init_535 (by decide +kernel) ?_
  refine z_bipush dX11_init_537 (by decide +kernel) ?_
  refine z_iconst dX11_init_539 ?_
  refine z_iconst dX11_init_540 ?_
  refine z_iconst dX11_init_541 ?_
  obtain ⟨w3, hw3, h⟩ := bindE h
  refine z_callS (As := [vI 102, vI 108, vI 111, vI 119, vI 0, vI 0, vI 0]) (rest := [vI 2, vR g 303]) (s_M_word (NL rfl) lyM_new (inRd (by decide)) (inRd (by decide)) (inRd (by decide)) (inRd (by decide)) (inRd (by decide)) (inRd (by decide)) (inRd (by decide)) hw3) dX11_init_542 mw_M_word (tin5 166 (by rfl) rfl) st_M_word rfl rfl rfl rfl (NL rfl) (by rw [hb]; exact NL rfl) (fun hl3 => ?_)
  show Zt _ _ _ _ 545 _ [vL w3, vI 2, vR g 303] (353, q0, (up2 (up2 J 303 0 w1) 303 1 w2), gm_56)
  refine y_last (n := 17) dX11_init_545 (by decide +kernel) (by decide) (NL rfl) (inRd (by decide)) (by decide) hl3 ?_
  show Zt _ _ _ _ 546 _ [] (353, q0, (up2 (up2 (up2 J 303 0 w1) 303 1 w2) 303 2 w3), gm_56)
  refine z_aload_n dX11_init_546 rfl ?_
  refine y_getR (v := 303) dX11_init_547 cl11 (by decide +kernel) (by decide) (NL rfl) 9 rfl rfl (tin5 185 (by rfl) rfl) (by decide +kernel) (by decide) ?_
  refine z_iconst dX11_init_550 ?_
  refine z_bipush dX11_init_551 (by decide +kernel) ?_
  refine z_bipush dX11_init_553 (by decide +kernel) ?_
  refine z_bipush dX11_init_555 (by decide +kernel) ?_
  refine z_bipush dX11_init_557 (by decide +kernel) ?_
  refine z_iconst dX11_init_559 ?_
  refine z_iconst dX11_init_560 ?_
  refine z_iconst dX11_init_561 ?_
  obtain ⟨w4, hw4, h⟩ := bindE h
  refine z_callS (As := [vI 108, vI 101, vI 97, vI 112, vI 0, vI 0, vI 0]) (rest := [vI 3, vR g 303]) (s_M_word (NL rfl) lyM_new (inRd (by decide)) (inRd (by decide)) (inRd (by decide)) (inRd (by decide)) (inRd (by decide)) (inRd (by decide)) (inRd (by decide)) hw4) dX11_init_562 mw_M_word (tin5 166 (by rfl) rfl) st_M_word rfl rfl rfl rfl (NL rfl) (by rw [hb]; exact NL rfl) (fun hl4 => ?_)
  show Zt _ _ _ _ 565 _ [vL w4, vI 3, vR g 303] (353, q0, (up2 (up2 (up2 J 303 0 w1) 303 1 w2) 303 2 w3), gm_56)
  refine y_last (n := 17) dX11_init_565 (by decide +kernel) (by decide) (NL rfl) (inRd (by decide)) (by decide) hl4 ?_
  show Zt _ _ _ _ 566 _ [] (353, q0, (up2 (up2 (up2 (up2 J 303 0 w1) 303 1 w2) 303 2 w3) 303 3 w4), gm_56)
  refine z_aload_n dX11_init_566 rfl ?_
  refine y_getR (v := 303) dX11_init_567 cl11 (by decide +kernel) (by decide) (NL rfl) 9 rfl rfl (tin5 185 (by rfl) rfl) (by decide +kernel) (by decide) ?_
  refine z_iconst dX11_init_570 ?_
  refine z_bipush dX11_init_571 (by decide +kernel) ?_
  refine z_bipush dX11_init_573 (by decide +kernel) ?_
  refine z_bipush dX11_init_575 (by decide +kernel) ?_
  refine z_bipush dX11_init_577 (by decide +kernel) ?_
  refine z_bipush dX11_init_579 (by decide +kernel) ?_
  refine z_bipush dX11_init_581 (by decide +kernel) ?_
  refine z_iconst dX11_init_583 ?_
  obtain ⟨w5, hw5, h⟩ := bindE h
  refine z_callS (As := [vI 108, vI 101, vI 97, vI 118, vI 101, vI 114, vI 0]) (rest := [vI 4, vR g 303]) (s_M_word (NL rfl) lyM_new (inRd (by decide)) (inRd (by decide)) (inRd (by decide)) (inRd (by decide)) (inRd (by decide)) (inRd (by decide)) (inRd (by decide)) hw5) dX11_init_584 mw_M_word (tin5 166 (by rfl) rfl) st_M_word rfl rfl rfl rfl (NL rfl) (by rw [hb]; exact NL rfl) (fun hl5 => ?_)
  show Zt _ _ _ _ 587 _ [vL w5, vI 4, vR g 303] (353, q0, (up2 (up2 (up2 (up2 J 303 0 w1) 303 1 w2) 303 2 w3) 303 3 w4), gm_56)
  refine y_last (n := 17) dX11_init_587 (by decide +kernel) (by decide) (NL rfl) (inRd (by decide)) (by decide) hl5 ?_
  show Zt _ _ _ _ 588 _ [] (353, q0, (up2 (up2 (up2 (up2 (up2 J 303 0 w1) 303 1 w2) 303 2 w3) 303 3 w4) 303 4 w5), gm_56)
  refine z_aload_n dX11_init_588 rfl ?_
  refine y_getR (v := 303) dX11_init_589 cl11 (by decide +kernel) (by decide) (NL rfl) 9 rfl rfl (tin5 185 (by rfl) rfl) (by decide +kernel) (by decide) ?_
  refine z_iconst dX11_init_592 ?_
  refine z_bipush dX11_init_593 (by decide +kernel) ?_
  refine z_bipush dX11_init_595 (by decide +kernel) ?_
  refine z_bipush dX11_init_597 (by decide +kernel) ?_
  refine z_bipush dX11_init_599 (by decide +kernel) ?_
  refine z_bipush dX11_init_601 (by decide +kernel) ?_
  refine z_iconst dX11_init_603 ?_
  refine z_iconst dX11_init_604 ?_
  obtain ⟨w6, hw6, h⟩ := bindE h
  refine z_callS (As := [vI 102, vI 108, vI 111, vI 111, vI 100, vI 0, vI 0]) (rest := [vI 5, vR g 303]) (s_M_word (NL rfl) lyM_new (inRd (by decide)) (inRd (by decide)) (inRd (by decide)) (inRd (by decide)) (inRd (by decide)) (inRd (by decide)) (inRd (by decide)) hw6) dX11_init_605 mw_M_word (tin5 166 (by rfl) rfl) st_M_word rfl rfl rfl rfl (NL rfl) (by rw [hb]; exact NL rfl) (fun hl6 => ?_)
  show Zt _ _ _ _ 608 _ [vL w6, vI 5, vR g 303] (353, q0, (up2 (up2 (up2 (up2 (up2 J 303 0 w1) 303 1 w2) 303 2 w3) 303 3 w4) 303 4 w5), gm_56)
  refine y_last (n := 17) dX11_init_608 (by decide +kernel) (by decide) (NL rfl) (inRd (by decide)) (by decide) hl6 ?_
  show Zt _ _ _ _ 609 _ [] (353, q0, (up2 (up2 (up2 (up2 (up2 (up2 J 303 0 w1) 303 1 w2) 303 2 w3) 303 3 w4) 303 4 w5) 303 5 w6), gm_56)
  refine z_aload_n dX11_init_609 rfl ?_
  refine y_getR (v := 303) dX11_init_610 cl11 (by decide +kernel) (by decide) (NL rfl) 9 rfl rfl (tin5 185 (by rfl) rfl) (by decide +kernel) (by decide) ?_
  refine z_bipush dX11_init_613 (by decide +kernel) ?_
  refine z_bipush dX11_init_615 (by decide +kernel) ?_
  refine z_bipush dX11_init_617 (by decide +kernel) ?_
  refine z_bipush dX11_init_619 (by decide +kernel) ?_
  refine z_bipush dX11_init_621 (by decide +kernel) ?_
  refine z_bipush dX11_init_623 (by decide +kernel) ?_
  refine z_iconst dX11_init_625 ?_
  refine z_iconst dX11_init_626 ?_
  obtain ⟨w7, hw7, h⟩ := bindE h
  refine z_callS (As := [vI 99, vI 97, vI 114, vI 114, vI 121, vI 0, vI 0]) (rest := [vI 6, vR g 303]) (s_M_word (NL rfl) lyM_new (inRd (by decide)) (inRd (by decide)) (inRd (by decide)) (inRd (by decide)) (inRd (by decide)) (inRd (by decide)) (inRd (by decide)) hw7) dX11_init_627 mw_M_word (tin5 166 (by rfl) rfl) st_M_word rfl rfl rfl rfl (NL rfl) (by rw [hb]; exact NL rfl) (fun hl7 => ?_)
  show Zt _ _ _ _ 630 _ [vL w7, vI 6, vR g 303] (353, q0, (up2 (up2 (up2 (up2 (up2 (up2 J 303 0 w1) 303 1 w2) 303 2 w3) 303 3 w4) 303 4 w5) 303 5 w6), gm_56)
  refine y_last (n := 17) dX11_init_630 (by decide +kernel) (by decide) (NL rfl) (inRd (by decide)) (by decide) hl7 ?_
  show Zt _ _ _ _ 631 _ [] (353, q0, (up2 (up2 (up2 (up2 (up2 (up2 (up2 J 303 0 w1) 303 1 w2) 303 2 w3) 303 3 w4) 303 4 w5) 303 5 w6) 303 6 w7), gm_56)
  refine z_aload_n dX11_init_631 rfl ?_
  refine y_getR (v := 303) dX11_init_632 cl11 (by decide +kernel) (by decide) (NL rfl) 9 rfl rfl (tin5 185 (by rfl) rfl) (by decide +kernel) (by decide) ?_
  refine z_bipush dX11_init_635 (by decide +kernel) ?_
  refine z_bipush dX11_init_637 (by decide +kernel) ?_
  refine z_bipush dX11_init_639 (by decide +kernel) ?_
  refine z_bipush dX11_init_641 (by decide +kernel) ?_
  refine z_bipush dX11_init_643 (by decide +kernel) ?_
  refine z_iconst dX11_init_645 ?_
  refine z_iconst dX11_init_646 ?_
  refine z_iconst dX11_init_647 ?_
  obtain ⟨w8, hw8, h⟩ := bindE h
  refine z_callS (As := [vI 115, vI 108, vI 105, vI 112, vI 0, vI 0, vI 0]) (rest := [vI 7, vR g 303]) (s_M_word (NL rfl) lyM_new (inRd (by decide)) (inRd (by decide)) (inRd (by decide)) (inRd (by decide)) (inRd (by decide)) (inRd (by decide)) (inRd (by decide)) hw8) dX11_init_648 mw_M_word (tin5 166 (by rfl) rfl) st_M_word rfl rfl rfl rfl (NL rfl) (by rw [hb]; exact NL rfl) (fun hl8 => ?_)
  show Zt _ _ _ _ 651 _ [vL w8, vI 7, vR g 303] (353, q0, (up2 (up2 (up2 (up2 (up2 (up2 (up2 J 303 0 w1) 303 1 w2) 303 2 w3) 303 3 w4) 303 4 w5) 303 5 w6) 303 6 w7), gm_56)
  refine y_last (n := 17) dX11_init_651 (by decide +kernel) (by decide) (NL rfl) (inRd (by decide)) (by decide) hl8 ?_
  show Zt _ _ _ _ 652 _ [] (353, q0, (up2 (up2 (up2 (up2 (up2 (up2 (up2 (up2 J 303 0 w1) 303 1 w2) 303 2 w3) 303 3 w4) 303 4 w5) 303 5 w6) 303 6 w7) 303 7 w8), gm_56)
  refine z_aload_n dX11_init_652 rfl ?_
  refine y_getR (v := 303) dX11_init_653 cl11 (by decide +kernel) (by decide) (NL rfl) 9 rfl rfl (tin5 185 (by rfl) rfl) (by decide +kernel) (by decide) ?_
  refine z_bipush dX11_init_656 (by decide +kernel) ?_
  refine z_bipush dX11_init_658 (by decide +kernel) ?_
  refine z_bipush dX11_init_660 (by decide +kernel) ?_
  refine z_iconst dX11_init_662 ?_
  refine z_iconst dX11_init_663 ?_
  refine z_iconst dX11_init_664 ?_
  refine z_iconst dX11_init_665 ?_
  refine z_iconst dX11_init_666 ?_
  obtain ⟨w9, hw9, h⟩ := bindE h
  refine z_callS (As := [vI 105, vI 102, vI 0, vI 0, vI 0, vI 0, vI 0]) (rest := [vI 8, vR g 303]) (s_M_word (NL rfl) lyM_new (inRd (by decide)) (inRd (by decide)) (inRd (by decide)) (inRd (by decide)) (inRd (by decide)) (inRd (by decide)) (inRd (by decide)) hw9) dX11_init_667 mw_M_word (tin5 166 (by rfl) rfl) st_M_word rfl rfl rfl rfl (NL rfl) (by rw [hb]; exact NL rfl) (fun hl9 => ?_)
  show Zt _ _ _ _ 670 _ [vL w9, vI 8, vR g 303] (353, q0, (up2 (up2 (up2 (up2 (up2 (up2 (up2 (up2 J 303 0 w1) 303 1 w2) 303 2 w3) 303 3 w4) 303 4 w5) 303 5 w6) 303 6 w7) 303 7 w8), gm_56)
  refine y_last (n := 17) dX11_init_670 (by decide +kernel) (by decide) (NL rfl) (inRd (by decide)) (by decide) hl9 ?_
  show Zt _ _ _ _ 671 _ [] (353, q0, (up2 (up2 (up2 (up2 (up2 (up2 (up2 (up2 (up2 J 303 0 w1) 303 1 w2) 303 2 w3) 303 3 w4) 303 4 w5) 303 5 w6) 303 6 w7) 303 7 w8) 303 8 w9), gm_56)
  refine z_aload_n dX11_init_671 rfl ?_
  refine y_getR (v := 303) dX11_init_672 cl11 (by decide +kernel) (by decide) (NL rfl) 9 rfl rfl (tin5 185 (by rfl) rfl) (by decide +kernel) (by decide) ?_
  refine z_bipush dX11_init_675 (by decide +kernel) ?_
  refine z_bipush dX11_init_677 (by decide +kernel) ?_
  refine z_bipush dX11_init_679 (by decide +kernel) ?_
  refine z_bipush dX11_init_681 (by decide +kernel) ?_
  refine z_bipush dX11_init_683 (by decide +kernel) ?_
  refine z_iconst dX11_init_685 ?_
  refine z_iconst dX11_init_686 ?_
  refine z_iconst dX11_init_687 ?_
  obtain ⟨w10, hw10, h⟩ := bindE h
  refine z_callS (As := [vI 116, vI 104, vI 101, vI 110, vI 0, vI 0, vI 0]) (rest := [vI 9, vR g 303]) (s_M_word (NL rfl) lyM_new (inRd (by decide)) (inRd (by decide)) (inRd (by decide)) (inRd (by decide)) (inRd (by decide)) (inRd (by decide)) (inRd (by decide)) hw10) dX11_init_688 mw_M_word (tin5 166 (by rfl) rfl) st_M_word rfl rfl rfl rfl (NL rfl) (by rw [hb]; exact NL rfl) (fun hl10 => ?_)
  show Zt _ _ _ _ 691 _ [vL w10, vI 9, vR g 303] (353, q0, (up2 (up2 (up2 (up2 (up2 (up2 (up2 (up2 (up2 J 303 0 w1) 303 1 w2) 303 2 w3) 303 3 w4) 303 4 w5) 303 5 w6) 303 6 w7) 303 7 w8) 303 8 w9), gm_56)
  refine y_last (n := 17) dX11_init_691 (by decide +kernel) (by decide) (NL rfl) (inRd (by decide)) (by decide) hl10 ?_
  show Zt _ _ _ _ 692 _ [] (353, q0, (up2 (up2 (up2 (up2 (up2 (up2 (up2 (up2 (up2 (up2 J 303 0 w1) 303 1 w2) 303 2 w3) 303 3 w4) 303 4 w5) 303 5 w6) 303 6 w7) 303 7 w8) 303 8 w9) 303 9 w10), gm_56)
  refine z_aload_n dX11_init_692 rfl ?_
  refine y_getR (v := 303) dX11_init_693 cl11 (by decide +kernel) (by decide) (NL rfl) 9 rfl rfl (tin5 185 (by rfl) rfl) (by decide +kernel) (by decide) ?_
  refine z_bipush dX11_init_696 (by decide +kernel) ?_
  refine z_bipush dX11_init_698 (by decide +kernel) ?_
  refine z_bipush dX11_init_700 (by decide +kernel) ?_
  refine z_bipush dX11_init_702 (by decide +kernel) ?_
  refine z_bipush dX11_init_704 (by decide +kernel) ?_
  refine z_iconst dX11_init_706 ?_
  refine z_iconst dX11_init_707 ?_
  refine z_iconst dX11_init_708 ?_
  obtain ⟨w11, hw11, h⟩ := bindE h
  refine z_callS (As := [vI 101, vI 108, vI 115, vI 101, vI 0, vI 0, vI 0]) (rest := [vI 10, vR g 303]) (s_M_word (NL rfl) lyM_new (inRd (by decide)) (inRd (by decide)) (inRd (by decide)) (inRd (by decide)) (inRd (by decide)) (inRd (by decide)) (inRd (by decide)) hw11) dX11_init_709 mw_M_word (tin5 166 (by rfl) rfl) st_M_word rfl rfl rfl rfl (NL rfl) (by rw [hb]; exact NL rfl) (fun hl11 => ?_)
  show Zt _ _ _ _ 712 _ [vL w11, vI 10, vR g 303] (353, q0, (up2 (up2 (up2 (up2 (up2 (up2 (up2 (up2 (up2 (up2 J 303 0 w1) 303 1 w2) 303 2 w3) 303 3 w4) 303 4 w5) 303 5 w6) 303 6 w7) 303 7 w8) 303 8 w9) 303 9 w10), gm_56)
  refine y_last (n := 17) dX11_init_712 (by decide +kernel) (by decide) (NL rfl) (inRd (by decide)) (by decide) hl11 ?_
  show Zt _ _ _ _ 713 _ [] (353, q0, (up2 (up2 (up2 (up2 (up2 (up2 (up2 (up2 (up2 (up2 (up2 J 303 0 w1) 303 1 w2) 303 2 w3) 303 3 w4) 303 4 w5) 303 5 w6) 303 6 w7) 303 7 w8) 303 8 w9) 303 9 w10) 303 10 w11), gm_56)
  refine z_aload_n dX11_init_713 rfl ?_
  refine y_getR (v := 303) dX11_init_714 cl11 (by decide +kernel) (by decide) (NL rfl) 9 rfl rfl (tin5 185 (by rfl) rfl) (by decide +kernel) (by decide) ?_
  refine z_bipush dX11_init_717 (by decide +kernel) ?_
  refine z_bipush dX11_init_719 (by decide +kernel) ?_
  refine z_bipush dX11_init_721 (by decide +kernel) ?_
  refine z_bipush dX11_init_723 (by decide +kernel) ?_
  refine z_bipush dX11_init_725 (by decide +kernel) ?_
  refine z_bipush dX11_init_727 (by decide +kernel) ?_
  refine z_bipush dX11_init_729 (by decide +kernel) ?_
  refine z_iconst dX11_init_731 ?_
  obtain ⟨w12, hw12, h⟩ := bindE h
  refine z_callS (As := [vI 115, vI 116, vI 111, vI 110, vI 101, vI 115, vI 0]) (rest := [vI 11, vR g 303]) (s_M_word (NL rfl) lyM_new (inRd (by decide)) (inRd (by decide)) (inRd (by decide)) (inRd (by decide)) (inRd (by decide)) (inRd (by decide)) (inRd (by decide)) hw12) dX11_init_732 mw_M_word (tin5 166 (by rfl) rfl) st_M_word rfl rfl rfl rfl (NL rfl) (by rw [hb]; exact NL rfl) (fun hl12 => ?_)
  show Zt _ _ _ _ 735 _ [vL w12, vI 11, vR g 303] (353, q0, (up2 (up2 (up2 (up2 (up2 (up2 (up2 (up2 (up2 (up2 (up2 J 303 0 w1) 303 1 w2) 303 2 w3) 303 3 w4) 303 4 w5) 303 5 w6) 303 6 w7) 303 7 w8) 303 8 w9) 303 9 w10) 303 10 w11), gm_56)
  refine y_last (n := 17) dX11_init_735 (by decide +kernel) (by decide) (NL rfl) (inRd (by decide)) (by decide) hl12 ?_
  show Zt _ _ _ _ 736 _ [] (353, q0, (up2 (up2 (up2 (up2 (up2 (up2 (up2 (up2 (up2 (up2 (up2 (up2 J 303 0 w1) 303 1 w2) 303 2 w3) 303 3 w4) 303 4 w5) 303 5 w6) 303 6 w7) 303 7 w8) 303 8 w9) 303 9 w10) 303 10 w11) 303 11 w12), gm_56)
  refine z_aload_n dX11_init_736 rfl ?_
  refine y_getR (v := 303) dX11_init_737 cl11 (by decide +kernel) (by decide) (NL rfl) 9 rfl rfl (tin5 185 (by rfl) rfl) (by decide +kernel) (by decide) ?_
  refine z_bipush dX11_init_740 (by decide +kernel) ?_
  refine z_bipush dX11_init_742 (by decide +kernel) ?_
  refine z_bipush dX11_init_744 (by decide +kernel) ?_
  refine z_bipush dX11_init_746 (by decide +kernel) ?_
  refine z_bipush dX11_init_748 (by decide +kernel) ?_
  refine z_iconst dX11_init_750 ?_
  refine z_iconst dX11_init_751 ?_
  refine z_iconst dX11_init_752 ?_
  obtain ⟨w13, hw13, h⟩ := bindE h
  refine z_callS (As := [vI 100, vI 101, vI 101, vI 112, vI 0, vI 0, vI 0]) (rest := [vI 12, vR g 303]) (s_M_word (NL rfl) lyM_new (inRd (by decide)) (inRd (by decide)) (inRd (by decide)) (inRd (by decide)) (inRd (by decide)) (inRd (by decide)) (inRd (by decide)) hw13) dX11_init_753 mw_M_word (tin5 166 (by rfl) rfl) st_M_word rfl rfl rfl rfl (NL rfl) (by rw [hb]; exact NL rfl) (fun hl13 => ?_)
  show Zt _ _ _ _ 756 _ [vL w13, vI 12, vR g 303] (353, q0, (up2 (up2 (up2 (up2 (up2 (up2 (up2 (up2 (up2 (up2 (up2 (up2 J 303 0 w1) 303 1 w2) 303 2 w3) 303 3 w4) 303 4 w5) 303 5 w6) 303 6 w7) 303 7 w8) 303 8 w9) 303 9 w10) 303 10 w11) 303 11 w12), gm_56)
  refine y_last (n := 17) dX11_init_756 (by decide +kernel) (by decide) (NL rfl) (inRd (by decide)) (by decide) hl13 ?_
  show Zt _ _ _ _ 757 _ [] (353, q0, (up2 (up2 (up2 (up2 (up2 (up2 (up2 (up2 (up2 (up2 (up2 (up2 (up2 J 303 0 w1) 303 1 w2) 303 2 w3) 303 3 w4) 303 4 w5) 303 5 w6) 303 6 w7) 303 7 w8) 303 8 w9) 303 9 w10) 303 10 w11) 303 11 w12) 303 12 w13), gm_56)
  refine z_aload_n dX11_init_757 rfl ?_
  refine y_getR (v := 303) dX11_init_758 cl11 (by decide +kernel) (by decide) (NL rfl) 9 rfl rfl (tin5 185 (by rfl) rfl) (by decide +kernel) (by decide) ?_
  refine z_bipush dX11_init_761 (by decide +kernel) ?_
  refine z_bipush dX11_init_763 (by decide +kernel) ?_
  refine z_bipush dX11_init_765 (by decide +kernel) ?_
  refine z_bipush dX11_init_767 (by decide +kernel) ?_
  refine z_bipush dX11_init_769 (by decide +kernel) ?_
  refine z_bipush dX11_init_771 (by decide +kernel) ?_
  refine z_iconst dX11_init_773 ?_
  refine z_iconst dX11_init_774 ?_
  obtain ⟨w14, hw14, h⟩ := bindE h
  refine z_callS (As := [vI 102, vI 111, vI 114, vI 99, vI 101, vI 0, vI 0]) (rest := [vI 13, vR g 303]) (s_M_word (NL rfl) lyM_new (inRd (by decide)) (inRd (by decide)) (inRd (by decide)) (inRd (by decide)) (inRd (by decide)) (inRd (by decide)) (inRd (by decide)) hw14) dX11_init_775 mw_M_word (tin5 166 (by rfl) rfl) st_M_word rfl rfl rfl rfl (NL rfl) (by rw [hb]; exact NL rfl) (fun hl14 => ?_)
  show Zt _ _ _ _ 778 _ [vL w14, vI 13, vR g 303] (353, q0, (up2 (up2 (up2 (up2 (up2 (up2 (up2 (up2 (up2 (up2 (up2 (up2 (up2 J 303 0 w1) 303 1 w2) 303 2 w3) 303 3 w4) 303 4 w5) 303 5 w6) 303 6 w7) 303 7 w8) 303 8 w9) 303 9 w10) 303 10 w11) 303 11 w12) 303 12 w13), gm_56)
  refine y_last (n := 17) dX11_init_778 (by decide +kernel) (by decide) (NL rfl) (inRd (by decide)) (by decide) hl14 ?_
  show Zt _ _ _ _ 779 _ [] (353, q0, (up2 (up2 (up2 (up2 (up2 (up2 (up2 (up2 (up2 (up2 (up2 (up2 (up2 (up2 J 303 0 w1) 303 1 w2) 303 2 w3) 303 3 w4) 303 4 w5) 303 5 w6) 303 6 w7) 303 7 w8) 303 8 w9) 303 9 w10) 303 10 w11) 303 11 w12) 303 12 w13) 303 13 w14), gm_56)
  refine z_aload_n dX11_init_779 rfl ?_
  refine y_getR (v := 303) dX11_init_780 cl11 (by decide +kernel) (by decide) (NL rfl) 9 rfl rfl (tin5 185 (by rfl) rfl) (by decide +kernel) (by decide) ?_
  refine z_bipush dX11_init_783 (by decide +kernel) ?_
  refine z_bipush dX11_init_785 (by decide +kernel) ?_
  refine z_bipush dX11_init_787 (by decide +kernel) ?_
  refine z_bipush dX11_init_789 (by decide +kernel) ?_
  refine z_bipush dX11_init_791 (by decide +kernel) ?_
  refine z_iconst dX11_init_793 ?_
  refine z_iconst dX11_init_794 ?_
  refine z_iconst dX11_init_795 ?_
  obtain ⟨w15, hw15, h⟩ := bindE h
  refine z_callS (As := [vI 109, vI 111, vI 115, vI 115, vI 0, vI 0, vI 0]) (rest := [vI 14, vR g 303]) (s_M_word (NL rfl) lyM_new (inRd (by decide)) (inRd (by decide)) (inRd (by decide)) (inRd (by decide)) (inRd (by decide)) (inRd (by decide)) (inRd (by decide)) hw15) dX11_init_796 mw_M_word (tin5 166 (by rfl) rfl) st_M_word rfl rfl rfl rfl (NL rfl) (by rw [hb]; exact NL rfl) (fun hl15 => ?_)
  show Zt _ _ _ _ 799 _ [vL w15, vI 14, vR g 303] (353, q0, (up2 (up2 (up2 (up2 (up2 (up2 (up2 (up2 (up2 (up2 (up2 (up2 (up2 (up2 J 303 0 w1) 303 1 w2) 303 2 w3) 303 3 w4) 303 4 w5) 303 5 w6) 303 6 w7) 303 7 w8) 303 8 w9) 303 9 w10) 303 10 w11) 303 11 w12) 303 12 w13) 303 13 w14), gm_56)
  refine y_last (n := 17) dX11_init_799 (by decide +kernel) (by decide) (NL rfl) (inRd (by decide)) (by decide) hl15 ?_
  show Zt _ _ _ _ 800 _ [] (353, q0, (up2 (up2 (up2 (up2 (up2 (up2 (up2 (up2 (up2 (up2 (up2 (up2 (up2 (up2 (up2 J 303 0 w1) 303 1 w2) 303 2 w3) 303 3 w4) 303 4 w5) 303 5 w6) 303 6 w7) 303 7 w8) 303 8 w9) 303 9 w10) 303 10 w11) 303 11 w12) 303 12 w13) 303 13 w14) 303 14 w15), gm_56)
  refine z_aload_n dX11_init_800 rfl ?_
  refine y_getR (v := 303) dX11_init_801 cl11 (by decide +kernel) (by decide) (NL rfl) 9 rfl rfl (tin5 185 (by rfl) rfl) (by decide +kernel) (by decide) ?_
  refine z_bipush dX11_init_804 (by decide +kernel) ?_
  refine z_bipush dX11_init_806 (by decide +kernel) ?_
  refine z_bipush dX11_init_808 (by decide +kernel) ?_
  refine z_bipush dX11_init_810 (by decide +kernel) ?_
  refine z_bipush dX11_init_812 (by decide +kernel) ?_
  refine z_bipush dX11_init_814 (by decide +kernel) ?_
  refine z_bipush dX11_init_816 (by decide +kernel) ?_
  refine z_iconst dX11_init_818 ?_
  obtain ⟨w16, hw16, h⟩ := bindE h
  refine z_callS (As := [vI 97, vI 99, vI 114, vI 111, vI 115, vI 115, vI 0]) (rest := [vI 15, vR g 303]) (s_M_word (NL rfl) lyM_new (inRd (by decide)) (inRd (by decide)) (inRd (by decide)) (inRd (by decide)) (inRd (by decide)) (inRd (by decide)) (inRd (by decide)) hw16) dX11_init_819 mw_M_word (tin5 166 (by rfl) rfl) st_M_word rfl rfl rfl rfl (NL rfl) (by rw [hb]; exact NL rfl) (fun hl16 => ?_)
  show Zt _ _ _ _ 822 _ [vL w16, vI 15, vR g 303] (353, q0, (up2 (up2 (up2 (up2 (up2 (up2 (up2 (up2 (up2 (up2 (up2 (up2 (up2 (up2 (up2 J 303 0 w1) 303 1 w2) 303 2 w3) 303 3 w4) 303 4 w5) 303 5 w6) 303 6 w7) 303 7 w8) 303 8 w9) 303 9 w10) 303 10 w11) 303 11 w12) 303 12 w13) 303 13 w14) 303 14 w15), gm_56)
  refine y_last (n := 17) dX11_init_822 (by decide +kernel) (by decide) (NL rfl) (inRd (by decide)) (by decide) hl16 ?_
  show Zt _ _ _ _ 823 _ [] (353, q0, (up2 (up2 (up2 (up2 (up2 (up2 (up2 (up2 (up2 (up2 (up2 (up2 (up2 (up2 (up2 (up2 J 303 0 w1) 303 1 w2) 303 2 w3) 303 3 w4) 303 4 w5) 303 5 w6) 303 6 w7) 303 7 w8) 303 8 w9) 303 9 w10) 303 10 w11) 303 11 w12) 303 12 w13) 303 13 w14) 303 14 w15) 303 15 w16), gm_56)
  refine z_aload_n dX11_init_823 rfl ?_
  refine y_getR (v := 303) dX11_init_824 cl11 (by decide +kernel) (by decide) (NL rfl) 9 rfl rfl (tin5 185 (by rfl) rfl) (by decide +kernel) (by decide) ?_
  refine z_bipush dX11_init_827 (by decide +kernel) ?_
  refine z_bipush dX11_init_829 (by decide +kernel) ?_
  refine z_bipush dX11_init_831 (by decide +kernel) ?_
  refine z_bipush dX11_init_833 (by decide +kernel) ?_
  refine z_bipush dX11_init_835 (by decide +kernel) ?_
  refine z_bipush dX11_init_837 (by decide +kernel) ?_
  refine z_iconst dX11_init_839 ?_
  refine z_iconst dX11_init_840 ?_
  obtain ⟨w17, hw17, h⟩ := bindE h
  refine z_callS (As := [vI 97, vI 108, vI 111, vI 110, vI 103, vI 0, vI 0]) (rest := [vI 16, vR g 303]) (s_M_word (NL rfl) lyM_new (inRd (by decide)) (inRd (by decide)) (inRd (by decide)) (inRd (by decide)) (inRd (by decide)) (inRd (by decide)) (inRd (by decide)) hw17) dX11_init_841 mw_M_word (tin5 166 (by rfl) rfl) st_M_word rfl rfl rfl rfl (NL rfl) (by rw [hb]; exact NL rfl) (fun hl17 => ?_)
  show Zt _ _ _ _ 844 _ [vL w17, vI 16, vR g 303] (353, q0, (up2 (up2 (up2 (up2 (up2 (up2 (up2 (up2 (up2 (up2 (up2 (up2 (up2 (up2 (up2 (up2 J 303 0 w1) 303 1 w2) 303 2 w3) 303 3 w4) 303 4 w5) 303 5 w6) 303 6 w7) 303 7 w8) 303 8 w9) 303 9 w10) 303 10 w11) 303 11 w12) 303 12 w13) 303 13 w14) 303 14 w15) 303 15 w16), gm_56)
  refine y_last (n := 17) dX11_init_844 (by decide +kernel) (by decide) (NL rfl) (inRd (by decide)) (by decide) hl17 ?_
  show Zt _ _ _ _ 845 _ [] (353, q0, (up2 (up2 (up2 (up2 (up2 (up2 (up2 (up2 (up2 (up2 (up2 (up2 (up2 (up2 (up2 (up2 (up2 J 303 0 w1) 303 1 w2) 303 2 w3) 303 3 w4) 303 4 w5) 303 5 w6) 303 6 w7) 303 7 w8) 303 8 w9) 303 9 w10) 303 10 w11) 303 11 w12) 303 12 w13) 303 13 w14) 303 14 w15) 303 15 w16) 303 16 w17), gm_56)
  refine z_aload_n dX11_init_845 rfl ?_
  obtain ⟨q, hq, h⟩ := bindE h
  refine z_callV (As := []) (rest := []) (s_M_begins (NL rfl) lyM_new hq) dX11_init_846 mw_M_begins cl11 (by decide +kernel) (by decide) (NL rfl) (tin5 173 (by rfl) rfl) im_M_begins se_M_begins rfl rfl rfl rfl (NL rfl) (by rw [hb]; exact NL rfl) (fun _ => ?_)
  obtain rfl := someE h
  show Zt _ _ _ _ 849 _ [] (353, q, (up2 (up2 (up2 (up2 (up2 (up2 (up2 (up2 (up2 (up2 (up2 (up2 (up2 (up2 (up2 (up2 (up2 J 303 0 w1) 303 1 w2) 303 2 w3) 303 3 w4) 303 4 w5) 303 5 w6) 303 6 w7) 303 7 w8) 303 8 w9) 303 9 w10) 303 10 w11) 303 11 w12) 303 12 w13) 303 13 w14) 303 14 w15) 303 15 w16) 303 16 w17), gm_56)
  exact z_vret dX11_init_849 hE trivial rfl
