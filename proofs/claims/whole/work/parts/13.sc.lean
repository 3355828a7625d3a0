set_option maxHeartbeats 1000000 in
theorem s_X_feed {l : Launch} {g : GX} {z : Nat} {G : Nat → Nat → Nat} {F : Nat} (hz : 295 ≤ z) (hG : lyX G) {rv sp : Nat} (hrv : G 1 3 = rv) (hrr : isRiv rv) (hsp : G 1 4 = sp) (hss : isRiv sp) {x1 : Int} {x2 : Int} {x3 : Int} {x4 : Int} {x5 : Int} {I J : Nat → Nat → Int} (hx1 : inR x1) (hx2 : inR x2) (hx3 : inR x3) (hx4 : inR x4) (hx5 : inR x5) {res : Int × MI} (h : f_X_feed F x1 x2 x3 x4 x5 I = some res) : Spec l g 1 yX10_feed cX10_feed 6 (some .int) [vR g 1, vI x1, vI x2, vI x3, vI x4, vI x5] (z, I, J, G) (some (vI res.1)) (inR res.1) (z, res.2, J, G) := by
  refine spec_of (μ := mu_X_feed) (k := 0) (L0 := [some (vR g 1), some (vI x1), some (vI x2), some (vI x3), some (vI x4), some (vI x5)]) rfl mw_X_feed rfl rfl (Nat.le_refl _) (fun φ hb hE => ?_)
  refine z_aload_n dX10_feed_0 rfl ?_
  refine y_getR dX10_feed_1 cl10 sh_1 (by decide) (Nat.le_trans (by decide) hz) 0 rfl rfl (fl_X_12) (ly_1_0 hG) (by decide) ?_
  refine z_nm (fun hN1 => ?_)
  refine y_getNI (host := "FarewellStones") dX10_feed_4 cl7 sh_2 (by decide) (Nat.le_trans (by decide) hz) 1 rfl rfl (flN_X_96) ?_
  refine z_bipush dX10_feed_7 (by decide +kernel) ?_
  refine z_iadd dX10_feed_9 ?_
  refine z_sipush dX10_feed_10 (by decide +kernel) ?_
  refine z_icmp_le (tgt := 18) dX10_feed_13 (by decide) (inR_w32 _) (inRd (x := 2000) (by decide)) (fun hc2 => ?_) (fun hc2 => ?_)
  · replace h := ifT hc2 h
    refine z_aload_n dX10_feed_18 rfl ?_
    refine y_getR dX10_feed_19 cl10 sh_1 (by decide) (Nat.le_trans (by decide) hz) 0 rfl rfl (fl_X_12) (ly_1_0 hG) (by decide) ?_
    refine z_iload_n dX10_feed_22 rfl ?_
    obtain ⟨q3, hq4, h⟩ := bindE h
    refine z_callV (As := [vI x1]) (rest := []) (s_T_put hz hG hx1 hq4) dX10_feed_23 mw_T_put cl7 sh_2 (by decide) (Nat.le_trans (by decide) hz) ml_X_99 im_T_put se_T_put rfl rfl rfl rfl (Nat.le_refl _) (Nat.le_of_eq hb.symm) (fun hp5 => ?_)
    show Zt _ _ _ _ 26 _ [] (z, q3, J, G)
    refine z_aload_n dX10_feed_26 rfl ?_
    refine y_getR dX10_feed_27 cl10 sh_1 (by decide) (Nat.le_trans (by decide) hz) 0 rfl rfl (fl_X_12) (ly_1_0 hG) (by decide) ?_
    refine z_iload_n dX10_feed_30 rfl ?_
    obtain ⟨q6, hq7, h⟩ := bindE h
    refine z_callV (As := [vI x2]) (rest := []) (s_T_put hz hG hx2 hq7) dX10_feed_31 mw_T_put cl7 sh_2 (by decide) (Nat.le_trans (by decide) hz) ml_X_99 im_T_put se_T_put rfl rfl rfl rfl (Nat.le_refl _) (Nat.le_of_eq hb.symm) (fun hp8 => ?_)
    show Zt _ _ _ _ 34 _ [] (z, q6, J, G)
    refine z_aload_n dX10_feed_34 rfl ?_
    refine y_getR dX10_feed_35 cl10 sh_1 (by decide) (Nat.le_trans (by decide) hz) 0 rfl rfl (fl_X_12) (ly_1_0 hG) (by decide) ?_
    refine z_iload_n dX10_feed_38 rfl ?_
    obtain ⟨q9, hq10, h⟩ := bindE h
    refine z_callV (As := [vI x3]) (rest := []) (s_T_put hz hG hx3 hq10) dX10_feed_39 mw_T_put cl7 sh_2 (by decide) (Nat.le_trans (by decide) hz) ml_X_99 im_T_put se_T_put rfl rfl rfl rfl (Nat.le_refl _) (Nat.le_of_eq hb.symm) (fun hp11 => ?_)
    show Zt _ _ _ _ 42 _ [] (z, q9, J, G)
    refine z_aload_n dX10_feed_42 rfl ?_
    refine y_getR dX10_feed_43 cl10 sh_1 (by decide) (Nat.le_trans (by decide) hz) 0 rfl rfl (fl_X_12) (ly_1_0 hG) (by decide) ?_
    refine z_iload dX10_feed_46 rfl ?_
    obtain ⟨q12, hq13, h⟩ := bindE h
    refine z_callV (As := [vI x4]) (rest := []) (s_T_put hz hG hx4 hq13) dX10_feed_48 mw_T_put cl7 sh_2 (by decide) (Nat.le_trans (by decide) hz) ml_X_99 im_T_put se_T_put rfl rfl rfl rfl (Nat.le_refl _) (Nat.le_of_eq hb.symm) (fun hp14 => ?_)
    show Zt _ _ _ _ 51 _ [] (z, q12, J, G)
    refine z_aload_n dX10_feed_51 rfl ?_
    refine y_getR dX10_feed_52 cl10 sh_1 (by decide) (Nat.le_trans (by decide) hz) 0 rfl rfl (fl_X_12) (ly_1_0 hG) (by decide) ?_
    refine z_iload dX10_feed_55 rfl ?_
    obtain ⟨q15, hq16, h⟩ := bindE h
    refine z_callV (As := [vI x5]) (rest := []) (s_T_put hz hG hx5 hq16) dX10_feed_57 mw_T_put cl7 sh_2 (by decide) (Nat.le_trans (by decide) hz) ml_X_99 im_T_put se_T_put rfl rfl rfl rfl (Nat.le_refl _) (Nat.le_of_eq hb.symm) (fun hp17 => ?_)
    show Zt _ _ _ _ 60 _ [] (z, q15, J, G)
    refine z_aload_n dX10_feed_60 rfl ?_
    refine y_getR dX10_feed_61 cl10 sh_1 (by decide) (Nat.le_trans (by decide) hz) 0 rfl rfl (fl_X_12) (ly_1_0 hG) (by decide) ?_
    refine z_nm (fun hN18 => ?_)
    refine y_getNI (host := "FarewellStones") dX10_feed_64 cl7 sh_2 (by decide) (Nat.le_trans (by decide) hz) 1 rfl rfl (flN_X_96) ?_
    obtain rfl := someE h
    exact z_iret dX10_feed_67 hE (hN18.1 2 1) rfl
  replace h := ifF hc2 h
  refine z_iconst dX10_feed_16 ?_
  obtain rfl := someE h
  exact z_iret dX10_feed_17 hE (inRd (x := (-1)) (by decide)) rfl
set_option maxHeartbeats 1000000 in
theorem s_X_back {l : Launch} {g : GX} {z : Nat} {G : Nat → Nat → Nat} {F : Nat} (hz : 295 ≤ z) (hG : lyX G) {rv sp : Nat} (hrv : G 1 3 = rv) (hrr : isRiv rv) (hsp : G 1 4 = sp) (hss : isRiv sp) {x1 : Int} {I J : Nat → Nat → Int} (hx1 : inR x1) {res : Int × MI} (h : f_X_back F x1 I = some res) : Spec l g 0 yX10_back cX10_back 2 (some .int) [vR g 1, vI x1] (z, I, J, G) (some (vI res.1)) (inR res.1) (z, res.2, J, G) := by
  refine spec_of (μ := mu_X_back) (k := 0) (L0 := [some (vR g 1), some (vI x1)]) rfl mw_X_back rfl rfl (Nat.le_refl _) (fun φ hb hE => ?_)
  refine z_iload_n dX10_back_0 rfl ?_
  refine z_if_lt (tgt := 15) dX10_back_1 (by decide) hx1 (fun hc1 => ?_) (fun hc1 => ?_)
  · replace h := ifT hc1 h
    refine z_iconst dX10_back_15 ?_
    obtain rfl := someE h
    exact z_iret dX10_back_16 hE (inRd (x := (-1)) (by decide)) rfl
  replace h := ifF hc1 h
  refine z_iload_n dX10_back_4 rfl ?_
  refine z_aload_n dX10_back_5 rfl ?_
  refine y_getR dX10_back_6 cl10 sh_1 (by decide) (Nat.le_trans (by decide) hz) 0 rfl rfl (fl_X_12) (ly_1_0 hG) (by decide) ?_
  refine z_nm (fun hN2 => ?_)
  refine y_getNI (host := "FarewellStones") dX10_back_9 cl7 sh_2 (by decide) (Nat.le_trans (by decide) hz) 1 rfl rfl (flN_X_96) ?_
  refine z_icmp_le (tgt := 17) dX10_back_12 (by decide) hx1 (hN2.1 2 1) (fun hc3 => ?_) (fun hc3 => ?_)
  · replace h := ifT hc3 h
    refine z_aload_n dX10_back_17 rfl ?_
    refine y_getR dX10_back_18 cl10 sh_1 (by decide) (Nat.le_trans (by decide) hz) 0 rfl rfl (fl_X_12) (ly_1_0 hG) (by decide) ?_
    refine z_dup dX10_back_21 rfl ?_
    refine y_getNI (host := "FarewellStones") dX10_back_22 cl7 sh_2 (by decide) (Nat.le_trans (by decide) hz) 1 rfl rfl (flN_X_96) ?_
    refine z_iload_n dX10_back_25 rfl ?_
    refine z_isub dX10_back_26 ?_
    refine y_putNI (host := "FarewellStones") dX10_back_27 cl7 sh_2 (by decide) (Nat.le_trans (by decide) hz) 1 rfl rfl rfl (flN_X_96) rfl rfl (inR_w32 _) ?_
    refine z_aload_n dX10_back_30 rfl ?_
    refine y_getR dX10_back_31 cl10 sh_1 (by decide) (Nat.le_trans (by decide) hz) 0 rfl rfl (fl_X_12) (ly_1_0 hG) (by decide) ?_
    refine z_nm (fun hN4 => ?_)
    refine y_getNI (host := "FarewellStones") dX10_back_34 cl7 sh_2 (by decide) (Nat.le_trans (by decide) hz) 1 rfl rfl (flN_X_96) ?_
    obtain rfl := someE h
    exact z_iret dX10_back_37 hE (hN4.1 2 1) rfl
  replace h := ifF hc3 h
  refine z_iconst dX10_back_15 ?_
  obtain rfl := someE h
  exact z_iret dX10_back_16 hE (inRd (x := (-1)) (by decide)) rfl
set_option maxHeartbeats 1000000 in
theorem t_X_beginAnew_L21 {l : Launch} {g : GX} {φ : CX} {z : Nat} {G : Nat → Nat → Nat} {F : Nat} (hb : cb φ = z) (hz : 295 ≤ z) (hG : lyX G) {rv sp : Nat} (hrv : G 1 3 = rv) (hrr : isRiv rv) (hsp : G 1 4 = sp) (hss : isRiv sp) {x1 : Int} {I J : Nat → Nat → Int} (hx1 : inR x1) {res : (MI) ⊕ (Int × MI)} (h : f_X_beginAnew_L21 F x1 I = some res) (kE : ∀ e : MI, res = .inl e → ((True) → Zt l g φ mu_X_beginAnew 39 [none, none] [] (z, e, J, G))) (kS : ∀ s : Int × MI, res = .inr s → (inR s.1) → Zt l g φ mu_X_beginAnew 21 [some (vR g 1), some (vI s.1)] [] (z, s.2, J, G)) : Zt l g φ mu_X_beginAnew 21 [some (vR g 1), some (vI x1)] [] (z, I, J, G) := by
  refine z_iload_n dX10_beginAnew_21 rfl ?_
  refine z_iconst dX10_beginAnew_22 ?_
  refine z_icmp_ge (tgt := 39) dX10_beginAnew_23 (by decide) hx1 (inRd (x := 3) (by decide)) (fun hc7 => ?_) (fun hc7 => ?_)
  · replace h := ifT hc7 h
    refine z_weak (L' := [none, none]) (lsN (lsN ls0)) ?_
    exact kE _ (someE h).symm trivial
  replace h := ifF hc7 h
  refine z_aload_n dX10_beginAnew_26 rfl ?_
  refine y_getR dX10_beginAnew_27 cl10 sh_1 (by decide) (Nat.le_trans (by decide) hz) 9 rfl rfl (fl_X_58) (ly_1_9 hG) (by decide) ?_
  refine z_iload_n dX10_beginAnew_30 rfl ?_
  refine z_iconst dX10_beginAnew_31 ?_
  obtain ⟨hg8, h⟩ := guardE h
  refine y_zast dX10_beginAnew_32 sh_241 (by decide) (Nat.le_trans (by decide) hz) hx1 hg8 b01_0 ?_
  refine z_iinc (L' := [some (vR g 1), some (vI (w32 (x1 + 1)))]) dX10_beginAnew_33 rfl rfl rfl rfl ?_
  refine z_goto (tgt := 21) dX10_beginAnew_36 (by decide) ?_
  exact kS _ (someE h).symm (inR_w32 _)
theorem l_X_beginAnew_L21 {l : Launch} {g : GX} {φ : CX} {z : Nat} {G : Nat → Nat → Nat} {F : Nat} (hb : cb φ = z) (hz : 295 ≤ z) (hG : lyX G) {rv sp : Nat} (hrv : G 1 3 = rv) (hrr : isRiv rv) (hsp : G 1 4 = sp) (hss : isRiv sp) {J : Nat → Nat → Int} (n : Nat) (s : Int × MI) (e : MI) (h : iter (fun s : Int × MI => f_X_beginAnew_L21 F s.1 s.2) n s = some e) (hs : inR s.1) (k : ((True) → Zt l g φ mu_X_beginAnew 39 [none, none] [] (z, e, J, G))) : Zt l g φ mu_X_beginAnew 21 [some (vR g 1), some (vI s.1)] [] (z, s.2, J, G) := by
  refine iter_ind (Z := fun s : Int × MI => Zt l g φ mu_X_beginAnew 21 [some (vR g 1), some (vI s.1)] [] (z, s.2, J, G)) (ZE := fun e : MI => ((True) → Zt l g φ mu_X_beginAnew 39 [none, none] [] (z, e, J, G))) (Rg := fun s : Int × MI => inR s.1) ?_ n s e h hs k
  intro s r hr hst kE kS
  exact t_X_beginAnew_L21 hb hz hG hrv hrr hsp hss hr hst kE kS
set_option maxHeartbeats 1000000 in
theorem s_X_beginAnew {l : Launch} {g : GX} {z : Nat} {G : Nat → Nat → Nat} {F : Nat} (hz : 295 ≤ z) (hG : lyX G) {rv sp : Nat} (hrv : G 1 3 = rv) (hrr : isRiv rv) (hsp : G 1 4 = sp) (hss : isRiv sp) {I J : Nat → Nat → Int} {res : MI} (h : f_X_beginAnew F I = some res) : Spec l g 15 yX10_beginAnew cX10_beginAnew 2 none [vR g 1] (z, I, J, G) none True (z, res, J, G) := by
  refine spec_of (μ := mu_X_beginAnew) (k := 1) (L0 := [some (vR g 1), none]) rfl mw_X_beginAnew rfl rfl (Nat.le_refl _) (fun φ hb hE => ?_)
  refine z_aload_n dX10_beginAnew_0 rfl ?_
  refine y_getR dX10_beginAnew_1 cl10 sh_1 (by decide) (Nat.le_trans (by decide) hz) 5 rfl rfl (fl_X_40) (ly_1_5 hG) (by decide) ?_
  obtain ⟨q1, hq2, h⟩ := bindE h
  refine z_callV (As := []) (rest := []) (s_B_clear hz hG (is_49) hq2) dX10_beginAnew_4 mw_B_clear cl0 sh_49 (by decide) (Nat.le_trans (by decide) hz) ml_X_110 im_B_clear se_B_clear rfl rfl rfl rfl (Nat.le_refl _) (Nat.le_of_eq hb.symm) (fun hp3 => ?_)
  show Zt _ _ _ _ 7 _ [] (z, q1, J, G)
  refine z_aload_n dX10_beginAnew_7 rfl ?_
  refine y_getR dX10_beginAnew_8 cl10 sh_1 (by decide) (Nat.le_trans (by decide) hz) 7 rfl rfl (fl_X_50) (ly_1_7 hG) (by decide) ?_
  obtain ⟨q4, hq5, h⟩ := bindE h
  refine z_callV (As := []) (rest := []) (s_P_clear hz hG  hq5) dX10_beginAnew_11 mw_P_clear cl4 sh_63 (by decide) (Nat.le_trans (by decide) hz) ml_X_111 im_P_clear se_P_clear rfl rfl rfl rfl (Nat.le_refl _) (Nat.le_of_eq hb.symm) (fun hp6 => ?_)
  show Zt _ _ _ _ 14 _ [] (z, q4, J, G)
  refine z_aload_n dX10_beginAnew_14 rfl ?_
  refine z_iconst dX10_beginAnew_15 ?_
  refine y_putI dX10_beginAnew_16 cl10 sh_1 (by decide) (Nat.le_trans (by decide) hz) 12 rfl rfl rfl (fl_X_112) rfl rfl (inRd (x := 0) (by decide)) ?_
  refine z_iconst dX10_beginAnew_19 ?_
  refine z_istore_n (L' := [some (vR g 1), some (vI 0)]) dX10_beginAnew_20 rfl rfl rfl ?_
  obtain ⟨e9, h10, h⟩ := bindE h
  refine l_X_beginAnew_L21 hb hz hG hrv hrr hsp hss  _ _ _ h10 (inRd (x := 0) (by decide)) ?_
  refine fun h11 => ?_
  obtain rfl := someE h
  exact z_vret dX10_beginAnew_39 hE trivial rfl
set_option maxHeartbeats 1000000 in
theorem t_X_read_b40 {l : Launch} {g : GX} {φ : CX} {z : Nat} {G : Nat → Nat → Nat} {F : Nat} (hb : cb φ = z) (hz : 295 ≤ z) (hG : lyX G) {rv sp : Nat} (hrv : G 1 3 = rv) (hrr : isRiv rv) (hsp : G 1 4 = sp) (hss : isRiv sp) {x1 : Int} {s1 : Int} {I J : Nat → Nat → Int} (hx1 : inR x1) (hs1 : inR s1) {res : Int × MI × Nat × Nat} (h : f_X_read_b40 F x1 s1 rv sp I = some res) (hE : ends g φ (some .int) (some (vI res.1)) (inR res.1) (z, res.2.1, J, (up2 (up2 G 1 3 res.2.2.1) 1 4 res.2.2.2))) : Zt l g φ mu_X_read 40 [some (vR g 1), some (vI x1), none] [vI s1, vR g 1] (z, I, J, G) := by
  refine y_putI dX10_read_40 cl10 sh_1 (by decide) (Nat.le_trans (by decide) hz) 2 rfl rfl rfl (fl_X_23) rfl rfl hs1 ?_
  refine z_iload_n dX10_read_43 rfl ?_
  refine z_if_ne (tgt := 69) dX10_read_44 (by decide) hx1 (fun hc8 => ?_) (fun hc8 => ?_)
  · replace h := ifT hc8 h
    refine z_iload_n dX10_read_69 rfl ?_
    obtain rfl := someE h
    exact z_iret dX10_read_70 hE hx1 (by rw [GS_same hrv hsp])
  replace h := ifF (fun q => q hc8) h
  refine z_aload_n dX10_read_47 rfl ?_
  refine y_getR dX10_read_48 cl10 sh_1 (by decide) (Nat.le_trans (by decide) hz) 3 rfl rfl (fl_X_30) hrv (riv_pos hrr) ?_
  refine z_astore_n (L' := [some (vR g 1), some (vI x1), some (vR g rv)]) dX10_read_51 rfl rfl rfl ?_
  refine z_aload_n dX10_read_52 rfl ?_
  refine z_aload_n dX10_read_53 rfl ?_
  refine y_getR dX10_read_54 cl10 sh_1 (by decide) (Nat.le_trans (by decide) hz) 4 rfl rfl (fl_X_34) hsp (riv_pos hss) ?_
  refine y_putR dX10_read_57 cl10 sh_1 (by decide) (Nat.le_trans (by decide) hz) 3 rfl rfl rfl (fl_X_30) rfl rfl (riv_pos hss) ?_
  refine z_aload_n dX10_read_60 rfl ?_
  refine z_aload_n dX10_read_61 rfl ?_
  refine y_putR dX10_read_62 cl10 sh_1 (by decide) (Nat.le_trans (by decide) hz) 4 rfl rfl rfl (fl_X_34) rfl rfl (riv_pos hrr) ?_
  refine z_aload_n dX10_read_65 rfl ?_
  obtain ⟨q9, hq10, h⟩ := bindE h
  refine z_callV (As := []) (rest := []) (s_X_beginAnew hz (lyX_put4 (lyX_put3 hG)) ((up2_ne (Or.inr (by decide))).trans up2_same) hss up2_same hrr  hq10) dX10_read_66 mw_X_beginAnew cl10 sh_1 (by decide) (Nat.le_trans (by decide) hz) ml_X_93 im_X_beginAnew se_X_beginAnew rfl rfl rfl rfl (Nat.le_refl _) (Nat.le_of_eq hb.symm) (fun hp11 => ?_)
  show Zt _ _ _ _ 69 _ [] (z, q9, J, (up2 (up2 G 1 3 sp) 1 4 rv))
  refine z_iload_n dX10_read_69 rfl ?_
  obtain rfl := someE h
  exact z_iret dX10_read_70 hE hx1 rfl
set_option maxHeartbeats 1000000 in
theorem s_X_read {l : Launch} {g : GX} {z : Nat} {G : Nat → Nat → Nat} {F : Nat} (hz : 295 ≤ z) (hG : lyX G) {rv sp : Nat} (hrv : G 1 3 = rv) (hrr : isRiv rv) (hsp : G 1 4 = sp) (hss : isRiv sp) {I J : Nat → Nat → Int} {res : Int × MI × Nat × Nat} (h : f_X_read F rv sp I = some res) : Spec l g 62 yX10_read cX10_read 3 (some .int) [vR g 1] (z, I, J, G) (some (vI res.1)) (inR res.1) (z, res.2.1, J, (up2 (up2 G 1 3 res.2.2.1) 1 4 res.2.2.2)) := by
  refine spec_of (μ := mu_X_read) (k := 2) (L0 := [some (vR g 1), none, none]) rfl mw_X_read rfl rfl (Nat.le_refl _) (fun φ hb hE => ?_)
  refine z_aload_n dX10_read_0 rfl ?_
  refine y_getR dX10_read_1 cl10 sh_1 (by decide) (Nat.le_trans (by decide) hz) 1 rfl rfl (fl_X_19) (ly_1_1 hG) (by decide) ?_
  refine z_aload_n dX10_read_4 rfl ?_
  refine y_getR dX10_read_5 cl10 sh_1 (by decide) (Nat.le_trans (by decide) hz) 0 rfl rfl (fl_X_12) (ly_1_0 hG) (by decide) ?_
  refine z_aload_n dX10_read_8 rfl ?_
  refine y_getR dX10_read_9 cl10 sh_1 (by decide) (Nat.le_trans (by decide) hz) 4 rfl rfl (fl_X_34) hsp (riv_pos hss) ?_
  obtain ⟨q1, hq2, h⟩ := bindE h
  refine z_callV (As := [vR g 2, vR g sp]) (rest := []) (s_E_readText hz hG hss hq2) dX10_read_12 mw_E_readText cl5 sh_4 (by decide) (Nat.le_trans (by decide) hz) ml_X_103 im_E_readText se_E_readText rfl rfl rfl rfl (Nat.le_refl _) (Nat.le_of_eq hb.symm) (fun hp3 => ?_)
  show Zt _ _ _ _ 15 _ [vI q1.1] (z, q1.2, J, G)
  refine z_istore_n (L' := [some (vR g 1), some (vI q1.1), none]) dX10_read_15 rfl rfl rfl ?_
  refine z_aload_n dX10_read_16 rfl ?_
  refine y_getR dX10_read_17 cl10 sh_1 (by decide) (Nat.le_trans (by decide) hz) 0 rfl rfl (fl_X_12) (ly_1_0 hG) (by decide) ?_
  refine z_iconst dX10_read_20 ?_
  refine y_putNI (host := "FarewellStones") dX10_read_21 cl7 sh_2 (by decide) (Nat.le_trans (by decide) hz) 1 rfl rfl rfl (flN_X_96) rfl rfl (inRd (x := 0) (by decide)) ?_
  refine z_aload_n dX10_read_24 rfl ?_
  refine z_iload_n dX10_read_25 rfl ?_
  refine z_if_ne (tgt := 33) dX10_read_26 (by decide) hp3 (fun hc4 => ?_) (fun hc4 => ?_)
  · replace h := ifT hc4 h
    refine z_aload_n dX10_read_33 rfl ?_
    refine y_getR dX10_read_34 cl10 sh_1 (by decide) (Nat.le_trans (by decide) hz) 1 rfl rfl (fl_X_19) (ly_1_1 hG) (by decide) ?_
    obtain ⟨q5, hq6, h⟩ := bindE h
    refine z_callV (As := []) (rest := [vR g 1]) (s_E_faultPlace hz hG  hq6) dX10_read_37 mw_E_faultPlace cl5 sh_4 (by decide) (Nat.le_trans (by decide) hz) ml_X_107 im_E_faultPlace se_E_faultPlace rfl rfl rfl rfl (Nat.le_refl _) (Nat.le_of_eq hb.symm) (fun hp7 => ?_)
    show Zt _ _ _ _ 40 _ [vI q5, vR g 1] (z, (up2 q1.2 2 1 0), J, G)
    exact t_X_read_b40 hb hz hG hrv hrr hsp hss hp3 hp7 h hE
  replace h := ifF (fun q => q hc4) h
  refine z_iconst dX10_read_29 ?_
  refine z_goto (tgt := 40) dX10_read_30 (by decide) ?_
  exact t_X_read_b40 hb hz hG hrv hrr hsp hss hp3 (inRd (x := (-1)) (by decide)) h hE
set_option maxHeartbeats 1000000 in
theorem s_X_place {l : Launch} {g : GX} {z : Nat} {G : Nat → Nat → Nat} {F : Nat} (hz : 295 ≤ z) (hG : lyX G) {rv sp : Nat} (hrv : G 1 3 = rv) (hrr : isRiv rv) (hsp : G 1 4 = sp) (hss : isRiv sp) {I J : Nat → Nat → Int} {res : Int} (h : f_X_place F I = some res) : Spec l g 0 yX10_place cX10_place 1 (some .int) [vR g 1] (z, I, J, G) (some (vI res)) (inR res) (z, I, J, G) := by
  refine spec_of (μ := mu_X_place) (k := 0) (L0 := [some (vR g 1)]) rfl mw_X_place rfl rfl (Nat.le_refl _) (fun φ hb hE => ?_)
  refine z_aload_n dX10_place_0 rfl ?_
  refine z_nm (fun hN1 => ?_)
  refine y_getI dX10_place_1 cl10 sh_1 (by decide) (Nat.le_trans (by decide) hz) 2 rfl rfl (fl_X_23) ?_
  obtain rfl := someE h
  exact z_iret dX10_place_4 hE (hN1.1 1 2) rfl
set_option maxHeartbeats 1000000 in
theorem s_X_cell {l : Launch} {g : GX} {z : Nat} {G : Nat → Nat → Nat} {F : Nat} (hz : 295 ≤ z) (hG : lyX G) {rv sp : Nat} (hrv : G 1 3 = rv) (hrr : isRiv rv) (hsp : G 1 4 = sp) (hss : isRiv sp) {x1 : Int} {x2 : Int} {x3 : Int} {I J : Nat → Nat → Int} (hx1 : inR x1) (hx2 : inR x2) (hx3 : inR x3) {res : Int × MI} (h : f_X_cell F x1 x2 x3 rv I = some res) : Spec l g 17 yX10_cell cX10_cell 5 (some .int) [vR g 1, vI x1, vI x2, vI x3] (z, I, J, G) (some (vI res.1)) (inR res.1) (z, res.2, J, G) := by
  refine spec_of (μ := mu_X_cell) (k := 1) (L0 := [some (vR g 1), some (vI x1), some (vI x2), some (vI x3), none]) rfl mw_X_cell rfl rfl (Nat.le_refl _) (fun φ hb hE => ?_)
  refine z_aload_n dX10_cell_0 rfl ?_
  refine y_getR dX10_cell_1 cl10 sh_1 (by decide) (Nat.le_trans (by decide) hz) 3 rfl rfl (fl_X_30) hrv (riv_pos hrr) ?_
  refine z_iload_n dX10_cell_4 rfl ?_
  refine z_iload_n dX10_cell_5 rfl ?_
  obtain ⟨q1, hq2, h⟩ := bindE h
  refine z_callV (As := [vI x1, vI x2]) (rest := []) (s_R_has hz hG hrr hx1 hx2 hq2) dX10_cell_6 mw_R_has cl6 (riv_sh hrr) (riv_pos hrr) (Nat.le_trans (riv_le hrr) hz) ml_X_115 im_R_has se_R_has rfl rfl rfl rfl (Nat.le_refl _) (Nat.le_of_eq hb.symm) (fun hp3 => ?_)
  show Zt _ _ _ _ 9 _ [vI q1] (z, I, J, G)
  refine z_if_ne (tgt := 14) dX10_cell_9 (by decide) (inR_bool hp3) (fun hc4 => ?_) (fun hc4 => ?_)
  · replace h := ifT hc4 h
    refine z_iload_n dX10_cell_14 rfl ?_
    refine z_iload_n dX10_cell_15 rfl ?_
    obtain ⟨q5, hq6, h⟩ := bindE h
    refine z_callS (As := [vI x1, vI x2]) (rest := []) (s_X_cellNumber hz hG hx1 hx2 hq6) dX10_cell_16 mw_X_cellNumber ml_X_119 st_X_cellNumber rfl rfl rfl rfl (Nat.le_refl _) (Nat.le_of_eq hb.symm) (fun hp7 => ?_)
    show Zt _ _ _ _ 19 _ [vI q5] (z, I, J, G)
    refine z_istore (L' := [some (vR g 1), some (vI x1), some (vI x2), some (vI x3), some (vI q5)]) dX10_cell_19 rfl rfl rfl ?_
    refine z_iload_n dX10_cell_21 rfl ?_
    by_cases hc8 : x3 = 0
    · replace h := ifT hc8 h
      refine z_tabIn (tgt := 60) dX10_cell_22 0 hc8 hx3 (by decide) rfl (by decide) ?_
      refine z_aload_n dX10_cell_60 rfl ?_
      refine y_getR dX10_cell_61 cl10 sh_1 (by decide) (Nat.le_trans (by decide) hz) 5 rfl rfl (fl_X_40) (ly_1_5 hG) (by decide) ?_
      refine y_getNR (host := "FarewellStones") dX10_cell_64 cl0 sh_49 (by decide) (Nat.le_trans (by decide) hz) 1 rfl rfl (flN_X_123) (bed_g1 hG (is_49)) (Nat.succ_pos _) ?_
      refine z_iload dX10_cell_67 rfl ?_
      obtain ⟨hg9, h⟩ := guardE h
      refine z_nm (fun hN10 => ?_)
      refine y_iald dX10_cell_69 (bed_sh1 (is_49)) (Nat.succ_pos _) (Nat.le_trans (bed_le1 (is_49)) hz) hp7 hg9 ?_
      obtain rfl := someE h
      exact z_iret dX10_cell_70 hE (hN10.1 (49 + 1) (q5).toNat) rfl
    replace h := ifF hc8 h
    by_cases hc11 : x3 = 1
    · replace h := ifT hc11 h
      refine z_tabIn (tgt := 71) dX10_cell_22 1 hc11 hx3 (by decide) rfl (by decide) ?_
      refine z_aload_n dX10_cell_71 rfl ?_
      refine y_getR dX10_cell_72 cl10 sh_1 (by decide) (Nat.le_trans (by decide) hz) 3 rfl rfl (fl_X_30) hrv (riv_pos hrr) ?_
      refine y_getNR (host := "FarewellStones") dX10_cell_75 cl6 (riv_sh hrr) (riv_pos hrr) (Nat.le_trans (riv_le hrr) hz) 3 rfl rfl (flN_X_126) (riv_g3 hG hrr) (Nat.succ_pos _) ?_
      refine z_iload dX10_cell_78 rfl ?_
      obtain ⟨hg12, h⟩ := guardE h
      refine z_nm (fun hN13 => ?_)
      refine y_iald dX10_cell_80 (riv_sh3 hrr) (Nat.succ_pos _) (Nat.le_trans (riv_le3 hrr) hz) hp7 hg12 ?_
      obtain rfl := someE h
      exact z_iret dX10_cell_81 hE (hN13.1 (rv + 1) (q5).toNat) rfl
    replace h := ifF hc11 h
    by_cases hc14 : x3 = 2
    · replace h := ifT hc14 h
      refine z_tabIn (tgt := 82) dX10_cell_22 2 hc14 hx3 (by decide) rfl (by decide) ?_
      refine z_aload_n dX10_cell_82 rfl ?_
      refine y_getR dX10_cell_83 cl10 sh_1 (by decide) (Nat.le_trans (by decide) hz) 5 rfl rfl (fl_X_40) (ly_1_5 hG) (by decide) ?_
      refine z_iload dX10_cell_86 rfl ?_
      obtain ⟨q15, hq16, h⟩ := bindE h
      refine z_callV (As := [vI q5]) (rest := []) (s_B_mossAt hz hG (is_49) hp7 hq16) dX10_cell_88 mw_B_mossAt cl0 sh_49 (by decide) (Nat.le_trans (by decide) hz) ml_X_129 im_B_mossAt se_B_mossAt rfl rfl rfl rfl (Nat.le_refl _) (Nat.le_of_eq hb.symm) (fun hp17 => ?_)
      show Zt _ _ _ _ 91 _ [vI q15] (z, I, J, G)
      obtain rfl := someE h
      exact z_iret dX10_cell_91 hE hp17 rfl
    replace h := ifF hc14 h
    by_cases hc18 : x3 = 3
    · replace h := ifT hc18 h
      refine z_tabIn (tgt := 92) dX10_cell_22 3 hc18 hx3 (by decide) rfl (by decide) ?_
      refine z_aload_n dX10_cell_92 rfl ?_
      refine y_getR dX10_cell_93 cl10 sh_1 (by decide) (Nat.le_trans (by decide) hz) 5 rfl rfl (fl_X_40) (ly_1_5 hG) (by decide) ?_
      refine z_aload_n dX10_cell_96 rfl ?_
      refine y_getR dX10_cell_97 cl10 sh_1 (by decide) (Nat.le_trans (by decide) hz) 3 rfl rfl (fl_X_30) hrv (riv_pos hrr) ?_
      refine z_iload dX10_cell_100 rfl ?_
      obtain ⟨q19, hq20, h⟩ := bindE h
      refine z_callV (As := [vR g rv, vI q5]) (rest := []) (s_B_isStep hz hG (is_49) hrr hp7 hq20) dX10_cell_102 mw_B_isStep cl0 sh_49 (by decide) (Nat.le_trans (by decide) hz) ml_X_133 im_B_isStep se_B_isStep rfl rfl rfl rfl (Nat.le_refl _) (Nat.le_of_eq hb.symm) (fun hp21 => ?_)
      show Zt _ _ _ _ 105 _ [vI q19] (z, I, J, G)
      refine z_if_eq (tgt := 112) dX10_cell_105 (by decide) (inR_bool hp21) (fun hc22 => ?_) (fun hc22 => ?_)
      · replace h := ifT hc22 h
        refine z_iconst dX10_cell_112 ?_
        obtain rfl := someE h
        exact z_iret dX10_cell_113 hE (inRd (x := 0) (by decide)) rfl
      replace h := ifF hc22 h
      refine z_iconst dX10_cell_108 ?_
      refine z_goto (tgt := 113) dX10_cell_109 (by decide) ?_
      obtain rfl := someE h
      exact z_iret dX10_cell_113 hE (inRd (x := 1) (by decide)) rfl
    replace h := ifF hc18 h
    by_cases hc23 : x3 = 4
    · replace h := ifT hc23 h
      refine z_tabIn (tgt := 114) dX10_cell_22 4 hc23 hx3 (by decide) rfl (by decide) ?_
      refine z_aload_n dX10_cell_114 rfl ?_
      refine y_getR dX10_cell_115 cl10 sh_1 (by decide) (Nat.le_trans (by decide) hz) 5 rfl rfl (fl_X_40) (ly_1_5 hG) (by decide) ?_
      refine z_aload_n dX10_cell_118 rfl ?_
      refine y_getR dX10_cell_119 cl10 sh_1 (by decide) (Nat.le_trans (by decide) hz) 3 rfl rfl (fl_X_30) hrv (riv_pos hrr) ?_
      refine z_iload dX10_cell_122 rfl ?_
      obtain ⟨q24, hq25, h⟩ := bindE h
      refine z_callV (As := [vR g rv, vI q5]) (rest := []) (s_B_isStep hz hG (is_49) hrr hp7 hq25) dX10_cell_124 mw_B_isStep cl0 sh_49 (by decide) (Nat.le_trans (by decide) hz) ml_X_133 im_B_isStep se_B_isStep rfl rfl rfl rfl (Nat.le_refl _) (Nat.le_of_eq hb.symm) (fun hp26 => ?_)
      show Zt _ _ _ _ 127 _ [vI q24] (z, I, J, G)
      refine z_if_eq (tgt := 146) dX10_cell_127 (by decide) (inR_bool hp26) (fun hc27 => ?_) (fun hc27 => ?_)
      · replace h := ifT hc27 h
        refine z_bipush dX10_cell_146 (by decide +kernel) ?_
        obtain rfl := someE h
        exact z_iret dX10_cell_148 hE (inRd (x := (-2)) (by decide)) rfl
      replace h := ifF hc27 h
      refine z_aload_n dX10_cell_130 rfl ?_
      refine y_getR dX10_cell_131 cl10 sh_1 (by decide) (Nat.le_trans (by decide) hz) 5 rfl rfl (fl_X_40) (ly_1_5 hG) (by decide) ?_
      refine z_aload_n dX10_cell_134 rfl ?_
      refine y_getR dX10_cell_135 cl10 sh_1 (by decide) (Nat.le_trans (by decide) hz) 3 rfl rfl (fl_X_30) hrv (riv_pos hrr) ?_
      refine z_iload dX10_cell_138 rfl ?_
      obtain ⟨q28, hq29, h⟩ := bindE h
      refine z_callV (As := [vR g rv, vI q5]) (rest := []) (s_B_slippery hz hG (is_49) hrr hp7 hq29) dX10_cell_140 mw_B_slippery cl0 sh_49 (by decide) (Nat.le_trans (by decide) hz) ml_X_137 im_B_slippery se_B_slippery rfl rfl rfl rfl (Nat.le_refl _) (Nat.le_of_eq hb.symm) (fun hp30 => ?_)
      show Zt _ _ _ _ 143 _ [vI q28.1] (z, q28.2, J, G)
      refine z_goto (tgt := 148) dX10_cell_143 (by decide) ?_
      obtain rfl := someE h
      exact z_iret dX10_cell_148 hE hp30 rfl
    replace h := ifF hc23 h
    by_cases hc31 : x3 = 5
    · replace h := ifT hc31 h
      refine z_tabIn (tgt := 149) dX10_cell_22 5 hc31 hx3 (by decide) rfl (by decide) ?_
      refine z_aload_n dX10_cell_149 rfl ?_
      refine y_getR dX10_cell_150 cl10 sh_1 (by decide) (Nat.le_trans (by decide) hz) 5 rfl rfl (fl_X_40) (ly_1_5 hG) (by decide) ?_
      refine y_getNR (host := "FarewellStones") dX10_cell_153 cl0 sh_49 (by decide) (Nat.le_trans (by decide) hz) 1 rfl rfl (flN_X_123) (bed_g1 hG (is_49)) (Nat.succ_pos _) ?_
      refine z_iload dX10_cell_156 rfl ?_
      obtain ⟨hg32, h⟩ := guardE h
      refine z_nm (fun hN33 => ?_)
      refine y_iald dX10_cell_158 (bed_sh1 (is_49)) (Nat.succ_pos _) (Nat.le_trans (bed_le1 (is_49)) hz) hp7 hg32 ?_
      refine z_if_le (tgt := 186) dX10_cell_159 (by decide) (hN33.1 (49 + 1) (q5).toNat) (fun hc34 => ?_) (fun hc34 => ?_)
      · replace h := ifT hc34 h
        refine z_bipush dX10_cell_186 (by decide +kernel) ?_
        obtain rfl := someE h
        exact z_iret dX10_cell_188 hE (inRd (x := (-2)) (by decide)) rfl
      replace h := ifF hc34 h
      refine z_aload_n dX10_cell_162 rfl ?_
      refine y_getR dX10_cell_163 cl10 sh_1 (by decide) (Nat.le_trans (by decide) hz) 5 rfl rfl (fl_X_40) (ly_1_5 hG) (by decide) ?_
      refine z_iload dX10_cell_166 rfl ?_
      refine z_aload_n dX10_cell_168 rfl ?_
      refine y_getR dX10_cell_169 cl10 sh_1 (by decide) (Nat.le_trans (by decide) hz) 5 rfl rfl (fl_X_40) (ly_1_5 hG) (by decide) ?_
      refine y_getNR (host := "FarewellStones") dX10_cell_172 cl0 sh_49 (by decide) (Nat.le_trans (by decide) hz) 1 rfl rfl (flN_X_123) (bed_g1 hG (is_49)) (Nat.succ_pos _) ?_
      refine z_iload dX10_cell_175 rfl ?_
      refine y_iald dX10_cell_177 (bed_sh1 (is_49)) (Nat.succ_pos _) (Nat.le_trans (bed_le1 (is_49)) hz) hp7 hg32 ?_
      refine z_iconst dX10_cell_178 ?_
      refine z_isub dX10_cell_179 ?_
      obtain ⟨q35, hq36, h⟩ := bindE h
      refine z_callV (As := [vI q5, vI (w32 ((I (49 + 1) (q5).toNat) - 1))]) (rest := []) (s_B_ownerAt hz hG (is_49) hp7 (inR_w32 _) hq36) dX10_cell_180 mw_B_ownerAt cl0 sh_49 (by decide) (Nat.le_trans (by decide) hz) ml_X_141 im_B_ownerAt se_B_ownerAt rfl rfl rfl rfl (Nat.le_refl _) (Nat.le_of_eq hb.symm) (fun hp37 => ?_)
      show Zt _ _ _ _ 183 _ [vI q35] (z, I, J, G)
      refine z_goto (tgt := 188) dX10_cell_183 (by decide) ?_
      obtain rfl := someE h
      exact z_iret dX10_cell_188 hE hp37 rfl
    replace h := ifF hc31 h
    refine z_tabOut (tgt := 189) dX10_cell_22 hx3 (by omega) (by decide) ?_
    refine z_iconst dX10_cell_189 ?_
    obtain rfl := someE h
    exact z_iret dX10_cell_190 hE (inRd (x := (-1)) (by decide)) rfl
  replace h := ifF (fun q => q hc4) h
  refine z_iconst dX10_cell_12 ?_
  obtain rfl := someE h
  exact z_iret dX10_cell_13 hE (inRd (x := (-1)) (by decide)) rfl
set_option maxHeartbeats 1000000 in
theorem s_X_stone {l : Launch} {g : GX} {z : Nat} {G : Nat → Nat → Nat} {F : Nat} (hz : 295 ≤ z) (hG : lyX G) {rv sp : Nat} (hrv : G 1 3 = rv) (hrr : isRiv rv) (hsp : G 1 4 = sp) (hss : isRiv sp) {x1 : Int} {x2 : Int} {x3 : Int} {I J : Nat → Nat → Int} (hx1 : inR x1) (hx2 : inR x2) (hx3 : inR x3) {res : Int} (h : f_X_stone F x1 x2 x3 rv I = some res) : Spec l g 1 yX10_stone cX10_stone 5 (some .int) [vR g 1, vI x1, vI x2, vI x3] (z, I, J, G) (some (vI res)) (inR res) (z, I, J, G) := by
  refine spec_of (μ := mu_X_stone) (k := 1) (L0 := [some (vR g 1), some (vI x1), some (vI x2), some (vI x3), none]) rfl mw_X_stone rfl rfl (Nat.le_refl _) (fun φ hb hE => ?_)
  refine z_aload_n dX10_stone_0 rfl ?_
  refine y_getR dX10_stone_1 cl10 sh_1 (by decide) (Nat.le_trans (by decide) hz) 3 rfl rfl (fl_X_30) hrv (riv_pos hrr) ?_
  refine z_iload_n dX10_stone_4 rfl ?_
  refine z_iload_n dX10_stone_5 rfl ?_
  obtain ⟨q1, hq2, h⟩ := bindE h
  refine z_callV (As := [vI x1, vI x2]) (rest := []) (s_R_has hz hG hrr hx1 hx2 hq2) dX10_stone_6 mw_R_has cl6 (riv_sh hrr) (riv_pos hrr) (Nat.le_trans (riv_le hrr) hz) ml_X_115 im_R_has se_R_has rfl rfl rfl rfl (Nat.le_refl _) (Nat.le_of_eq hb.symm) (fun hp3 => ?_)
  show Zt _ _ _ _ 9 _ [vI q1] (z, I, J, G)
  refine z_if_ne (tgt := 14) dX10_stone_9 (by decide) (inR_bool hp3) (fun hc4 => ?_) (fun hc4 => ?_)
  · replace h := ifT hc4 h
    refine z_iload_n dX10_stone_14 rfl ?_
    refine z_iload_n dX10_stone_15 rfl ?_
    obtain ⟨q5, hq6, h⟩ := bindE h
    refine z_callS (As := [vI x1, vI x2]) (rest := []) (s_X_cellNumber hz hG hx1 hx2 hq6) dX10_stone_16 mw_X_cellNumber ml_X_119 st_X_cellNumber rfl rfl rfl rfl (Nat.le_refl _) (Nat.le_of_eq hb.symm) (fun hp7 => ?_)
    show Zt _ _ _ _ 19 _ [vI q5] (z, I, J, G)
    refine z_istore (L' := [some (vR g 1), some (vI x1), some (vI x2), some (vI x3), some (vI q5)]) dX10_stone_19 rfl rfl rfl ?_
    refine z_iload_n dX10_stone_21 rfl ?_
    refine z_if_lt (tgt := 39) dX10_stone_22 (by decide) hx3 (fun hc8 => ?_) (fun hc8 => ?_)
    · replace h := ifT hc8 h
      refine z_iconst dX10_stone_39 ?_
      obtain rfl := someE h
      exact z_iret dX10_stone_40 hE (inRd (x := (-1)) (by decide)) rfl
    replace h := ifF hc8 h
    refine z_iload_n dX10_stone_25 rfl ?_
    refine z_aload_n dX10_stone_26 rfl ?_
    refine y_getR dX10_stone_27 cl10 sh_1 (by decide) (Nat.le_trans (by decide) hz) 5 rfl rfl (fl_X_40) (ly_1_5 hG) (by decide) ?_
    refine y_getNR (host := "FarewellStones") dX10_stone_30 cl0 sh_49 (by decide) (Nat.le_trans (by decide) hz) 1 rfl rfl (flN_X_123) (bed_g1 hG (is_49)) (Nat.succ_pos _) ?_
    refine z_iload dX10_stone_33 rfl ?_
    obtain ⟨hg9, h⟩ := guardE h
    refine z_nm (fun hN10 => ?_)
    refine y_iald dX10_stone_35 (bed_sh1 (is_49)) (Nat.succ_pos _) (Nat.le_trans (bed_le1 (is_49)) hz) hp7 hg9 ?_
    refine z_icmp_lt (tgt := 41) dX10_stone_36 (by decide) hx3 (hN10.1 (49 + 1) (q5).toNat) (fun hc11 => ?_) (fun hc11 => ?_)
    · replace h := ifT hc11 h
      refine z_aload_n dX10_stone_41 rfl ?_
      refine y_getR dX10_stone_42 cl10 sh_1 (by decide) (Nat.le_trans (by decide) hz) 5 rfl rfl (fl_X_40) (ly_1_5 hG) (by decide) ?_
      refine z_iload dX10_stone_45 rfl ?_
      refine z_iload_n dX10_stone_47 rfl ?_
      obtain ⟨q12, hq13, h⟩ := bindE h
      refine z_callV (As := [vI q5, vI x3]) (rest := []) (s_B_ownerAt hz hG (is_49) hp7 hx3 hq13) dX10_stone_48 mw_B_ownerAt cl0 sh_49 (by decide) (Nat.le_trans (by decide) hz) ml_X_141 im_B_ownerAt se_B_ownerAt rfl rfl rfl rfl (Nat.le_refl _) (Nat.le_of_eq hb.symm) (fun hp14 => ?_)
      show Zt _ _ _ _ 51 _ [vI q12] (z, I, J, G)
      obtain rfl := someE h
      exact z_iret dX10_stone_51 hE hp14 rfl
    replace h := ifF hc11 h
    refine z_iconst dX10_stone_39 ?_
    obtain rfl := someE h
    exact z_iret dX10_stone_40 hE (inRd (x := (-1)) (by decide)) rfl
  replace h := ifF (fun q => q hc4) h
  refine z_iconst dX10_stone_12 ?_
  obtain rfl := someE h
  exact z_iret dX10_stone_13 hE (inRd (x := (-1)) (by decide)) rfl
set_option maxHeartbeats 1000000 in
theorem s_X_isLeaver {l : Launch} {g : GX} {z : Nat} {G : Nat → Nat → Nat} {F : Nat} (hz : 295 ≤ z) (hG : lyX G) {rv sp : Nat} (hrv : G 1 3 = rv) (hrr : isRiv rv) (hsp : G 1 4 = sp) (hss : isRiv sp) {x1 : Int} {I J : Nat → Nat → Int} (hx1 : inR x1) {res : Int} (h : f_X_isLeaver F x1 rv I = some res) : Spec l g 0 yX10_isLeaver cX10_isLeaver 2 (some .boolean) [vR g 1, vI x1] (z, I, J, G) (some (vI res)) (res = 0 ∨ res = 1) (z, I, J, G) := by
  refine spec_of (μ := mu_X_isLeaver) (k := 0) (L0 := [some (vR g 1), some (vI x1)]) rfl mw_X_isLeaver rfl rfl (Nat.le_refl _) (fun φ hb hE => ?_)
  refine z_iload_n dX10_isLeaver_0 rfl ?_
  refine z_if_lt (tgt := 19) dX10_isLeaver_1 (by decide) hx1 (fun hc1 => ?_) (fun hc1 => ?_)
  · replace h := ifT hc1 h
    refine z_iconst dX10_isLeaver_19 ?_
    obtain rfl := someE h
    exact z_zret dX10_isLeaver_20 hE b01_0 b01_0 rfl
  replace h := ifF hc1 h
  refine z_iload_n dX10_isLeaver_4 rfl ?_
  refine z_aload_n dX10_isLeaver_5 rfl ?_
  refine y_getR dX10_isLeaver_6 cl10 sh_1 (by decide) (Nat.le_trans (by decide) hz) 3 rfl rfl (fl_X_30) hrv (riv_pos hrr) ?_
  refine z_nm (fun hN2 => ?_)
  refine y_getNI (host := "FarewellStones") dX10_isLeaver_9 cl6 (riv_sh hrr) (riv_pos hrr) (Nat.le_trans (riv_le hrr) hz) 5 rfl rfl (flN_X_172) ?_
  refine z_icmp_ge (tgt := 19) dX10_isLeaver_12 (by decide) hx1 (hN2.1 rv 5) (fun hc3 => ?_) (fun hc3 => ?_)
  · replace h := ifT hc3 h
    refine z_iconst dX10_isLeaver_19 ?_
    obtain rfl := someE h
    exact z_zret dX10_isLeaver_20 hE b01_0 b01_0 rfl
  replace h := ifF hc3 h
  refine z_iconst dX10_isLeaver_15 ?_
  refine z_goto (tgt := 20) dX10_isLeaver_16 (by decide) ?_
  obtain rfl := someE h
  exact z_zret dX10_isLeaver_20 hE b01_1 b01_1 rfl
set_option maxHeartbeats 1000000 in
theorem s_X_leaver {l : Launch} {g : GX} {z : Nat} {G : Nat → Nat → Nat} {F : Nat} (hz : 295 ≤ z) (hG : lyX G) {rv sp : Nat} (hrv : G 1 3 = rv) (hrr : isRiv rv) (hsp : G 1 4 = sp) (hss : isRiv sp) {x1 : Int} {x2 : Int} {I J : Nat → Nat → Int} (hx1 : inR x1) (hx2 : inR x2) {res : Int} (h : f_X_leaver F x1 x2 rv I = some res) : Spec l g 2 yX10_leaver cX10_leaver 3 (some .int) [vR g 1, vI x1, vI x2] (z, I, J, G) (some (vI res)) (inR res) (z, I, J, G) := by
  refine spec_of (μ := mu_X_leaver) (k := 0) (L0 := [some (vR g 1), some (vI x1), some (vI x2)]) rfl mw_X_leaver rfl rfl (Nat.le_refl _) (fun φ hb hE => ?_)
  refine z_aload_n dX10_leaver_0 rfl ?_
  refine z_iload_n dX10_leaver_1 rfl ?_
  obtain ⟨q1, hq2, h⟩ := bindE h
  refine z_callV (As := [vI x1]) (rest := []) (s_X_isLeaver hz hG hrv hrr hsp hss hx1 hq2) dX10_leaver_2 mw_X_isLeaver cl10 sh_1 (by decide) (Nat.le_trans (by decide) hz) ml_X_144 im_X_isLeaver se_X_isLeaver rfl rfl rfl rfl (Nat.le_refl _) (Nat.le_of_eq hb.symm) (fun hp3 => ?_)
  show Zt _ _ _ _ 5 _ [vI q1] (z, I, J, G)
  refine z_if_ne (tgt := 10) dX10_leaver_5 (by decide) (inR_bool hp3) (fun hc4 => ?_) (fun hc4 => ?_)
  · replace h := ifT hc4 h
    refine z_iload_n dX10_leaver_10 rfl ?_
    by_cases hc5 : x2 = 0
    · replace h := ifT hc5 h
      refine z_tabIn (tgt := 44) dX10_leaver_11 0 hc5 hx2 (by decide) rfl (by decide) ?_
      refine z_aload_n dX10_leaver_44 rfl ?_
      refine y_getR dX10_leaver_45 cl10 sh_1 (by decide) (Nat.le_trans (by decide) hz) 5 rfl rfl (fl_X_40) (ly_1_5 hG) (by decide) ?_
      refine z_aload_n dX10_leaver_48 rfl ?_
      refine y_getR dX10_leaver_49 cl10 sh_1 (by decide) (Nat.le_trans (by decide) hz) 3 rfl rfl (fl_X_30) hrv (riv_pos hrr) ?_
      refine z_iload_n dX10_leaver_52 rfl ?_
      obtain ⟨q6, hq7, h⟩ := bindE h
      refine z_callV (As := [vR g rv, vI x1]) (rest := []) (s_B_left hz hG (is_49) hrr hx1 hq7) dX10_leaver_53 mw_B_left cl0 sh_49 (by decide) (Nat.le_trans (by decide) hz) ml_X_148 im_B_left se_B_left rfl rfl rfl rfl (Nat.le_refl _) (Nat.le_of_eq hb.symm) (fun hp8 => ?_)
      show Zt _ _ _ _ 56 _ [vI q6] (z, I, J, G)
      obtain rfl := someE h
      exact z_iret dX10_leaver_56 hE hp8 rfl
    replace h := ifF hc5 h
    by_cases hc9 : x2 = 1
    · replace h := ifT hc9 h
      refine z_tabIn (tgt := 57) dX10_leaver_11 1 hc9 hx2 (by decide) rfl (by decide) ?_
      refine z_aload_n dX10_leaver_57 rfl ?_
      refine y_getR dX10_leaver_58 cl10 sh_1 (by decide) (Nat.le_trans (by decide) hz) 5 rfl rfl (fl_X_40) (ly_1_5 hG) (by decide) ?_
      refine y_getNR (host := "FarewellStones") dX10_leaver_61 cl0 sh_49 (by decide) (Nat.le_trans (by decide) hz) 5 rfl rfl (flN_X_151) (bed_g5 hG (is_49)) (Nat.succ_pos _) ?_
      refine z_iload_n dX10_leaver_64 rfl ?_
      obtain ⟨hg10, h⟩ := guardE h
      refine z_nm (fun hN11 => ?_)
      refine y_iald dX10_leaver_65 (bed_sh5 (is_49)) (Nat.succ_pos _) (Nat.le_trans (bed_le5 (is_49)) hz) hx1 hg10 ?_
      refine z_aload_n dX10_leaver_66 rfl ?_
      refine y_getR dX10_leaver_67 cl10 sh_1 (by decide) (Nat.le_trans (by decide) hz) 5 rfl rfl (fl_X_40) (ly_1_5 hG) (by decide) ?_
      refine y_getNR (host := "FarewellStones") dX10_leaver_70 cl0 sh_49 (by decide) (Nat.le_trans (by decide) hz) 6 rfl rfl (flN_X_154) (bed_g6 hG (is_49)) (Nat.succ_pos _) ?_
      refine z_iload_n dX10_leaver_73 rfl ?_
      refine y_iald dX10_leaver_74 (bed_sh6 (is_49)) (Nat.succ_pos _) (Nat.le_trans (bed_le6 (is_49)) hz) hx1 hg10 ?_
      refine z_isub dX10_leaver_75 ?_
      obtain rfl := someE h
      exact z_iret dX10_leaver_76 hE (inR_w32 _) rfl
    replace h := ifF hc9 h
    by_cases hc12 : x2 = 2
    · replace h := ifT hc12 h
      refine z_tabIn (tgt := 77) dX10_leaver_11 2 hc12 hx2 (by decide) rfl (by decide) ?_
      refine z_aload_n dX10_leaver_77 rfl ?_
      refine y_getR dX10_leaver_78 cl10 sh_1 (by decide) (Nat.le_trans (by decide) hz) 5 rfl rfl (fl_X_40) (ly_1_5 hG) (by decide) ?_
      refine y_getNR (host := "FarewellStones") dX10_leaver_81 cl0 sh_49 (by decide) (Nat.le_trans (by decide) hz) 6 rfl rfl (flN_X_154) (bed_g6 hG (is_49)) (Nat.succ_pos _) ?_
      refine z_iload_n dX10_leaver_84 rfl ?_
      obtain ⟨hg13, h⟩ := guardE h
      refine z_nm (fun hN14 => ?_)
      refine y_iald dX10_leaver_85 (bed_sh6 (is_49)) (Nat.succ_pos _) (Nat.le_trans (bed_le6 (is_49)) hz) hx1 hg13 ?_
      obtain rfl := someE h
      exact z_iret dX10_leaver_86 hE (hN14.1 (49 + 6) (x1).toNat) rfl
    replace h := ifF hc12 h
    by_cases hc15 : x2 = 3
    · replace h := ifT hc15 h
      refine z_tabIn (tgt := 87) dX10_leaver_11 3 hc15 hx2 (by decide) rfl (by decide) ?_
      refine z_aload_n dX10_leaver_87 rfl ?_
      refine y_getR dX10_leaver_88 cl10 sh_1 (by decide) (Nat.le_trans (by decide) hz) 3 rfl rfl (fl_X_30) hrv (riv_pos hrr) ?_
      refine y_getNR (host := "FarewellStones") dX10_leaver_91 cl6 (riv_sh hrr) (riv_pos hrr) (Nat.le_trans (riv_le hrr) hz) 7 rfl rfl (flN_X_157) (riv_g7 hG hrr) (Nat.succ_pos _) ?_
      refine z_iload_n dX10_leaver_94 rfl ?_
      obtain ⟨hg16, h⟩ := guardE h
      refine z_nm (fun hN17 => ?_)
      refine y_iald dX10_leaver_95 (riv_sh7 hrr) (Nat.succ_pos _) (Nat.le_trans (riv_le7 hrr) hz) hx1 hg16 ?_
      obtain rfl := someE h
      exact z_iret dX10_leaver_96 hE (hN17.1 (rv + 4) (x1).toNat) rfl
    replace h := ifF hc15 h
    by_cases hc18 : x2 = 4
    · replace h := ifT hc18 h
      refine z_tabIn (tgt := 97) dX10_leaver_11 4 hc18 hx2 (by decide) rfl (by decide) ?_
      refine z_aload_n dX10_leaver_97 rfl ?_
      refine y_getR dX10_leaver_98 cl10 sh_1 (by decide) (Nat.le_trans (by decide) hz) 5 rfl rfl (fl_X_40) (ly_1_5 hG) (by decide) ?_
      refine z_aload_n dX10_leaver_101 rfl ?_
      refine y_getR dX10_leaver_102 cl10 sh_1 (by decide) (Nat.le_trans (by decide) hz) 3 rfl rfl (fl_X_30) hrv (riv_pos hrr) ?_
      refine z_iload_n dX10_leaver_105 rfl ?_
      obtain ⟨q19, hq20, h⟩ := bindE h
      refine z_callV (As := [vR g rv, vI x1]) (rest := []) (s_B_mayThrow hz hG (is_49) hrr hx1 hq20) dX10_leaver_106 mw_B_mayThrow cl0 sh_49 (by decide) (Nat.le_trans (by decide) hz) ml_X_160 im_B_mayThrow se_B_mayThrow rfl rfl rfl rfl (Nat.le_refl _) (Nat.le_of_eq hb.symm) (fun hp21 => ?_)
      show Zt _ _ _ _ 109 _ [vI q19] (z, I, J, G)
      refine z_if_eq (tgt := 116) dX10_leaver_109 (by decide) (inR_bool hp21) (fun hc22 => ?_) (fun hc22 => ?_)
      · replace h := ifT hc22 h
        refine z_iconst dX10_leaver_116 ?_
        obtain rfl := someE h
        exact z_iret dX10_leaver_117 hE (inRd (x := 0) (by decide)) rfl
      replace h := ifF hc22 h
      refine z_iconst dX10_leaver_112 ?_
      refine z_goto (tgt := 117) dX10_leaver_113 (by decide) ?_
      obtain rfl := someE h
      exact z_iret dX10_leaver_117 hE (inRd (x := 1) (by decide)) rfl
    replace h := ifF hc18 h
    refine z_tabOut (tgt := 118) dX10_leaver_11 hx2 (by omega) (by decide) ?_
    refine z_iconst dX10_leaver_118 ?_
    obtain rfl := someE h
    exact z_iret dX10_leaver_119 hE (inRd (x := (-1)) (by decide)) rfl
  replace h := ifF (fun q => q hc4) h
  refine z_iconst dX10_leaver_8 ?_
  obtain rfl := someE h
  exact z_iret dX10_leaver_9 hE (inRd (x := (-1)) (by decide)) rfl
set_option maxHeartbeats 1000000 in
theorem t_X_countHeld_L4 {l : Launch} {g : GX} {φ : CX} {z : Nat} {G : Nat → Nat → Nat} {F : Nat} (hb : cb φ = z) (hz : 295 ≤ z) (hG : lyX G) {rv sp : Nat} (hrv : G 1 3 = rv) (hrr : isRiv rv) (hsp : G 1 4 = sp) (hss : isRiv sp) {x1 : Int} {x2 : Int} {I J : Nat → Nat → Int} (hx1 : inR x1) (hx2 : inR x2) {res : (Int) ⊕ (Int × Int)} (h : f_X_countHeld_L4 F x1 x2 I = some res) (kE : ∀ e : Int, res = .inl e → ((inR e) → Zt l g φ mu_X_countHeld 27 [none, some (vI e), none] [] (z, I, J, G))) (kS : ∀ s : Int × Int, res = .inr s → (inR s.1 ∧ inR s.2) → Zt l g φ mu_X_countHeld 4 [some (vR g 1), some (vI s.1), some (vI s.2)] [] (z, I, J, G)) : Zt l g φ mu_X_countHeld 4 [some (vR g 1), some (vI x1), some (vI x2)] [] (z, I, J, G) := by
  refine z_iload_n dX10_countHeld_4 rfl ?_
  refine z_iconst dX10_countHeld_5 ?_
  refine z_icmp_ge (tgt := 27) dX10_countHeld_6 (by decide) hx2 (inRd (x := 3) (by decide)) (fun hc1 => ?_) (fun hc1 => ?_)
  · replace h := ifT hc1 h
    refine z_weak (L' := [none, some (vI x1), none]) (lsN (lsS (lsN ls0))) ?_
    exact kE _ (someE h).symm hx1
  replace h := ifF hc1 h
  refine z_aload_n dX10_countHeld_9 rfl ?_
  refine y_getR dX10_countHeld_10 cl10 sh_1 (by decide) (Nat.le_trans (by decide) hz) 9 rfl rfl (fl_X_58) (ly_1_9 hG) (by decide) ?_
  refine z_iload_n dX10_countHeld_13 rfl ?_
  obtain ⟨hg2, h⟩ := guardE h
  refine z_nm (fun hN3 => ?_)
  refine y_zald dX10_countHeld_14 sh_241 (by decide) (Nat.le_trans (by decide) hz) hx2 hg2 ?_
  refine z_if_eq (tgt := 21) dX10_countHeld_15 (by decide) (hN3.1 241 (x2).toNat) (fun hc4 => ?_) (fun hc4 => ?_)
  · replace h := ifT hc4 h
    refine z_iinc (L' := [some (vR g 1), some (vI x1), some (vI (w32 (x2 + 1)))]) dX10_countHeld_21 rfl rfl rfl rfl ?_
    refine z_goto (tgt := 4) dX10_countHeld_24 (by decide) ?_
    exact kS _ (someE h).symm ⟨hx1, (inR_w32 _)⟩
  replace h := ifF hc4 h
  refine z_iinc (L' := [some (vR g 1), some (vI (w32 (x1 + 1))), some (vI x2)]) dX10_countHeld_18 rfl rfl rfl rfl ?_
  refine z_iinc (L' := [some (vR g 1), some (vI (w32 (x1 + 1))), some (vI (w32 (x2 + 1)))]) dX10_countHeld_21 rfl rfl rfl rfl ?_
  refine z_goto (tgt := 4) dX10_countHeld_24 (by decide) ?_
  exact kS _ (someE h).symm ⟨(inR_w32 _), (inR_w32 _)⟩
theorem l_X_countHeld_L4 {l : Launch} {g : GX} {φ : CX} {z : Nat} {G : Nat → Nat → Nat} {F : Nat} (hb : cb φ = z) (hz : 295 ≤ z) (hG : lyX G) {rv sp : Nat} (hrv : G 1 3 = rv) (hrr : isRiv rv) (hsp : G 1 4 = sp) (hss : isRiv sp) {I : Nat → Nat → Int} {J : Nat → Nat → Int} (n : Nat) (s : Int × Int) (e : Int) (h : iter (fun s : Int × Int => f_X_countHeld_L4 F s.1 s.2 I) n s = some e) (hs : inR s.1 ∧ inR s.2) (k : ((inR e) → Zt l g φ mu_X_countHeld 27 [none, some (vI e), none] [] (z, I, J, G))) : Zt l g φ mu_X_countHeld 4 [some (vR g 1), some (vI s.1), some (vI s.2)] [] (z, I, J, G) := by
  refine iter_ind (Z := fun s : Int × Int => Zt l g φ mu_X_countHeld 4 [some (vR g 1), some (vI s.1), some (vI s.2)] [] (z, I, J, G)) (ZE := fun e : Int => ((inR e) → Zt l g φ mu_X_countHeld 27 [none, some (vI e), none] [] (z, I, J, G))) (Rg := fun s : Int × Int => inR s.1 ∧ inR s.2) ?_ n s e h hs k
  intro s r hr hst kE kS
  exact t_X_countHeld_L4 hb hz hG hrv hrr hsp hss hr.1 hr.2 hst kE kS
set_option maxHeartbeats 1000000 in
theorem s_X_countHeld {l : Launch} {g : GX} {z : Nat} {G : Nat → Nat → Nat} {F : Nat} (hz : 295 ≤ z) (hG : lyX G) {rv sp : Nat} (hrv : G 1 3 = rv) (hrr : isRiv rv) (hsp : G 1 4 = sp) (hss : isRiv sp) {I J : Nat → Nat → Int} {res : Int} (h : f_X_countHeld F I = some res) : Spec l g 0 yX10_countHeld cX10_countHeld 3 (some .int) [vR g 1] (z, I, J, G) (some (vI res)) (inR res) (z, I, J, G) := by
  refine spec_of (μ := mu_X_countHeld) (k := 2) (L0 := [some (vR g 1), none, none]) rfl mw_X_countHeld rfl rfl (Nat.le_refl _) (fun φ hb hE => ?_)
  refine z_iconst dX10_countHeld_0 ?_
  refine z_istore_n (L' := [some (vR g 1), some (vI 0), none]) dX10_countHeld_1 rfl rfl rfl ?_
  refine z_iconst dX10_countHeld_2 ?_
  refine z_istore_n (L' := [some (vR g 1), some (vI 0), some (vI 0)]) dX10_countHeld_3 rfl rfl rfl ?_
  obtain ⟨e5, h6, h⟩ := bindE h
  refine l_X_countHeld_L4 hb hz hG hrv hrr hsp hss  _ _ _ h6 ⟨(inRd (x := 0) (by decide)), (inRd (x := 0) (by decide))⟩ ?_
  refine fun h7 => ?_
  refine z_iload_n dX10_countHeld_27 rfl ?_
  obtain rfl := someE h
  exact z_iret dX10_countHeld_28 hE h7 rfl
set_option maxHeartbeats 1000000 in
theorem s_X_count {l : Launch} {g : GX} {z : Nat} {G : Nat → Nat → Nat} {F : Nat} (hz : 295 ≤ z) (hG : lyX G) {rv sp : Nat} (hrv : G 1 3 = rv) (hrr : isRiv rv) (hsp : G 1 4 = sp) (hss : isRiv sp) {x1 : Int} {I J : Nat → Nat → Int} (hx1 : inR x1) {res : Int} (h : f_X_count F x1 rv I = some res) : Spec l g 2 yX10_count cX10_count 2 (some .int) [vR g 1, vI x1] (z, I, J, G) (some (vI res)) (inR res) (z, I, J, G) := by
  refine spec_of (μ := mu_X_count) (k := 0) (L0 := [some (vR g 1), some (vI x1)]) rfl mw_X_count rfl rfl (Nat.le_refl _) (fun φ hb hE => ?_)
  refine z_iload_n dX10_count_0 rfl ?_
  by_cases hc1 : x1 = 0
  · replace h := ifT hc1 h
    refine z_tabIn (tgt := 68) dX10_count_1 0 hc1 hx1 (by decide) rfl (by decide) ?_
    refine z_aload_n dX10_count_68 rfl ?_
    refine y_getR dX10_count_69 cl10 sh_1 (by decide) (Nat.le_trans (by decide) hz) 3 rfl rfl (fl_X_30) hrv (riv_pos hrr) ?_
    refine z_nm (fun hN2 => ?_)
    refine y_getNI (host := "FarewellStones") dX10_count_72 cl6 (riv_sh hrr) (riv_pos hrr) (Nat.le_trans (riv_le hrr) hz) 0 rfl rfl (flN_X_163) ?_
    obtain rfl := someE h
    exact z_iret dX10_count_75 hE (hN2.1 rv 0) rfl
  replace h := ifF hc1 h
  by_cases hc3 : x1 = 1
  · replace h := ifT hc3 h
    refine z_tabIn (tgt := 76) dX10_count_1 1 hc3 hx1 (by decide) rfl (by decide) ?_
    refine z_aload_n dX10_count_76 rfl ?_
    refine y_getR dX10_count_77 cl10 sh_1 (by decide) (Nat.le_trans (by decide) hz) 3 rfl rfl (fl_X_30) hrv (riv_pos hrr) ?_
    refine z_nm (fun hN4 => ?_)
    refine y_getNI (host := "FarewellStones") dX10_count_80 cl6 (riv_sh hrr) (riv_pos hrr) (Nat.le_trans (riv_le hrr) hz) 1 rfl rfl (flN_X_166) ?_
    obtain rfl := someE h
    exact z_iret dX10_count_83 hE (hN4.1 rv 1) rfl
  replace h := ifF hc3 h
  by_cases hc5 : x1 = 2
  · replace h := ifT hc5 h
    refine z_tabIn (tgt := 84) dX10_count_1 2 hc5 hx1 (by decide) rfl (by decide) ?_
    refine z_aload_n dX10_count_84 rfl ?_
    refine y_getR dX10_count_85 cl10 sh_1 (by decide) (Nat.le_trans (by decide) hz) 3 rfl rfl (fl_X_30) hrv (riv_pos hrr) ?_
    refine z_nm (fun hN6 => ?_)
    refine y_getNI (host := "FarewellStones") dX10_count_88 cl6 (riv_sh hrr) (riv_pos hrr) (Nat.le_trans (riv_le hrr) hz) 2 rfl rfl (flN_X_169) ?_
    obtain rfl := someE h
    exact z_iret dX10_count_91 hE (hN6.1 rv 2) rfl
  replace h := ifF hc5 h
  by_cases hc7 : x1 = 3
  · replace h := ifT hc7 h
    refine z_tabIn (tgt := 92) dX10_count_1 3 hc7 hx1 (by decide) rfl (by decide) ?_
    refine z_aload_n dX10_count_92 rfl ?_
    refine y_getR dX10_count_93 cl10 sh_1 (by decide) (Nat.le_trans (by decide) hz) 3 rfl rfl (fl_X_30) hrv (riv_pos hrr) ?_
    refine z_nm (fun hN8 => ?_)
    refine y_getNI (host := "FarewellStones") dX10_count_96 cl6 (riv_sh hrr) (riv_pos hrr) (Nat.le_trans (riv_le hrr) hz) 5 rfl rfl (flN_X_172) ?_
    obtain rfl := someE h
    exact z_iret dX10_count_99 hE (hN8.1 rv 5) rfl
  replace h := ifF hc7 h
  by_cases hc9 : x1 = 4
  · replace h := ifT hc9 h
    refine z_tabIn (tgt := 100) dX10_count_1 4 hc9 hx1 (by decide) rfl (by decide) ?_
    refine z_aload_n dX10_count_100 rfl ?_
    refine y_getR dX10_count_101 cl10 sh_1 (by decide) (Nat.le_trans (by decide) hz) 3 rfl rfl (fl_X_30) hrv (riv_pos hrr) ?_
    refine z_nm (fun hN10 => ?_)
    refine y_getNI (host := "FarewellStones") dX10_count_104 cl6 (riv_sh hrr) (riv_pos hrr) (Nat.le_trans (riv_le hrr) hz) 10 rfl rfl (flN_X_175) ?_
    obtain rfl := someE h
    exact z_iret dX10_count_107 hE (hN10.1 rv 10) rfl
  replace h := ifF hc9 h
  by_cases hc11 : x1 = 5
  · replace h := ifT hc11 h
    refine z_tabIn (tgt := 108) dX10_count_1 5 hc11 hx1 (by decide) rfl (by decide) ?_
    refine z_aload_n dX10_count_108 rfl ?_
    refine y_getR dX10_count_109 cl10 sh_1 (by decide) (Nat.le_trans (by decide) hz) 5 rfl rfl (fl_X_40) (ly_1_5 hG) (by decide) ?_
    refine z_nm (fun hN12 => ?_)
    refine y_getNI (host := "FarewellStones") dX10_count_112 cl0 sh_49 (by decide) (Nat.le_trans (by decide) hz) 0 rfl rfl (flN_X_178) ?_
    obtain rfl := someE h
    exact z_iret dX10_count_115 hE (hN12.1 49 0) rfl
  replace h := ifF hc11 h
  by_cases hc13 : x1 = 6
  · replace h := ifT hc13 h
    refine z_tabIn (tgt := 116) dX10_count_1 6 hc13 hx1 (by decide) rfl (by decide) ?_
    refine z_aload_n dX10_count_116 rfl ?_
    refine y_getR dX10_count_117 cl10 sh_1 (by decide) (Nat.le_trans (by decide) hz) 5 rfl rfl (fl_X_40) (ly_1_5 hG) (by decide) ?_
    obtain ⟨q14, hq15, h⟩ := bindE h
    refine z_callV (As := []) (rest := []) (s_B_countLying hz hG (is_49) hq15) dX10_count_120 mw_B_countLying cl0 sh_49 (by decide) (Nat.le_trans (by decide) hz) ml_X_181 im_B_countLying se_B_countLying rfl rfl rfl rfl (Nat.le_refl _) (Nat.le_of_eq hb.symm) (fun hp16 => ?_)
    show Zt _ _ _ _ 123 _ [vI q14] (z, I, J, G)
    obtain rfl := someE h
    exact z_iret dX10_count_123 hE hp16 rfl
  replace h := ifF hc13 h
  by_cases hc17 : x1 = 7
  · replace h := ifT hc17 h
    refine z_tabIn (tgt := 124) dX10_count_1 7 hc17 hx1 (by decide) rfl (by decide) ?_
    refine z_aload_n dX10_count_124 rfl ?_
    refine y_getR dX10_count_125 cl10 sh_1 (by decide) (Nat.le_trans (by decide) hz) 5 rfl rfl (fl_X_40) (ly_1_5 hG) (by decide) ?_
    obtain ⟨q18, hq19, h⟩ := bindE h
    refine z_callV (As := []) (rest := []) (s_B_countLost hz hG (is_49) hq19) dX10_count_128 mw_B_countLost cl0 sh_49 (by decide) (Nat.le_trans (by decide) hz) ml_X_184 im_B_countLost se_B_countLost rfl rfl rfl rfl (Nat.le_refl _) (Nat.le_of_eq hb.symm) (fun hp20 => ?_)
    show Zt _ _ _ _ 131 _ [vI q18] (z, I, J, G)
    obtain rfl := someE h
    exact z_iret dX10_count_131 hE hp20 rfl
  replace h := ifF hc17 h
  by_cases hc21 : x1 = 8
  · replace h := ifT hc21 h
    refine z_tabIn (tgt := 132) dX10_count_1 8 hc21 hx1 (by decide) rfl (by decide) ?_
    refine z_aload_n dX10_count_132 rfl ?_
    refine y_getR dX10_count_133 cl10 sh_1 (by decide) (Nat.le_trans (by decide) hz) 5 rfl rfl (fl_X_40) (ly_1_5 hG) (by decide) ?_
    refine z_aload_n dX10_count_136 rfl ?_
    refine y_getR dX10_count_137 cl10 sh_1 (by decide) (Nat.le_trans (by decide) hz) 3 rfl rfl (fl_X_30) hrv (riv_pos hrr) ?_
    obtain ⟨q22, hq23, h⟩ := bindE h
    refine z_callV (As := [vR g rv]) (rest := []) (s_B_countSteps hz hG (is_49) hrr hq23) dX10_count_140 mw_B_countSteps cl0 sh_49 (by decide) (Nat.le_trans (by decide) hz) ml_X_187 im_B_countSteps se_B_countSteps rfl rfl rfl rfl (Nat.le_refl _) (Nat.le_of_eq hb.symm) (fun hp24 => ?_)
    show Zt _ _ _ _ 143 _ [vI q22] (z, I, J, G)
    obtain rfl := someE h
    exact z_iret dX10_count_143 hE hp24 rfl
  replace h := ifF hc21 h
  by_cases hc25 : x1 = 9
  · replace h := ifT hc25 h
    refine z_tabIn (tgt := 144) dX10_count_1 9 hc25 hx1 (by decide) rfl (by decide) ?_
    refine z_aload_n dX10_count_144 rfl ?_
    refine y_getR dX10_count_145 cl10 sh_1 (by decide) (Nat.le_trans (by decide) hz) 0 rfl rfl (fl_X_12) (ly_1_0 hG) (by decide) ?_
    refine z_nm (fun hN26 => ?_)
    refine y_getNI (host := "FarewellStones") dX10_count_148 cl7 sh_2 (by decide) (Nat.le_trans (by decide) hz) 1 rfl rfl (flN_X_96) ?_
    obtain rfl := someE h
    exact z_iret dX10_count_151 hE (hN26.1 2 1) rfl
  replace h := ifF hc25 h
  by_cases hc27 : x1 = 10
  · replace h := ifT hc27 h
    refine z_tabIn (tgt := 152) dX10_count_1 10 hc27 hx1 (by decide) rfl (by decide) ?_
    refine z_aload_n dX10_count_152 rfl ?_
    refine y_getR dX10_count_153 cl10 sh_1 (by decide) (Nat.le_trans (by decide) hz) 7 rfl rfl (fl_X_50) (ly_1_7 hG) (by decide) ?_
    refine z_nm (fun hN28 => ?_)
    refine y_getNI (host := "FarewellStones") dX10_count_156 cl4 sh_63 (by decide) (Nat.le_trans (by decide) hz) 2 rfl rfl (flN_X_191) ?_
    obtain rfl := someE h
    exact z_iret dX10_count_159 hE (hN28.1 63 2) rfl
  replace h := ifF hc27 h
  by_cases hc29 : x1 = 11
  · replace h := ifT hc29 h
    refine z_tabIn (tgt := 160) dX10_count_1 11 hc29 hx1 (by decide) rfl (by decide) ?_
    refine z_aload_n dX10_count_160 rfl ?_
    refine z_nm (fun hN30 => ?_)
    refine y_getI dX10_count_161 cl10 sh_1 (by decide) (Nat.le_trans (by decide) hz) 12 rfl rfl (fl_X_112) ?_
    obtain rfl := someE h
    exact z_iret dX10_count_164 hE (hN30.1 1 12) rfl
  replace h := ifF hc29 h
  by_cases hc31 : x1 = 12
  · replace h := ifT hc31 h
    refine z_tabIn (tgt := 165) dX10_count_1 12 hc31 hx1 (by decide) rfl (by decide) ?_
    refine z_aload_n dX10_count_165 rfl ?_
    obtain ⟨q32, hq33, h⟩ := bindE h
    refine z_callV (As := []) (rest := []) (s_X_countHeld hz hG hrv hrr hsp hss  hq33) dX10_count_166 mw_X_countHeld cl10 sh_1 (by decide) (Nat.le_trans (by decide) hz) ml_X_194 im_X_countHeld se_X_countHeld rfl rfl rfl rfl (Nat.le_refl _) (Nat.le_of_eq hb.symm) (fun hp34 => ?_)
    show Zt _ _ _ _ 169 _ [vI q32] (z, I, J, G)
    obtain rfl := someE h
    exact z_iret dX10_count_169 hE hp34 rfl
  replace h := ifF hc31 h
  refine z_tabOut (tgt := 170) dX10_count_1 hx1 (by omega) (by decide) ?_
  refine z_iconst dX10_count_170 ?_
  obtain rfl := someE h
  exact z_iret dX10_count_171 hE (inRd (x := (-1)) (by decide)) rfl
set_option maxHeartbeats 1000000 in
theorem s_X_cellName {l : Launch} {g : GX} {z : Nat} {G : Nat → Nat → Nat} {F : Nat} (hz : 295 ≤ z) (hG : lyX G) {x0 : Int} {I J : Nat → Nat → Int} (hx0 : inR x0) {res : Int} (h : f_X_cellName F x0 I = some res) : Spec l g 0 yX10_cellName cX10_cellName 1 (some .int) [vI x0] (z, I, J, G) (some (vI res)) (inR res) (z, I, J, G) := by
  refine spec_of (μ := mu_X_cellName) (k := 0) (L0 := [some (vI x0)]) rfl mw_X_cellName rfl rfl (Nat.le_refl _) (fun φ hb hE => ?_)
  refine z_bipush dX10_cellName_0 (by decide +kernel) ?_
  refine z_iload_n dX10_cellName_2 rfl ?_
  refine z_bipush dX10_cellName_3 (by decide +kernel) ?_
  refine z_idiv dX10_cellName_5 (inRd (x := 12) (by decide)) (by decide) ?_
  refine z_imul dX10_cellName_6 ?_
  refine z_iload_n dX10_cellName_7 rfl ?_
  refine z_bipush dX10_cellName_8 (by decide +kernel) ?_
  refine z_irem dX10_cellName_10 (inRd (x := 12) (by decide)) (by decide) ?_
  refine z_iadd dX10_cellName_11 ?_
  obtain rfl := someE h
  exact z_iret dX10_cellName_12 hE (inR_w32 _) rfl
set_option maxHeartbeats 1000000 in
theorem s_X_hurl {l : Launch} {g : GX} {z : Nat} {G : Nat → Nat → Nat} {F : Nat} (hz : 295 ≤ z) (hG : lyX G) {rv sp : Nat} (hrv : G 1 3 = rv) (hrr : isRiv rv) (hsp : G 1 4 = sp) (hss : isRiv sp) {x1 : Int} {x2 : Int} {x3 : Int} {I J : Nat → Nat → Int} (hx1 : inR x1) (hx2 : inR x2) (hx3 : inR x3) {res : Int × MI} (h : f_X_hurl F x1 x2 x3 rv I = some res) : Spec l g 16 yX10_hurl cX10_hurl 5 (some .int) [vR g 1, vI x1, vI x2, vI x3] (z, I, J, G) (some (vI res.1)) (inR res.1) (z, res.2, J, G) := by
  refine spec_of (μ := mu_X_hurl) (k := 1) (L0 := [some (vR g 1), some (vI x1), some (vI x2), some (vI x3), none]) rfl mw_X_hurl rfl rfl (Nat.le_refl _) (fun φ hb hE => ?_)
  refine z_aload_n dX10_hurl_0 rfl ?_
  refine z_iload_n dX10_hurl_1 rfl ?_
  obtain ⟨q1, hq2, h⟩ := bindE h
  refine z_callV (As := [vI x1]) (rest := []) (s_X_isLeaver hz hG hrv hrr hsp hss hx1 hq2) dX10_hurl_2 mw_X_isLeaver cl10 sh_1 (by decide) (Nat.le_trans (by decide) hz) ml_X_144 im_X_isLeaver se_X_isLeaver rfl rfl rfl rfl (Nat.le_refl _) (Nat.le_of_eq hb.symm) (fun hp3 => ?_)
  show Zt _ _ _ _ 5 _ [vI q1] (z, I, J, G)
  refine z_if_eq (tgt := 35) dX10_hurl_5 (by decide) (inR_bool hp3) (fun hc4 => ?_) (fun hc4 => ?_)
  · replace h := ifT hc4 h
    refine z_iconst dX10_hurl_35 ?_
    obtain rfl := someE h
    exact z_iret dX10_hurl_36 hE (inRd (x := (-1)) (by decide)) rfl
  replace h := ifF hc4 h
  refine z_aload_n dX10_hurl_8 rfl ?_
  refine y_getR dX10_hurl_9 cl10 sh_1 (by decide) (Nat.le_trans (by decide) hz) 3 rfl rfl (fl_X_30) hrv (riv_pos hrr) ?_
  refine z_iload_n dX10_hurl_12 rfl ?_
  refine z_iload_n dX10_hurl_13 rfl ?_
  obtain ⟨q5, hq6, h⟩ := bindE h
  refine z_callV (As := [vI x2, vI x3]) (rest := []) (s_R_has hz hG hrr hx2 hx3 hq6) dX10_hurl_14 mw_R_has cl6 (riv_sh hrr) (riv_pos hrr) (Nat.le_trans (riv_le hrr) hz) ml_X_115 im_R_has se_R_has rfl rfl rfl rfl (Nat.le_refl _) (Nat.le_of_eq hb.symm) (fun hp7 => ?_)
  show Zt _ _ _ _ 17 _ [vI q5] (z, I, J, G)
  refine z_if_eq (tgt := 35) dX10_hurl_17 (by decide) (inR_bool hp7) (fun hc8 => ?_) (fun hc8 => ?_)
  · replace h := ifT hc8 h
    refine z_iconst dX10_hurl_35 ?_
    obtain rfl := someE h
    exact z_iret dX10_hurl_36 hE (inRd (x := (-1)) (by decide)) rfl
  replace h := ifF hc8 h
  refine z_aload_n dX10_hurl_20 rfl ?_
  refine y_getR dX10_hurl_21 cl10 sh_1 (by decide) (Nat.le_trans (by decide) hz) 5 rfl rfl (fl_X_40) (ly_1_5 hG) (by decide) ?_
  refine z_aload_n dX10_hurl_24 rfl ?_
  refine y_getR dX10_hurl_25 cl10 sh_1 (by decide) (Nat.le_trans (by decide) hz) 3 rfl rfl (fl_X_30) hrv (riv_pos hrr) ?_
  refine z_iload_n dX10_hurl_28 rfl ?_
  obtain ⟨q9, hq10, h⟩ := bindE h
  refine z_callV (As := [vR g rv, vI x1]) (rest := []) (s_B_mayThrow hz hG (is_49) hrr hx1 hq10) dX10_hurl_29 mw_B_mayThrow cl0 sh_49 (by decide) (Nat.le_trans (by decide) hz) ml_X_160 im_B_mayThrow se_B_mayThrow rfl rfl rfl rfl (Nat.le_refl _) (Nat.le_of_eq hb.symm) (fun hp11 => ?_)
  show Zt _ _ _ _ 32 _ [vI q9] (z, I, J, G)
  refine z_if_ne (tgt := 37) dX10_hurl_32 (by decide) (inR_bool hp11) (fun hc12 => ?_) (fun hc12 => ?_)
  · replace h := ifT hc12 h
    refine z_aload_n dX10_hurl_37 rfl ?_
    refine y_getR dX10_hurl_38 cl10 sh_1 (by decide) (Nat.le_trans (by decide) hz) 7 rfl rfl (fl_X_50) (ly_1_7 hG) (by decide) ?_
    refine z_aload_n dX10_hurl_41 rfl ?_
    refine y_getR dX10_hurl_42 cl10 sh_1 (by decide) (Nat.le_trans (by decide) hz) 5 rfl rfl (fl_X_40) (ly_1_5 hG) (by decide) ?_
    obtain ⟨q13, hq14, h⟩ := bindE h
    refine z_callV (As := [vR g 49]) (rest := []) (s_P_keep hz hG (is_49) hq14) dX10_hurl_45 mw_P_keep cl4 sh_63 (by decide) (Nat.le_trans (by decide) hz) ml_X_197 im_P_keep se_P_keep rfl rfl rfl rfl (Nat.le_refl _) (Nat.le_of_eq hb.symm) (fun hp15 => ?_)
    show Zt _ _ _ _ 48 _ [] (z, q13, J, G)
    refine z_aload_n dX10_hurl_48 rfl ?_
    refine y_getR dX10_hurl_49 cl10 sh_1 (by decide) (Nat.le_trans (by decide) hz) 5 rfl rfl (fl_X_40) (ly_1_5 hG) (by decide) ?_
    refine z_aload_n dX10_hurl_52 rfl ?_
    refine y_getR dX10_hurl_53 cl10 sh_1 (by decide) (Nat.le_trans (by decide) hz) 3 rfl rfl (fl_X_30) hrv (riv_pos hrr) ?_
    refine z_iload_n dX10_hurl_56 rfl ?_
    refine z_iload_n dX10_hurl_57 rfl ?_
    refine z_iload_n dX10_hurl_58 rfl ?_
    obtain ⟨q16, hq17, h⟩ := bindE h
    refine z_callV (As := [vR g rv, vI x1, vI x2, vI x3]) (rest := []) (s_B_throwStone hz hG (is_49) hrr hx1 hx2 hx3 hq17) dX10_hurl_59 mw_B_throwStone cl0 sh_49 (by decide) (Nat.le_trans (by decide) hz) ml_X_201 im_B_throwStone se_B_throwStone rfl rfl rfl rfl (Nat.le_refl _) (Nat.le_of_eq hb.symm) (fun hp18 => ?_)
    show Zt _ _ _ _ 62 _ [vI q16.1] (z, q16.2, J, G)
    refine z_istore (L' := [some (vR g 1), some (vI x1), some (vI x2), some (vI x3), some (vI q16.1)]) dX10_hurl_62 rfl rfl rfl ?_
    refine z_iload dX10_hurl_64 rfl ?_
    refine z_bipush dX10_hurl_66 (by decide +kernel) ?_
    refine z_icmp_ne (tgt := 76) dX10_hurl_68 (by decide) hp18 (inRd (x := (-2)) (by decide)) (fun hc19 => ?_) (fun hc19 => ?_)
    · replace h := ifT hc19 h
      refine z_sipush dX10_hurl_76 (by decide +kernel) ?_
      refine z_iload dX10_hurl_79 rfl ?_
      obtain ⟨q20, hq21, h⟩ := bindE h
      refine z_callS (As := [vI q16.1]) (rest := [vI 1000]) (s_X_cellName hz hG hp18 hq21) dX10_hurl_81 mw_X_cellName ml_X_205 st_X_cellName rfl rfl rfl rfl (Nat.le_refl _) (Nat.le_of_eq hb.symm) (fun hp22 => ?_)
      show Zt _ _ _ _ 84 _ [vI q20, vI 1000] (z, q16.2, J, G)
      refine z_iadd dX10_hurl_84 ?_
      obtain rfl := someE h
      exact z_iret dX10_hurl_85 hE (inR_w32 _) rfl
    replace h := ifF (fun q => q hc19) h
    refine z_bipush dX10_hurl_71 (by decide +kernel) ?_
    refine z_goto (tgt := 85) dX10_hurl_73 (by decide) ?_
    obtain rfl := someE h
    exact z_iret dX10_hurl_85 hE (inRd (x := (-2)) (by decide)) rfl
  replace h := ifF (fun q => q hc12) h
  refine z_iconst dX10_hurl_35 ?_
  obtain rfl := someE h
  exact z_iret dX10_hurl_36 hE (inRd (x := (-1)) (by decide)) rfl
set_option maxHeartbeats 1000000 in
theorem t_X_days_b47 {l : Launch} {g : GX} {φ : CX} {z : Nat} {G : Nat → Nat → Nat} {F : Nat} (hb : cb φ = z) (hz : 295 ≤ z) (hG : lyX G) {rv sp : Nat} (hrv : G 1 3 = rv) (hrr : isRiv rv) (hsp : G 1 4 = sp) (hss : isRiv sp) {I J : Nat → Nat → Int} {res : Int × MI} (h : f_X_days_b47 F rv I = some res) (hE : ends g φ (some .int) (some (vI res.1)) (inR res.1) (z, res.2, J, G)) : Zt l g φ mu_X_days 47 [some (vR g 1), none] [] (z, I, J, G) := by
  refine z_aload_n dX10_days_47 rfl ?_
  refine y_getR dX10_days_48 cl10 sh_1 (by decide) (Nat.le_trans (by decide) hz) 5 rfl rfl (fl_X_40) (ly_1_5 hG) (by decide) ?_
  refine z_nm (fun hN4 => ?_)
  refine y_getNI (host := "FarewellStones") dX10_days_51 cl0 sh_49 (by decide) (Nat.le_trans (by decide) hz) 0 rfl rfl (flN_X_178) ?_
  obtain rfl := someE h
  exact z_iret dX10_days_54 hE (hN4.1 49 0) rfl
set_option maxHeartbeats 1000000 in
theorem s_X_days {l : Launch} {g : GX} {z : Nat} {G : Nat → Nat → Nat} {F : Nat} (hz : 295 ≤ z) (hG : lyX G) {rv sp : Nat} (hrv : G 1 3 = rv) (hrr : isRiv rv) (hsp : G 1 4 = sp) (hss : isRiv sp) {x1 : Int} {I J : Nat → Nat → Int} (hx1 : inR x1) {res : Int × MI} (h : f_X_days F x1 rv I = some res) : Spec l g 18 yX10_days cX10_days 2 (some .int) [vR g 1, vI x1] (z, I, J, G) (some (vI res.1)) (inR res.1) (z, res.2, J, G) := by
  refine spec_of (μ := mu_X_days) (k := 0) (L0 := [some (vR g 1), some (vI x1)]) rfl mw_X_days rfl rfl (Nat.le_refl _) (fun φ hb hE => ?_)
  refine z_iload_n dX10_days_0 rfl ?_
  refine z_if_lt (tgt := 10) dX10_days_1 (by decide) hx1 (fun hc1 => ?_) (fun hc1 => ?_)
  · replace h := ifT hc1 h
    refine z_iconst dX10_days_10 ?_
    obtain rfl := someE h
    exact z_iret dX10_days_11 hE (inRd (x := (-1)) (by decide)) rfl
  replace h := ifF hc1 h
  refine z_iload_n dX10_days_4 rfl ?_
  refine z_bipush dX10_days_5 (by decide +kernel) ?_
  refine z_icmp_le (tgt := 12) dX10_days_7 (by decide) hx1 (inRd (x := 100) (by decide)) (fun hc2 => ?_) (fun hc2 => ?_)
  · replace h := ifT hc2 h
    refine z_iload_n dX10_days_12 rfl ?_
    refine z_if_le (tgt := 47) dX10_days_13 (by decide) hx1 (fun hc3 => ?_) (fun hc3 => ?_)
    · replace h := ifT hc3 h
      refine z_weak (L' := [some (vR g 1), none]) (lsS (lsN ls0)) ?_
      exact t_X_days_b47 hb hz hG hrv hrr hsp hss  h hE
    replace h := ifF hc3 h
    refine z_aload_n dX10_days_16 rfl ?_
    refine y_getR dX10_days_17 cl10 sh_1 (by decide) (Nat.le_trans (by decide) hz) 7 rfl rfl (fl_X_50) (ly_1_7 hG) (by decide) ?_
    refine z_aload_n dX10_days_20 rfl ?_
    refine y_getR dX10_days_21 cl10 sh_1 (by decide) (Nat.le_trans (by decide) hz) 5 rfl rfl (fl_X_40) (ly_1_5 hG) (by decide) ?_
    obtain ⟨q5, hq6, h⟩ := bindE h
    refine z_callV (As := [vR g 49]) (rest := []) (s_P_keep hz hG (is_49) hq6) dX10_days_24 mw_P_keep cl4 sh_63 (by decide) (Nat.le_trans (by decide) hz) ml_X_197 im_P_keep se_P_keep rfl rfl rfl rfl (Nat.le_refl _) (Nat.le_of_eq hb.symm) (fun hp7 => ?_)
    show Zt _ _ _ _ 27 _ [] (z, q5, J, G)
    refine z_aload_n dX10_days_27 rfl ?_
    refine y_getR dX10_days_28 cl10 sh_1 (by decide) (Nat.le_trans (by decide) hz) 5 rfl rfl (fl_X_40) (ly_1_5 hG) (by decide) ?_
    refine z_aload_n dX10_days_31 rfl ?_
    refine y_getR dX10_days_32 cl10 sh_1 (by decide) (Nat.le_trans (by decide) hz) 3 rfl rfl (fl_X_30) hrv (riv_pos hrr) ?_
    refine z_iload_n dX10_days_35 rfl ?_
    refine z_iconst dX10_days_36 ?_
    refine z_aload_n dX10_days_37 rfl ?_
    refine y_getR dX10_days_38 cl10 sh_1 (by decide) (Nat.le_trans (by decide) hz) 3 rfl rfl (fl_X_30) hrv (riv_pos hrr) ?_
    refine z_nm (fun hN8 => ?_)
    refine y_getNI (host := "FarewellStones") dX10_days_41 cl6 (riv_sh hrr) (riv_pos hrr) (Nat.le_trans (riv_le hrr) hz) 1 rfl rfl (flN_X_166) ?_
    obtain ⟨q9, hq10, h⟩ := bindE h
    refine z_callV (As := [vR g rv, vI x1, vI 0, vI (q5 rv 1)]) (rest := []) (s_B_passDays hz hG (is_49) hrr hx1 (inRd (x := 0) (by decide)) (hN8.1 rv 1) hq10) dX10_days_44 mw_B_passDays cl0 sh_49 (by decide) (Nat.le_trans (by decide) hz) ml_X_208 im_B_passDays se_B_passDays rfl rfl rfl rfl (Nat.le_refl _) (Nat.le_of_eq hb.symm) (fun hp11 => ?_)
    show Zt _ _ _ _ 47 _ [] (z, q9, J, G)
    refine z_weak (L' := [some (vR g 1), none]) (lsS (lsN ls0)) ?_
    exact t_X_days_b47 hb hz hG hrv hrr hsp hss  h hE
  replace h := ifF hc2 h
  refine z_iconst dX10_days_10 ?_
  obtain rfl := someE h
  exact z_iret dX10_days_11 hE (inRd (x := (-1)) (by decide)) rfl
set_option maxHeartbeats 1000000 in
theorem s_X_undo {l : Launch} {g : GX} {z : Nat} {G : Nat → Nat → Nat} {F : Nat} (hz : 295 ≤ z) (hG : lyX G) {rv sp : Nat} (hrv : G 1 3 = rv) (hrr : isRiv rv) (hsp : G 1 4 = sp) (hss : isRiv sp) {I J : Nat → Nat → Int} {res : Int × MI} (h : f_X_undo F I = some res) : Spec l g 16 yX10_undo cX10_undo 1 (some .boolean) [vR g 1] (z, I, J, G) (some (vI res.1)) (res.1 = 0 ∨ res.1 = 1) (z, res.2, J, G) := by
  refine spec_of (μ := mu_X_undo) (k := 0) (L0 := [some (vR g 1)]) rfl mw_X_undo rfl rfl (Nat.le_refl _) (fun φ hb hE => ?_)
  refine z_aload_n dX10_undo_0 rfl ?_
  refine y_getR dX10_undo_1 cl10 sh_1 (by decide) (Nat.le_trans (by decide) hz) 7 rfl rfl (fl_X_50) (ly_1_7 hG) (by decide) ?_
  refine z_aload_n dX10_undo_4 rfl ?_
  refine y_getR dX10_undo_5 cl10 sh_1 (by decide) (Nat.le_trans (by decide) hz) 5 rfl rfl (fl_X_40) (ly_1_5 hG) (by decide) ?_
  obtain ⟨q1, hq2, h⟩ := bindE h
  refine z_callV (As := [vR g 49]) (rest := []) (s_P_bringBack hz hG (is_49) hq2) dX10_undo_8 mw_P_bringBack cl4 sh_63 (by decide) (Nat.le_trans (by decide) hz) ml_X_212 im_P_bringBack se_P_bringBack rfl rfl rfl rfl (Nat.le_refl _) (Nat.le_of_eq hb.symm) (fun hp3 => ?_)
  show Zt _ _ _ _ 11 _ [vI q1.1] (z, q1.2, J, G)
  obtain rfl := someE h
  exact z_zret dX10_undo_11 hE hp3 hp3 rfl
set_option maxHeartbeats 1000000 in
theorem s_X_hold {l : Launch} {g : GX} {z : Nat} {G : Nat → Nat → Nat} {F : Nat} (hz : 295 ≤ z) (hG : lyX G) {rv sp : Nat} (hrv : G 1 3 = rv) (hrr : isRiv rv) (hsp : G 1 4 = sp) (hss : isRiv sp) {x1 : Int} {I J : Nat → Nat → Int} (hx1 : inR x1) {res : Int × MI} (h : f_X_hold F x1 I = some res) : Spec l g 15 yX10_hold cX10_hold 2 (some .boolean) [vR g 1, vI x1] (z, I, J, G) (some (vI res.1)) (res.1 = 0 ∨ res.1 = 1) (z, res.2, J, G) := by
  refine spec_of (μ := mu_X_hold) (k := 0) (L0 := [some (vR g 1), some (vI x1)]) rfl mw_X_hold rfl rfl (Nat.le_refl _) (fun φ hb hE => ?_)
  refine z_iload_n dX10_hold_0 rfl ?_
  refine z_if_lt (tgt := 9) dX10_hold_1 (by decide) hx1 (fun hc1 => ?_) (fun hc1 => ?_)
  · replace h := ifT hc1 h
    refine z_iconst dX10_hold_9 ?_
    obtain rfl := someE h
    exact z_zret dX10_hold_10 hE b01_0 b01_0 rfl
  replace h := ifF hc1 h
  refine z_iload_n dX10_hold_4 rfl ?_
  refine z_iconst dX10_hold_5 ?_
  refine z_icmp_lt (tgt := 11) dX10_hold_6 (by decide) hx1 (inRd (x := 3) (by decide)) (fun hc2 => ?_) (fun hc2 => ?_)
  · replace h := ifT hc2 h
    refine z_aload_n dX10_hold_11 rfl ?_
    refine y_getR dX10_hold_12 cl10 sh_1 (by decide) (Nat.le_trans (by decide) hz) 8 rfl rfl (fl_X_54) (ly_1_8 hG) (by decide) ?_
    refine z_iload_n dX10_hold_15 rfl ?_
    obtain ⟨hg3, h⟩ := guardE h
    refine y_aald dX10_hold_16 sh_240 (by decide) (Nat.le_trans (by decide) hz) hx1 hg3 (ly_slots hG hg3) (bed_pos (bed_slots hg3)) ?_
    refine z_aload_n dX10_hold_17 rfl ?_
    refine y_getR dX10_hold_18 cl10 sh_1 (by decide) (Nat.le_trans (by decide) hz) 5 rfl rfl (fl_X_40) (ly_1_5 hG) (by decide) ?_
    obtain ⟨q4, hq5, h⟩ := bindE h
    refine z_callV (As := [vR g 49]) (rest := []) (s_B_copyFrom hz hG (bed_slots hg3) (is_49) hq5) dX10_hold_21 mw_B_copyFrom cl0 (bed_sh (bed_slots hg3)) (bed_pos (bed_slots hg3)) (Nat.le_trans (bed_le (bed_slots hg3)) hz) ml_X_216 im_B_copyFrom se_B_copyFrom rfl rfl rfl rfl (Nat.le_refl _) (Nat.le_of_eq hb.symm) (fun hp6 => ?_)
    show Zt _ _ _ _ 24 _ [] (z, q4, J, G)
    refine z_aload_n dX10_hold_24 rfl ?_
    refine y_getR dX10_hold_25 cl10 sh_1 (by decide) (Nat.le_trans (by decide) hz) 9 rfl rfl (fl_X_58) (ly_1_9 hG) (by decide) ?_
    refine z_iload_n dX10_hold_28 rfl ?_
    refine z_iconst dX10_hold_29 ?_
    refine y_zast dX10_hold_30 sh_241 (by decide) (Nat.le_trans (by decide) hz) hx1 hg3 b01_1 ?_
    refine z_iconst dX10_hold_31 ?_
    obtain rfl := someE h
    exact z_zret dX10_hold_32 hE b01_1 b01_1 rfl
  replace h := ifF hc2 h
  refine z_iconst dX10_hold_9 ?_
  obtain rfl := someE h
  exact z_zret dX10_hold_10 hE b01_0 b01_0 rfl
set_option maxHeartbeats 1000000 in
theorem s_X_restore {l : Launch} {g : GX} {z : Nat} {G : Nat → Nat → Nat} {F : Nat} (hz : 295 ≤ z) (hG : lyX G) {rv sp : Nat} (hrv : G 1 3 = rv) (hrr : isRiv rv) (hsp : G 1 4 = sp) (hss : isRiv sp) {x1 : Int} {I J : Nat → Nat → Int} (hx1 : inR x1) {res : Int × MI} (h : f_X_restore F x1 I = some res) : Spec l g 15 yX10_restore cX10_restore 2 (some .boolean) [vR g 1, vI x1] (z, I, J, G) (some (vI res.1)) (res.1 = 0 ∨ res.1 = 1) (z, res.2, J, G) := by
  refine spec_of (μ := mu_X_restore) (k := 0) (L0 := [some (vR g 1), some (vI x1)]) rfl mw_X_restore rfl rfl (Nat.le_refl _) (fun φ hb hE => ?_)
  refine z_iload_n dX10_restore_0 rfl ?_
  refine z_if_lt (tgt := 18) dX10_restore_1 (by decide) hx1 (fun hc1 => ?_) (fun hc1 => ?_)
  · replace h := ifT hc1 h
    refine z_iconst dX10_restore_18 ?_
    obtain rfl := someE h
    exact z_zret dX10_restore_19 hE b01_0 b01_0 rfl
  replace h := ifF hc1 h
  refine z_iload_n dX10_restore_4 rfl ?_
  refine z_iconst dX10_restore_5 ?_
  refine z_icmp_ge (tgt := 18) dX10_restore_6 (by decide) hx1 (inRd (x := 3) (by decide)) (fun hc2 => ?_) (fun hc2 => ?_)
  · replace h := ifT hc2 h
    refine z_iconst dX10_restore_18 ?_
    obtain rfl := someE h
    exact z_zret dX10_restore_19 hE b01_0 b01_0 rfl
  replace h := ifF hc2 h
  refine z_aload_n dX10_restore_9 rfl ?_
  refine y_getR dX10_restore_10 cl10 sh_1 (by decide) (Nat.le_trans (by decide) hz) 9 rfl rfl (fl_X_58) (ly_1_9 hG) (by decide) ?_
  refine z_iload_n dX10_restore_13 rfl ?_
  obtain ⟨hg3, h⟩ := guardE h
  refine z_nm (fun hN4 => ?_)
  refine y_zald dX10_restore_14 sh_241 (by decide) (Nat.le_trans (by decide) hz) hx1 hg3 ?_
  refine z_if_ne (tgt := 20) dX10_restore_15 (by decide) (hN4.1 241 (x1).toNat) (fun hc5 => ?_) (fun hc5 => ?_)
  · replace h := ifT hc5 h
    refine z_aload_n dX10_restore_20 rfl ?_
    refine y_getR dX10_restore_21 cl10 sh_1 (by decide) (Nat.le_trans (by decide) hz) 5 rfl rfl (fl_X_40) (ly_1_5 hG) (by decide) ?_
    refine z_aload_n dX10_restore_24 rfl ?_
    refine y_getR dX10_restore_25 cl10 sh_1 (by decide) (Nat.le_trans (by decide) hz) 8 rfl rfl (fl_X_54) (ly_1_8 hG) (by decide) ?_
    refine z_iload_n dX10_restore_28 rfl ?_
    refine y_aald dX10_restore_29 sh_240 (by decide) (Nat.le_trans (by decide) hz) hx1 hg3 (ly_slots hG hg3) (bed_pos (bed_slots hg3)) ?_
    obtain ⟨q6, hq7, h⟩ := bindE h
    refine z_callV (As := [vR g (275 + 7 * (x1).toNat)]) (rest := []) (s_B_copyFrom hz hG (is_49) (bed_slots hg3) hq7) dX10_restore_30 mw_B_copyFrom cl0 sh_49 (by decide) (Nat.le_trans (by decide) hz) ml_X_216 im_B_copyFrom se_B_copyFrom rfl rfl rfl rfl (Nat.le_refl _) (Nat.le_of_eq hb.symm) (fun hp8 => ?_)
    show Zt _ _ _ _ 33 _ [] (z, q6, J, G)
    refine z_aload_n dX10_restore_33 rfl ?_
    refine y_getR dX10_restore_34 cl10 sh_1 (by decide) (Nat.le_trans (by decide) hz) 7 rfl rfl (fl_X_50) (ly_1_7 hG) (by decide) ?_
    obtain ⟨q9, hq10, h⟩ := bindE h
    refine z_callV (As := []) (rest := []) (s_P_clear hz hG  hq10) dX10_restore_37 mw_P_clear cl4 sh_63 (by decide) (Nat.le_trans (by decide) hz) ml_X_111 im_P_clear se_P_clear rfl rfl rfl rfl (Nat.le_refl _) (Nat.le_of_eq hb.symm) (fun hp11 => ?_)
    show Zt _ _ _ _ 40 _ [] (z, q9, J, G)
    refine z_iconst dX10_restore_40 ?_
    obtain rfl := someE h
    exact z_zret dX10_restore_41 hE b01_1 b01_1 rfl
  replace h := ifF (fun q => q hc5) h
  refine z_iconst dX10_restore_18 ?_
  obtain rfl := someE h
  exact z_zret dX10_restore_19 hE b01_0 b01_0 rfl
set_option maxHeartbeats 1000000 in
theorem s_X_findWayOver {l : Launch} {g : GX} {z : Nat} {G : Nat → Nat → Nat} {F : Nat} (hz : 295 ≤ z) (hG : lyX G) {rv sp : Nat} (hrv : G 1 3 = rv) (hrr : isRiv rv) (hsp : G 1 4 = sp) (hss : isRiv sp) {x1 : Int} {I J : Nat → Nat → Int} (hx1 : inR x1) {res : Int × MI} (h : f_X_findWayOver F x1 rv I = some res) : Spec l g 18 yX10_findWayOver cX10_findWayOver 2 (some .boolean) [vR g 1, vI x1] (z, I, J, G) (some (vI res.1)) (res.1 = 0 ∨ res.1 = 1) (z, res.2, J, G) := by
  refine spec_of (μ := mu_X_findWayOver) (k := 0) (L0 := [some (vR g 1), some (vI x1)]) rfl mw_X_findWayOver rfl rfl (Nat.le_refl _) (fun φ hb hE => ?_)
  refine z_aload_n dX10_findWayOver_0 rfl ?_
  refine y_getR dX10_findWayOver_1 cl10 sh_1 (by decide) (Nat.le_trans (by decide) hz) 5 rfl rfl (fl_X_40) (ly_1_5 hG) (by decide) ?_
  refine z_aload_n dX10_findWayOver_4 rfl ?_
  refine y_getR dX10_findWayOver_5 cl10 sh_1 (by decide) (Nat.le_trans (by decide) hz) 3 rfl rfl (fl_X_30) hrv (riv_pos hrr) ?_
  refine z_aload_n dX10_findWayOver_8 rfl ?_
  refine y_getR dX10_findWayOver_9 cl10 sh_1 (by decide) (Nat.le_trans (by decide) hz) 13 rfl rfl (fl_X_72) (ly_1_13 hG) (by decide) ?_
  refine y_getNR (host := "FarewellStones") dX10_findWayOver_12 cl9 sh_244 (by decide) (Nat.le_trans (by decide) hz) 0 rfl rfl (flN_X_232) (ly_244_0 hG) (by decide) ?_
  obtain ⟨q1, hq2, h⟩ := bindE h
  refine z_callV (As := [vR g rv, vR g 245]) (rest := []) (s_B_weighSlippery hz hG (is_49) hrr hq2) dX10_findWayOver_15 mw_B_weighSlippery cl0 sh_49 (by decide) (Nat.le_trans (by decide) hz) ml_X_235 im_B_weighSlippery se_B_weighSlippery rfl rfl rfl rfl (Nat.le_refl _) (Nat.le_of_eq hb.symm) (fun hp3 => ?_)
  show Zt _ _ _ _ 18 _ [] (z, q1, J, G)
  refine z_iload_n dX10_findWayOver_18 rfl ?_
  refine z_if_ne (tgt := 40) dX10_findWayOver_19 (by decide) hx1 (fun hc4 => ?_) (fun hc4 => ?_)
  · replace h := ifT hc4 h
    refine z_aload_n dX10_findWayOver_40 rfl ?_
    refine y_getR dX10_findWayOver_41 cl10 sh_1 (by decide) (Nat.le_trans (by decide) hz) 13 rfl rfl (fl_X_72) (ly_1_13 hG) (by decide) ?_
    refine z_aload_n dX10_findWayOver_44 rfl ?_
    refine y_getR dX10_findWayOver_45 cl10 sh_1 (by decide) (Nat.le_trans (by decide) hz) 3 rfl rfl (fl_X_30) hrv (riv_pos hrr) ?_
    refine z_sipush dX10_findWayOver_48 (by decide +kernel) ?_
    refine z_iconst dX10_findWayOver_51 ?_
    obtain ⟨q5, hq6, h⟩ := bindE h
    refine z_callV (As := [vR g rv, vI 1000, vI 1]) (rest := []) (s_Y_find hz hG hrr (inRd (x := 1000) (by decide)) (inRd (x := 1) (by decide)) hq6) dX10_findWayOver_52 mw_Y_find cl9 sh_244 (by decide) (Nat.le_trans (by decide) hz) ml_X_239 im_Y_find se_Y_find rfl rfl rfl rfl (Nat.le_refl _) (Nat.le_of_eq hb.symm) (fun hp7 => ?_)
    show Zt _ _ _ _ 55 _ [vI q5.1] (z, q5.2, J, G)
    obtain rfl := someE h
    exact z_zret dX10_findWayOver_55 hE hp7 hp7 rfl
  replace h := ifF (fun q => q hc4) h
  refine z_aload_n dX10_findWayOver_22 rfl ?_
  refine y_getR dX10_findWayOver_23 cl10 sh_1 (by decide) (Nat.le_trans (by decide) hz) 13 rfl rfl (fl_X_72) (ly_1_13 hG) (by decide) ?_
  refine z_aload_n dX10_findWayOver_26 rfl ?_
  refine y_getR dX10_findWayOver_27 cl10 sh_1 (by decide) (Nat.le_trans (by decide) hz) 3 rfl rfl (fl_X_30) hrv (riv_pos hrr) ?_
  refine z_iconst dX10_findWayOver_30 ?_
  refine z_sipush dX10_findWayOver_31 (by decide +kernel) ?_
  obtain ⟨q8, hq9, h⟩ := bindE h
  refine z_callV (As := [vR g rv, vI 1, vI 10000]) (rest := []) (s_Y_find hz hG hrr (inRd (x := 1) (by decide)) (inRd (x := 10000) (by decide)) hq9) dX10_findWayOver_34 mw_Y_find cl9 sh_244 (by decide) (Nat.le_trans (by decide) hz) ml_X_239 im_Y_find se_Y_find rfl rfl rfl rfl (Nat.le_refl _) (Nat.le_of_eq hb.symm) (fun hp10 => ?_)
  show Zt _ _ _ _ 37 _ [vI q8.1] (z, q8.2, J, G)
  refine z_goto (tgt := 55) dX10_findWayOver_37 (by decide) ?_
  obtain rfl := someE h
  exact z_zret dX10_findWayOver_55 hE hp10 hp10 rfl
set_option maxHeartbeats 1000000 in
theorem s_X_over {l : Launch} {g : GX} {z : Nat} {G : Nat → Nat → Nat} {F : Nat} (hz : 295 ≤ z) (hG : lyX G) {rv sp : Nat} (hrv : G 1 3 = rv) (hrr : isRiv rv) (hsp : G 1 4 = sp) (hss : isRiv sp) {x1 : Int} {x2 : Int} {I J : Nat → Nat → Int} (hx1 : inR x1) (hx2 : inR x2) {res : Int × MI} (h : f_X_over F x1 x2 rv I = some res) : Spec l g 19 yX10_over cX10_over 3 (some .int) [vR g 1, vI x1, vI x2] (z, I, J, G) (some (vI res.1)) (inR res.1) (z, res.2, J, G) := by
  refine spec_of (μ := mu_X_over) (k := 0) (L0 := [some (vR g 1), some (vI x1), some (vI x2)]) rfl mw_X_over rfl rfl (Nat.le_refl _) (fun φ hb hE => ?_)
  refine z_iload_n dX10_over_0 rfl ?_
  refine z_if_lt (tgt := 18) dX10_over_1 (by decide) hx1 (fun hc1 => ?_) (fun hc1 => ?_)
  · replace h := ifT hc1 h
    refine z_iconst dX10_over_18 ?_
    obtain rfl := someE h
    exact z_iret dX10_over_19 hE (inRd (x := (-1)) (by decide)) rfl
  replace h := ifF hc1 h
  refine z_iload_n dX10_over_4 rfl ?_
  refine z_iconst dX10_over_5 ?_
  refine z_icmp_gt (tgt := 18) dX10_over_6 (by decide) hx1 (inRd (x := 1) (by decide)) (fun hc2 => ?_) (fun hc2 => ?_)
  · replace h := ifT hc2 h
    refine z_iconst dX10_over_18 ?_
    obtain rfl := someE h
    exact z_iret dX10_over_19 hE (inRd (x := (-1)) (by decide)) rfl
  replace h := ifF hc2 h
  refine z_iload_n dX10_over_9 rfl ?_
  refine z_if_lt (tgt := 18) dX10_over_10 (by decide) hx2 (fun hc3 => ?_) (fun hc3 => ?_)
  · replace h := ifT hc3 h
    refine z_iconst dX10_over_18 ?_
    obtain rfl := someE h
    exact z_iret dX10_over_19 hE (inRd (x := (-1)) (by decide)) rfl
  replace h := ifF hc3 h
  refine z_iload_n dX10_over_13 rfl ?_
  refine z_iconst dX10_over_14 ?_
  refine z_icmp_le (tgt := 20) dX10_over_15 (by decide) hx2 (inRd (x := 1) (by decide)) (fun hc4 => ?_) (fun hc4 => ?_)
  · replace h := ifT hc4 h
    refine z_aload_n dX10_over_20 rfl ?_
    refine z_iload_n dX10_over_21 rfl ?_
    obtain ⟨q5, hq6, h⟩ := bindE h
    refine z_callV (As := [vI x1]) (rest := []) (s_X_findWayOver hz hG hrv hrr hsp hss hx1 hq6) dX10_over_22 mw_X_findWayOver cl10 sh_1 (by decide) (Nat.le_trans (by decide) hz) ml_X_219 im_X_findWayOver se_X_findWayOver rfl rfl rfl rfl (Nat.le_refl _) (Nat.le_of_eq hb.symm) (fun hp7 => ?_)
    show Zt _ _ _ _ 25 _ [vI q5.1] (z, q5.2, J, G)
    refine z_if_ne (tgt := 31) dX10_over_25 (by decide) (inR_bool hp7) (fun hc8 => ?_) (fun hc8 => ?_)
    · replace h := ifT hc8 h
      refine z_iload_n dX10_over_31 rfl ?_
      refine z_if_ne (tgt := 45) dX10_over_32 (by decide) hx2 (fun hc9 => ?_) (fun hc9 => ?_)
      · replace h := ifT hc9 h
        refine z_aload_n dX10_over_45 rfl ?_
        refine y_getR dX10_over_46 cl10 sh_1 (by decide) (Nat.le_trans (by decide) hz) 13 rfl rfl (fl_X_72) (ly_1_13 hG) (by decide) ?_
        obtain ⟨q10, hq11, h⟩ := bindE h
        refine z_callV (As := []) (rest := []) (s_Y_sum hz hG  hq11) dX10_over_49 mw_Y_sum cl9 sh_244 (by decide) (Nat.le_trans (by decide) hz) ml_X_225 im_Y_sum se_Y_sum rfl rfl rfl rfl (Nat.le_refl _) (Nat.le_of_eq hb.symm) (fun hp12 => ?_)
        show Zt _ _ _ _ 52 _ [vI q10] (z, q5.2, J, G)
        obtain rfl := someE h
        exact z_iret dX10_over_52 hE hp12 rfl
      replace h := ifF (fun q => q hc9) h
      refine z_aload_n dX10_over_35 rfl ?_
      refine y_getR dX10_over_36 cl10 sh_1 (by decide) (Nat.le_trans (by decide) hz) 13 rfl rfl (fl_X_72) (ly_1_13 hG) (by decide) ?_
      obtain ⟨q13, hq14, h⟩ := bindE h
      refine z_callV (As := []) (rest := []) (s_Y_leaps hz hG  hq14) dX10_over_39 mw_Y_leaps cl9 sh_244 (by decide) (Nat.le_trans (by decide) hz) ml_X_222 im_Y_leaps se_Y_leaps rfl rfl rfl rfl (Nat.le_refl _) (Nat.le_of_eq hb.symm) (fun hp15 => ?_)
      show Zt _ _ _ _ 42 _ [vI q13] (z, q5.2, J, G)
      refine z_goto (tgt := 52) dX10_over_42 (by decide) ?_
      obtain rfl := someE h
      exact z_iret dX10_over_52 hE hp15 rfl
    replace h := ifF (fun q => q hc8) h
    refine z_bipush dX10_over_28 (by decide +kernel) ?_
    obtain rfl := someE h
    exact z_iret dX10_over_30 hE (inRd (x := (-2)) (by decide)) rfl
  replace h := ifF hc4 h
  refine z_iconst dX10_over_18 ?_
  obtain rfl := someE h
  exact z_iret dX10_over_19 hE (inRd (x := (-1)) (by decide)) rfl
set_option maxHeartbeats 1000000 in
theorem s_X_overAt {l : Launch} {g : GX} {z : Nat} {G : Nat → Nat → Nat} {F : Nat} (hz : 295 ≤ z) (hG : lyX G) {rv sp : Nat} (hrv : G 1 3 = rv) (hrr : isRiv rv) (hsp : G 1 4 = sp) (hss : isRiv sp) {x1 : Int} {x2 : Int} {I J : Nat → Nat → Int} (hx1 : inR x1) (hx2 : inR x2) {res : Int × MI} (h : f_X_overAt F x1 x2 rv I = some res) : Spec l g 19 yX10_overAt cX10_overAt 3 (some .int) [vR g 1, vI x1, vI x2] (z, I, J, G) (some (vI res.1)) (inR res.1) (z, res.2, J, G) := by
  refine spec_of (μ := mu_X_overAt) (k := 0) (L0 := [some (vR g 1), some (vI x1), some (vI x2)]) rfl mw_X_overAt rfl rfl (Nat.le_refl _) (fun φ hb hE => ?_)
  refine z_iload_n dX10_overAt_0 rfl ?_
  refine z_if_lt (tgt := 13) dX10_overAt_1 (by decide) hx1 (fun hc1 => ?_) (fun hc1 => ?_)
  · replace h := ifT hc1 h
    refine z_iconst dX10_overAt_13 ?_
    obtain rfl := someE h
    exact z_iret dX10_overAt_14 hE (inRd (x := (-1)) (by decide)) rfl
  replace h := ifF hc1 h
  refine z_iload_n dX10_overAt_4 rfl ?_
  refine z_iconst dX10_overAt_5 ?_
  refine z_icmp_gt (tgt := 13) dX10_overAt_6 (by decide) hx1 (inRd (x := 1) (by decide)) (fun hc2 => ?_) (fun hc2 => ?_)
  · replace h := ifT hc2 h
    refine z_iconst dX10_overAt_13 ?_
    obtain rfl := someE h
    exact z_iret dX10_overAt_14 hE (inRd (x := (-1)) (by decide)) rfl
  replace h := ifF hc2 h
  refine z_iload_n dX10_overAt_9 rfl ?_
  refine z_if_ge (tgt := 15) dX10_overAt_10 (by decide) hx2 (fun hc3 => ?_) (fun hc3 => ?_)
  · replace h := ifT hc3 h
    refine z_aload_n dX10_overAt_15 rfl ?_
    refine z_iload_n dX10_overAt_16 rfl ?_
    obtain ⟨q4, hq5, h⟩ := bindE h
    refine z_callV (As := [vI x1]) (rest := []) (s_X_findWayOver hz hG hrv hrr hsp hss hx1 hq5) dX10_overAt_17 mw_X_findWayOver cl10 sh_1 (by decide) (Nat.le_trans (by decide) hz) ml_X_219 im_X_findWayOver se_X_findWayOver rfl rfl rfl rfl (Nat.le_refl _) (Nat.le_of_eq hb.symm) (fun hp6 => ?_)
    show Zt _ _ _ _ 20 _ [vI q4.1] (z, q4.2, J, G)
    refine z_if_ne (tgt := 26) dX10_overAt_20 (by decide) (inR_bool hp6) (fun hc7 => ?_) (fun hc7 => ?_)
    · replace h := ifT hc7 h
      refine z_iload_n dX10_overAt_26 rfl ?_
      refine z_aload_n dX10_overAt_27 rfl ?_
      refine y_getR dX10_overAt_28 cl10 sh_1 (by decide) (Nat.le_trans (by decide) hz) 13 rfl rfl (fl_X_72) (ly_1_13 hG) (by decide) ?_
      refine z_nm (fun hN8 => ?_)
      refine y_getNI (host := "FarewellStones") dX10_overAt_31 cl9 sh_244 (by decide) (Nat.le_trans (by decide) hz) 2 rfl rfl (flN_X_228) ?_
      refine z_icmp_ge (tgt := 52) dX10_overAt_34 (by decide) hx2 (hN8.1 244 2) (fun hc9 => ?_) (fun hc9 => ?_)
      · replace h := ifT hc9 h
        refine z_iconst dX10_overAt_52 ?_
        obtain rfl := someE h
        exact z_iret dX10_overAt_53 hE (inRd (x := (-1)) (by decide)) rfl
      replace h := ifF hc9 h
      refine z_aload_n dX10_overAt_37 rfl ?_
      refine y_getR dX10_overAt_38 cl10 sh_1 (by decide) (Nat.le_trans (by decide) hz) 13 rfl rfl (fl_X_72) (ly_1_13 hG) (by decide) ?_
      refine y_getNR (host := "FarewellStones") dX10_overAt_41 cl9 sh_244 (by decide) (Nat.le_trans (by decide) hz) 1 rfl rfl (flN_X_229) (ly_244_1 hG) (by decide) ?_
      refine z_iload_n dX10_overAt_44 rfl ?_
      obtain ⟨hg10, h⟩ := guardE h
      refine y_iald dX10_overAt_45 sh_246 (by decide) (Nat.le_trans (by decide) hz) hx2 hg10 ?_
      obtain ⟨q11, hq12, h⟩ := bindE h
      refine z_callS (As := [vI (q4.2 246 (x2).toNat)]) (rest := []) (s_X_cellName hz hG (hN8.1 246 (x2).toNat) hq12) dX10_overAt_46 mw_X_cellName ml_X_205 st_X_cellName rfl rfl rfl rfl (Nat.le_refl _) (Nat.le_of_eq hb.symm) (fun hp13 => ?_)
      show Zt _ _ _ _ 49 _ [vI q11] (z, q4.2, J, G)
      refine z_goto (tgt := 53) dX10_overAt_49 (by decide) ?_
      obtain rfl := someE h
      exact z_iret dX10_overAt_53 hE hp13 rfl
    replace h := ifF (fun q => q hc7) h
    refine z_bipush dX10_overAt_23 (by decide +kernel) ?_
    obtain rfl := someE h
    exact z_iret dX10_overAt_25 hE (inRd (x := (-2)) (by decide)) rfl
  replace h := ifF hc3 h
  refine z_iconst dX10_overAt_13 ?_
  obtain rfl := someE h
  exact z_iret dX10_overAt_14 hE (inRd (x := (-1)) (by decide)) rfl
set_option maxHeartbeats 1000000 in
theorem s_X_findLack {l : Launch} {g : GX} {z : Nat} {G : Nat → Nat → Nat} {F : Nat} (hz : 295 ≤ z) (hG : lyX G) {rv sp : Nat} (hrv : G 1 3 = rv) (hrr : isRiv rv) (hsp : G 1 4 = sp) (hss : isRiv sp) {I J : Nat → Nat → Int} {res : MI} (h : f_X_findLack F rv I = some res) : Spec l g 18 yX10_findLack cX10_findLack 1 none [vR g 1] (z, I, J, G) none True (z, res, J, G) := by
  refine spec_of (μ := mu_X_findLack) (k := 0) (L0 := [some (vR g 1)]) rfl mw_X_findLack rfl rfl (Nat.le_refl _) (fun φ hb hE => ?_)
  refine z_aload_n dX10_findLack_0 rfl ?_
  refine y_getR dX10_findLack_1 cl10 sh_1 (by decide) (Nat.le_trans (by decide) hz) 5 rfl rfl (fl_X_40) (ly_1_5 hG) (by decide) ?_
  refine z_aload_n dX10_findLack_4 rfl ?_
  refine y_getR dX10_findLack_5 cl10 sh_1 (by decide) (Nat.le_trans (by decide) hz) 3 rfl rfl (fl_X_30) hrv (riv_pos hrr) ?_
  refine z_aload_n dX10_findLack_8 rfl ?_
  refine y_getR dX10_findLack_9 cl10 sh_1 (by decide) (Nat.le_trans (by decide) hz) 13 rfl rfl (fl_X_72) (ly_1_13 hG) (by decide) ?_
  refine y_getNR (host := "FarewellStones") dX10_findLack_12 cl9 sh_244 (by decide) (Nat.le_trans (by decide) hz) 0 rfl rfl (flN_X_232) (ly_244_0 hG) (by decide) ?_
  obtain ⟨q1, hq2, h⟩ := bindE h
  refine z_callV (As := [vR g rv, vR g 245]) (rest := []) (s_B_weighLack hz hG (is_49) hrr hq2) dX10_findLack_15 mw_B_weighLack cl0 sh_49 (by decide) (Nat.le_trans (by decide) hz) ml_X_254 im_B_weighLack se_B_weighLack rfl rfl rfl rfl (Nat.le_refl _) (Nat.le_of_eq hb.symm) (fun hp3 => ?_)
  show Zt _ _ _ _ 18 _ [] (z, q1, J, G)
  refine z_aload_n dX10_findLack_18 rfl ?_
  refine y_getR dX10_findLack_19 cl10 sh_1 (by decide) (Nat.le_trans (by decide) hz) 13 rfl rfl (fl_X_72) (ly_1_13 hG) (by decide) ?_
  refine z_aload_n dX10_findLack_22 rfl ?_
  refine y_getR dX10_findLack_23 cl10 sh_1 (by decide) (Nat.le_trans (by decide) hz) 3 rfl rfl (fl_X_30) hrv (riv_pos hrr) ?_
  refine z_sipush dX10_findLack_26 (by decide +kernel) ?_
  refine z_iconst dX10_findLack_29 ?_
  obtain ⟨q4, hq5, h⟩ := bindE h
  refine z_callV (As := [vR g rv, vI 1000, vI 1]) (rest := []) (s_Y_find hz hG hrr (inRd (x := 1000) (by decide)) (inRd (x := 1) (by decide)) hq5) dX10_findLack_30 mw_Y_find cl9 sh_244 (by decide) (Nat.le_trans (by decide) hz) ml_X_239 im_Y_find se_Y_find rfl rfl rfl rfl (Nat.le_refl _) (Nat.le_of_eq hb.symm) (fun hp6 => ?_)
  show Zt _ _ _ _ 33 _ [vI q4.1] (z, q4.2, J, G)
  refine z_pop dX10_findLack_33 rfl ?_
  obtain rfl := someE h
  exact z_vret dX10_findLack_34 hE trivial rfl
set_option maxHeartbeats 1000000 in
theorem s_X_lack {l : Launch} {g : GX} {z : Nat} {G : Nat → Nat → Nat} {F : Nat} (hz : 295 ≤ z) (hG : lyX G) {rv sp : Nat} (hrv : G 1 3 = rv) (hrr : isRiv rv) (hsp : G 1 4 = sp) (hss : isRiv sp) {x1 : Int} {I J : Nat → Nat → Int} (hx1 : inR x1) {res : Int × MI} (h : f_X_lack F x1 rv I = some res) : Spec l g 19 yX10_lack cX10_lack 2 (some .int) [vR g 1, vI x1] (z, I, J, G) (some (vI res.1)) (inR res.1) (z, res.2, J, G) := by
  refine spec_of (μ := mu_X_lack) (k := 0) (L0 := [some (vR g 1), some (vI x1)]) rfl mw_X_lack rfl rfl (Nat.le_refl _) (fun φ hb hE => ?_)
  refine z_iload_n dX10_lack_0 rfl ?_
  refine z_if_lt (tgt := 9) dX10_lack_1 (by decide) hx1 (fun hc1 => ?_) (fun hc1 => ?_)
  · replace h := ifT hc1 h
    refine z_iconst dX10_lack_9 ?_
    obtain rfl := someE h
    exact z_iret dX10_lack_10 hE (inRd (x := (-1)) (by decide)) rfl
  replace h := ifF hc1 h
  refine z_iload_n dX10_lack_4 rfl ?_
  refine z_iconst dX10_lack_5 ?_
  refine z_icmp_le (tgt := 11) dX10_lack_6 (by decide) hx1 (inRd (x := 1) (by decide)) (fun hc2 => ?_) (fun hc2 => ?_)
  · replace h := ifT hc2 h
    refine z_aload_n dX10_lack_11 rfl ?_
    obtain ⟨q3, hq4, h⟩ := bindE h
    refine z_callV (As := []) (rest := []) (s_X_findLack hz hG hrv hrr hsp hss  hq4) dX10_lack_12 mw_X_findLack cl10 sh_1 (by decide) (Nat.le_trans (by decide) hz) ml_X_243 im_X_findLack se_X_findLack rfl rfl rfl rfl (Nat.le_refl _) (Nat.le_of_eq hb.symm) (fun hp5 => ?_)
    show Zt _ _ _ _ 15 _ [] (z, q3, J, G)
    refine z_iload_n dX10_lack_15 rfl ?_
    refine z_if_ne (tgt := 29) dX10_lack_16 (by decide) hx1 (fun hc6 => ?_) (fun hc6 => ?_)
    · replace h := ifT hc6 h
      refine z_aload_n dX10_lack_29 rfl ?_
      refine y_getR dX10_lack_30 cl10 sh_1 (by decide) (Nat.le_trans (by decide) hz) 13 rfl rfl (fl_X_72) (ly_1_13 hG) (by decide) ?_
      obtain ⟨q7, hq8, h⟩ := bindE h
      refine z_callV (As := []) (rest := []) (s_Y_leaps hz hG  hq8) dX10_lack_33 mw_Y_leaps cl9 sh_244 (by decide) (Nat.le_trans (by decide) hz) ml_X_222 im_Y_leaps se_Y_leaps rfl rfl rfl rfl (Nat.le_refl _) (Nat.le_of_eq hb.symm) (fun hp9 => ?_)
      show Zt _ _ _ _ 36 _ [vI q7] (z, q3, J, G)
      obtain rfl := someE h
      exact z_iret dX10_lack_36 hE hp9 rfl
    replace h := ifF (fun q => q hc6) h
    refine z_aload_n dX10_lack_19 rfl ?_
    refine y_getR dX10_lack_20 cl10 sh_1 (by decide) (Nat.le_trans (by decide) hz) 13 rfl rfl (fl_X_72) (ly_1_13 hG) (by decide) ?_
    obtain ⟨q10, hq11, h⟩ := bindE h
    refine z_callV (As := []) (rest := []) (s_Y_sum hz hG  hq11) dX10_lack_23 mw_Y_sum cl9 sh_244 (by decide) (Nat.le_trans (by decide) hz) ml_X_225 im_Y_sum se_Y_sum rfl rfl rfl rfl (Nat.le_refl _) (Nat.le_of_eq hb.symm) (fun hp12 => ?_)
    show Zt _ _ _ _ 26 _ [vI q10] (z, q3, J, G)
    refine z_goto (tgt := 36) dX10_lack_26 (by decide) ?_
    obtain rfl := someE h
    exact z_iret dX10_lack_36 hE hp12 rfl
  replace h := ifF hc2 h
  refine z_iconst dX10_lack_9 ?_
  obtain rfl := someE h
  exact z_iret dX10_lack_10 hE (inRd (x := (-1)) (by decide)) rfl
set_option maxHeartbeats 1000000 in
theorem s_X_lackAt {l : Launch} {g : GX} {z : Nat} {G : Nat → Nat → Nat} {F : Nat} (hz : 295 ≤ z) (hG : lyX G) {rv sp : Nat} (hrv : G 1 3 = rv) (hrr : isRiv rv) (hsp : G 1 4 = sp) (hss : isRiv sp) {x1 : Int} {I J : Nat → Nat → Int} (hx1 : inR x1) {res : Int × MI} (h : f_X_lackAt F x1 rv I = some res) : Spec l g 19 yX10_lackAt cX10_lackAt 2 (some .int) [vR g 1, vI x1] (z, I, J, G) (some (vI res.1)) (inR res.1) (z, res.2, J, G) := by
  refine spec_of (μ := mu_X_lackAt) (k := 0) (L0 := [some (vR g 1), some (vI x1)]) rfl mw_X_lackAt rfl rfl (Nat.le_refl _) (fun φ hb hE => ?_)
  refine z_iload_n dX10_lackAt_0 rfl ?_
  refine z_if_ge (tgt := 6) dX10_lackAt_1 (by decide) hx1 (fun hc1 => ?_) (fun hc1 => ?_)
  · replace h := ifT hc1 h
    refine z_aload_n dX10_lackAt_6 rfl ?_
    obtain ⟨q2, hq3, h⟩ := bindE h
    refine z_callV (As := []) (rest := []) (s_X_findLack hz hG hrv hrr hsp hss  hq3) dX10_lackAt_7 mw_X_findLack cl10 sh_1 (by decide) (Nat.le_trans (by decide) hz) ml_X_243 im_X_findLack se_X_findLack rfl rfl rfl rfl (Nat.le_refl _) (Nat.le_of_eq hb.symm) (fun hp4 => ?_)
    show Zt _ _ _ _ 10 _ [] (z, q2, J, G)
    refine z_iload_n dX10_lackAt_10 rfl ?_
    refine z_aload_n dX10_lackAt_11 rfl ?_
    refine y_getR dX10_lackAt_12 cl10 sh_1 (by decide) (Nat.le_trans (by decide) hz) 13 rfl rfl (fl_X_72) (ly_1_13 hG) (by decide) ?_
    refine z_nm (fun hN5 => ?_)
    refine y_getNI (host := "FarewellStones") dX10_lackAt_15 cl9 sh_244 (by decide) (Nat.le_trans (by decide) hz) 2 rfl rfl (flN_X_228) ?_
    refine z_icmp_ge (tgt := 36) dX10_lackAt_18 (by decide) hx1 (hN5.1 244 2) (fun hc6 => ?_) (fun hc6 => ?_)
    · replace h := ifT hc6 h
      refine z_iconst dX10_lackAt_36 ?_
      obtain rfl := someE h
      exact z_iret dX10_lackAt_37 hE (inRd (x := (-1)) (by decide)) rfl
    replace h := ifF hc6 h
    refine z_aload_n dX10_lackAt_21 rfl ?_
    refine y_getR dX10_lackAt_22 cl10 sh_1 (by decide) (Nat.le_trans (by decide) hz) 13 rfl rfl (fl_X_72) (ly_1_13 hG) (by decide) ?_
    refine y_getNR (host := "FarewellStones") dX10_lackAt_25 cl9 sh_244 (by decide) (Nat.le_trans (by decide) hz) 1 rfl rfl (flN_X_229) (ly_244_1 hG) (by decide) ?_
    refine z_iload_n dX10_lackAt_28 rfl ?_
    obtain ⟨hg7, h⟩ := guardE h
    refine y_iald dX10_lackAt_29 sh_246 (by decide) (Nat.le_trans (by decide) hz) hx1 hg7 ?_
    obtain ⟨q8, hq9, h⟩ := bindE h
    refine z_callS (As := [vI (q2 246 (x1).toNat)]) (rest := []) (s_X_cellName hz hG (hN5.1 246 (x1).toNat) hq9) dX10_lackAt_30 mw_X_cellName ml_X_205 st_X_cellName rfl rfl rfl rfl (Nat.le_refl _) (Nat.le_of_eq hb.symm) (fun hp10 => ?_)
    show Zt _ _ _ _ 33 _ [vI q8] (z, q2, J, G)
    refine z_goto (tgt := 37) dX10_lackAt_33 (by decide) ?_
    obtain rfl := someE h
    exact z_iret dX10_lackAt_37 hE hp10 rfl
  replace h := ifF hc1 h
  refine z_iconst dX10_lackAt_4 ?_
  obtain rfl := someE h
  exact z_iret dX10_lackAt_5 hE (inRd (x := (-1)) (by decide)) rfl
set_option maxHeartbeats 1000000 in
theorem s_X_findGivers {l : Launch} {g : GX} {z : Nat} {G : Nat → Nat → Nat} {F : Nat} (hz : 295 ≤ z) (hG : lyX G) {rv sp : Nat} (hrv : G 1 3 = rv) (hrr : isRiv rv) (hsp : G 1 4 = sp) (hss : isRiv sp) {I J : Nat → Nat → Int} {res : Int × MI} (h : f_X_findGivers F rv I = some res) : Spec l g 19 yX10_findGivers cX10_findGivers 1 (some .boolean) [vR g 1] (z, I, J, G) (some (vI res.1)) (res.1 = 0 ∨ res.1 = 1) (z, res.2, J, G) := by
  refine spec_of (μ := mu_X_findGivers) (k := 0) (L0 := [some (vR g 1)]) rfl mw_X_findGivers rfl rfl (Nat.le_refl _) (fun φ hb hE => ?_)
  refine z_aload_n dX10_findGivers_0 rfl ?_
  obtain ⟨q1, hq2, h⟩ := bindE h
  refine z_callV (As := []) (rest := []) (s_X_findLack hz hG hrv hrr hsp hss  hq2) dX10_findGivers_1 mw_X_findLack cl10 sh_1 (by decide) (Nat.le_trans (by decide) hz) ml_X_243 im_X_findLack se_X_findLack rfl rfl rfl rfl (Nat.le_refl _) (Nat.le_of_eq hb.symm) (fun hp3 => ?_)
  show Zt _ _ _ _ 4 _ [] (z, q1, J, G)
  refine z_aload_n dX10_findGivers_4 rfl ?_
  refine y_getR dX10_findGivers_5 cl10 sh_1 (by decide) (Nat.le_trans (by decide) hz) 15 rfl rfl (fl_X_86) (ly_1_15 hG) (by decide) ?_
  refine z_aload_n dX10_findGivers_8 rfl ?_
  refine y_getR dX10_findGivers_9 cl10 sh_1 (by decide) (Nat.le_trans (by decide) hz) 3 rfl rfl (fl_X_30) hrv (riv_pos hrr) ?_
  refine z_aload_n dX10_findGivers_12 rfl ?_
  refine y_getR dX10_findGivers_13 cl10 sh_1 (by decide) (Nat.le_trans (by decide) hz) 5 rfl rfl (fl_X_40) (ly_1_5 hG) (by decide) ?_
  refine z_aload_n dX10_findGivers_16 rfl ?_
  refine y_getR dX10_findGivers_17 cl10 sh_1 (by decide) (Nat.le_trans (by decide) hz) 13 rfl rfl (fl_X_72) (ly_1_13 hG) (by decide) ?_
  obtain ⟨q4, hq5, h⟩ := bindE h
  refine z_callV (As := [vR g rv, vR g 49, vR g 244]) (rest := []) (s_V_settle hz hG hrr (is_49) hq5) dX10_findGivers_20 mw_V_settle cl2 sh_255 (by decide) (Nat.le_trans (by decide) hz) ml_X_257 im_V_settle se_V_settle rfl rfl rfl rfl (Nat.le_refl _) (Nat.le_of_eq hb.symm) (fun hp6 => ?_)
  show Zt _ _ _ _ 23 _ [vI q4.1] (z, q4.2, J, G)
  obtain rfl := someE h
  exact z_zret dX10_findGivers_23 hE hp6 hp6 rfl
set_option maxHeartbeats 1000000 in
theorem s_X_grief {l : Launch} {g : GX} {z : Nat} {G : Nat → Nat → Nat} {F : Nat} (hz : 295 ≤ z) (hG : lyX G) {rv sp : Nat} (hrv : G 1 3 = rv) (hrr : isRiv rv) (hsp : G 1 4 = sp) (hss : isRiv sp) {I J : Nat → Nat → Int} {res : Int × MI} (h : f_X_grief F rv I = some res) : Spec l g 20 yX10_grief cX10_grief 1 (some .int) [vR g 1] (z, I, J, G) (some (vI res.1)) (inR res.1) (z, res.2, J, G) := by
  refine spec_of (μ := mu_X_grief) (k := 0) (L0 := [some (vR g 1)]) rfl mw_X_grief rfl rfl (Nat.le_refl _) (fun φ hb hE => ?_)
  refine z_aload_n dX10_grief_0 rfl ?_
  obtain ⟨q1, hq2, h⟩ := bindE h
  refine z_callV (As := []) (rest := []) (s_X_findGivers hz hG hrv hrr hsp hss  hq2) dX10_grief_1 mw_X_findGivers cl10 sh_1 (by decide) (Nat.le_trans (by decide) hz) ml_X_246 im_X_findGivers se_X_findGivers rfl rfl rfl rfl (Nat.le_refl _) (Nat.le_of_eq hb.symm) (fun hp3 => ?_)
  show Zt _ _ _ _ 4 _ [vI q1.1] (z, q1.2, J, G)
  refine z_if_eq (tgt := 17) dX10_grief_4 (by decide) (inR_bool hp3) (fun hc4 => ?_) (fun hc4 => ?_)
  · replace h := ifT hc4 h
    refine z_bipush dX10_grief_17 (by decide +kernel) ?_
    obtain rfl := someE h
    exact z_iret dX10_grief_19 hE (inRd (x := (-2)) (by decide)) rfl
  replace h := ifF hc4 h
  refine z_aload_n dX10_grief_7 rfl ?_
  refine y_getR dX10_grief_8 cl10 sh_1 (by decide) (Nat.le_trans (by decide) hz) 15 rfl rfl (fl_X_86) (ly_1_15 hG) (by decide) ?_
  obtain ⟨q5, hq6, h⟩ := bindE h
  refine z_callV (As := []) (rest := []) (s_V_sum hz hG  hq6) dX10_grief_11 mw_V_sum cl2 sh_255 (by decide) (Nat.le_trans (by decide) hz) ml_X_250 im_V_sum se_V_sum rfl rfl rfl rfl (Nat.le_refl _) (Nat.le_of_eq hb.symm) (fun hp7 => ?_)
  show Zt _ _ _ _ 14 _ [vI q5] (z, q1.2, J, G)
  refine z_goto (tgt := 19) dX10_grief_14 (by decide) ?_
  obtain rfl := someE h
  exact z_iret dX10_grief_19 hE hp7 rfl
set_option maxHeartbeats 1000000 in
theorem s_X_gives {l : Launch} {g : GX} {z : Nat} {G : Nat → Nat → Nat} {F : Nat} (hz : 295 ≤ z) (hG : lyX G) {rv sp : Nat} (hrv : G 1 3 = rv) (hrr : isRiv rv) (hsp : G 1 4 = sp) (hss : isRiv sp) {x1 : Int} {I J : Nat → Nat → Int} (hx1 : inR x1) {res : Int × MI} (h : f_X_gives F x1 rv I = some res) : Spec l g 20 yX10_gives cX10_gives 2 (some .int) [vR g 1, vI x1] (z, I, J, G) (some (vI res.1)) (inR res.1) (z, res.2, J, G) := by
  refine spec_of (μ := mu_X_gives) (k := 0) (L0 := [some (vR g 1), some (vI x1)]) rfl mw_X_gives rfl rfl (Nat.le_refl _) (fun φ hb hE => ?_)
  refine z_aload_n dX10_gives_0 rfl ?_
  refine z_iload_n dX10_gives_1 rfl ?_
  obtain ⟨q1, hq2, h⟩ := bindE h
  refine z_callV (As := [vI x1]) (rest := []) (s_X_isLeaver hz hG hrv hrr hsp hss hx1 hq2) dX10_gives_2 mw_X_isLeaver cl10 sh_1 (by decide) (Nat.le_trans (by decide) hz) ml_X_144 im_X_isLeaver se_X_isLeaver rfl rfl rfl rfl (Nat.le_refl _) (Nat.le_of_eq hb.symm) (fun hp3 => ?_)
  show Zt _ _ _ _ 5 _ [vI q1] (z, I, J, G)
  refine z_if_ne (tgt := 10) dX10_gives_5 (by decide) (inR_bool hp3) (fun hc4 => ?_) (fun hc4 => ?_)
  · replace h := ifT hc4 h
    refine z_aload_n dX10_gives_10 rfl ?_
    obtain ⟨q5, hq6, h⟩ := bindE h
    refine z_callV (As := []) (rest := []) (s_X_findGivers hz hG hrv hrr hsp hss  hq6) dX10_gives_11 mw_X_findGivers cl10 sh_1 (by decide) (Nat.le_trans (by decide) hz) ml_X_246 im_X_findGivers se_X_findGivers rfl rfl rfl rfl (Nat.le_refl _) (Nat.le_of_eq hb.symm) (fun hp7 => ?_)
    show Zt _ _ _ _ 14 _ [vI q5.1] (z, q5.2, J, G)
    refine z_if_eq (tgt := 29) dX10_gives_14 (by decide) (inR_bool hp7) (fun hc8 => ?_) (fun hc8 => ?_)
    · replace h := ifT hc8 h
      refine z_bipush dX10_gives_29 (by decide +kernel) ?_
      obtain rfl := someE h
      exact z_iret dX10_gives_31 hE (inRd (x := (-2)) (by decide)) rfl
    replace h := ifF hc8 h
    refine z_aload_n dX10_gives_17 rfl ?_
    refine y_getR dX10_gives_18 cl10 sh_1 (by decide) (Nat.le_trans (by decide) hz) 15 rfl rfl (fl_X_86) (ly_1_15 hG) (by decide) ?_
    refine y_getNR (host := "FarewellStones") dX10_gives_21 cl2 sh_255 (by decide) (Nat.le_trans (by decide) hz) 7 rfl rfl (flN_X_251) (ly_255_7 hG) (by decide) ?_
    refine z_iload_n dX10_gives_24 rfl ?_
    obtain ⟨hg9, h⟩ := guardE h
    refine z_nm (fun hN10 => ?_)
    refine y_iald dX10_gives_25 sh_269 (by decide) (Nat.le_trans (by decide) hz) hx1 hg9 ?_
    refine z_goto (tgt := 31) dX10_gives_26 (by decide) ?_
    obtain rfl := someE h
    exact z_iret dX10_gives_31 hE (hN10.1 269 (x1).toNat) rfl
  replace h := ifF (fun q => q hc4) h
  refine z_iconst dX10_gives_8 ?_
  obtain rfl := someE h
  exact z_iret dX10_gives_9 hE (inRd (x := (-1)) (by decide)) rfl
set_option maxHeartbeats 1000000 in
theorem s_X_isWayOver {l : Launch} {g : GX} {z : Nat} {G : Nat → Nat → Nat} {F : Nat} (hz : 295 ≤ z) (hG : lyX G) {rv sp : Nat} (hrv : G 1 3 = rv) (hrr : isRiv rv) (hsp : G 1 4 = sp) (hss : isRiv sp) {r1 : Nat} {I J : Nat → Nat → Int} (hr1 : isBed r1) {res : Int × MI} (h : f_X_isWayOver F r1 rv I = some res) : Spec l g 16 yX10_isWayOver cX10_isWayOver 2 (some .boolean) [vR g 1, vR g r1] (z, I, J, G) (some (vI res.1)) (res.1 = 0 ∨ res.1 = 1) (z, res.2, J, G) := by
  refine spec_of (μ := mu_X_isWayOver) (k := 0) (L0 := [some (vR g 1), some (vR g r1)]) rfl mw_X_isWayOver rfl rfl (Nat.le_refl _) (fun φ hb hE => ?_)
  refine z_aload_n dX10_isWayOver_0 rfl ?_
  refine z_aload_n dX10_isWayOver_1 rfl ?_
  refine y_getR dX10_isWayOver_2 cl10 sh_1 (by decide) (Nat.le_trans (by decide) hz) 3 rfl rfl (fl_X_30) hrv (riv_pos hrr) ?_
  refine z_aload_n dX10_isWayOver_5 rfl ?_
  refine y_getR dX10_isWayOver_6 cl10 sh_1 (by decide) (Nat.le_trans (by decide) hz) 13 rfl rfl (fl_X_72) (ly_1_13 hG) (by decide) ?_
  refine y_getNR (host := "FarewellStones") dX10_isWayOver_9 cl9 sh_244 (by decide) (Nat.le_trans (by decide) hz) 0 rfl rfl (flN_X_232) (ly_244_0 hG) (by decide) ?_
  obtain ⟨q1, hq2, h⟩ := bindE h
  refine z_callV (As := [vR g rv, vR g 245]) (rest := []) (s_B_weighSteps hz hG hr1 hrr hq2) dX10_isWayOver_12 mw_B_weighSteps cl0 (bed_sh hr1) (bed_pos hr1) (Nat.le_trans (bed_le hr1) hz) ml_X_281 im_B_weighSteps se_B_weighSteps rfl rfl rfl rfl (Nat.le_refl _) (Nat.le_of_eq hb.symm) (fun hp3 => ?_)
  show Zt _ _ _ _ 15 _ [] (z, q1, J, G)
  refine z_aload_n dX10_isWayOver_15 rfl ?_
  refine y_getR dX10_isWayOver_16 cl10 sh_1 (by decide) (Nat.le_trans (by decide) hz) 13 rfl rfl (fl_X_72) (ly_1_13 hG) (by decide) ?_
  refine z_aload_n dX10_isWayOver_19 rfl ?_
  refine y_getR dX10_isWayOver_20 cl10 sh_1 (by decide) (Nat.le_trans (by decide) hz) 3 rfl rfl (fl_X_30) hrv (riv_pos hrr) ?_
  obtain ⟨q4, hq5, h⟩ := bindE h
  refine z_callV (As := [vR g rv]) (rest := []) (s_Y_leadOver hz hG hrr hq5) dX10_isWayOver_23 mw_Y_leadOver cl9 sh_244 (by decide) (Nat.le_trans (by decide) hz) ml_X_268 im_Y_leadOver se_Y_leadOver rfl rfl rfl rfl (Nat.le_refl _) (Nat.le_of_eq hb.symm) (fun hp6 => ?_)
  show Zt _ _ _ _ 26 _ [vI q4.1] (z, q4.2, J, G)
  obtain rfl := someE h
  exact z_zret dX10_isWayOver_26 hE hp6 hp6 rfl
set_option maxHeartbeats 1000000 in
theorem t_X_needed_L17 {l : Launch} {g : GX} {φ : CX} {z : Nat} {G : Nat → Nat → Nat} {F : Nat} (hb : cb φ = z) (hz : 295 ≤ z) (hG : lyX G) {rv sp : Nat} (hrv : G 1 3 = rv) (hrr : isRiv rv) (hsp : G 1 4 = sp) (hss : isRiv sp) {x1 : Int} {x2 : Int} {I J : Nat → Nat → Int} (hx1 : inR x1) (hx2 : inR x2) {res : (Int × MI) ⊕ (Int × Int × MI)} (h : f_X_needed_L17 F x1 x2 rv I = some res) (kE : ∀ e : Int × MI, res = .inl e → ((inR e.1) → Zt l g φ mu_X_needed 73 [none, some (vI e.1), none] [] (z, e.2, J, G))) (kS : ∀ s : Int × Int × MI, res = .inr s → (inR s.1 ∧ inR s.2.1) → Zt l g φ mu_X_needed 17 [some (vR g 1), some (vI s.1), some (vI s.2.1)] [] (z, s.2.2, J, G)) : Zt l g φ mu_X_needed 17 [some (vR g 1), some (vI x1), some (vI x2)] [] (z, I, J, G) := by
  refine z_iload_n dX10_needed_17 rfl ?_
  refine z_aload_n dX10_needed_18 rfl ?_
  refine y_getR dX10_needed_19 cl10 sh_1 (by decide) (Nat.le_trans (by decide) hz) 3 rfl rfl (fl_X_30) hrv (riv_pos hrr) ?_
  refine z_nm (fun hN5 => ?_)
  refine y_getNI (host := "FarewellStones") dX10_needed_22 cl6 (riv_sh hrr) (riv_pos hrr) (Nat.le_trans (riv_le hrr) hz) 5 rfl rfl (flN_X_172) ?_
  refine z_icmp_ge (tgt := 73) dX10_needed_25 (by decide) hx2 (hN5.1 rv 5) (fun hc6 => ?_) (fun hc6 => ?_)
  · replace h := ifT hc6 h
    refine z_weak (L' := [none, some (vI x1), none]) (lsN (lsS (lsN ls0))) ?_
    exact kE _ (someE h).symm hx1
  replace h := ifF hc6 h
  refine z_aload_n dX10_needed_28 rfl ?_
  refine y_getR dX10_needed_29 cl10 sh_1 (by decide) (Nat.le_trans (by decide) hz) 5 rfl rfl (fl_X_40) (ly_1_5 hG) (by decide) ?_
  refine z_aload_n dX10_needed_32 rfl ?_
  refine y_getR dX10_needed_33 cl10 sh_1 (by decide) (Nat.le_trans (by decide) hz) 3 rfl rfl (fl_X_30) hrv (riv_pos hrr) ?_
  refine z_iload_n dX10_needed_36 rfl ?_
  refine z_aload_n dX10_needed_37 rfl ?_
  refine y_getR dX10_needed_38 cl10 sh_1 (by decide) (Nat.le_trans (by decide) hz) 13 rfl rfl (fl_X_72) (ly_1_13 hG) (by decide) ?_
  refine y_getNR (host := "FarewellStones") dX10_needed_41 cl9 sh_244 (by decide) (Nat.le_trans (by decide) hz) 0 rfl rfl (flN_X_232) (ly_244_0 hG) (by decide) ?_
  obtain ⟨q7, hq8, h⟩ := bindE h
  refine z_callV (As := [vR g rv, vI x2, vR g 245]) (rest := []) (s_B_weighWithout hz hG (is_49) hrr hx2 hq8) dX10_needed_44 mw_B_weighWithout cl0 sh_49 (by decide) (Nat.le_trans (by decide) hz) ml_X_264 im_B_weighWithout se_B_weighWithout rfl rfl rfl rfl (Nat.le_refl _) (Nat.le_of_eq hb.symm) (fun hp9 => ?_)
  show Zt _ _ _ _ 47 _ [] (z, q7, J, G)
  refine z_aload_n dX10_needed_47 rfl ?_
  refine y_getR dX10_needed_48 cl10 sh_1 (by decide) (Nat.le_trans (by decide) hz) 13 rfl rfl (fl_X_72) (ly_1_13 hG) (by decide) ?_
  refine z_aload_n dX10_needed_51 rfl ?_
  refine y_getR dX10_needed_52 cl10 sh_1 (by decide) (Nat.le_trans (by decide) hz) 3 rfl rfl (fl_X_30) hrv (riv_pos hrr) ?_
  obtain ⟨q10, hq11, h⟩ := bindE h
  refine z_callV (As := [vR g rv]) (rest := []) (s_Y_leadOver hz hG hrr hq11) dX10_needed_55 mw_Y_leadOver cl9 sh_244 (by decide) (Nat.le_trans (by decide) hz) ml_X_268 im_Y_leadOver se_Y_leadOver rfl rfl rfl rfl (Nat.le_refl _) (Nat.le_of_eq hb.symm) (fun hp12 => ?_)
  show Zt _ _ _ _ 58 _ [vI q10.1] (z, q10.2, J, G)
  refine z_if_ne (tgt := 67) dX10_needed_58 (by decide) (inR_bool hp12) (fun hc13 => ?_) (fun hc13 => ?_)
  · replace h := ifT hc13 h
    refine z_iinc (L' := [some (vR g 1), some (vI x1), some (vI (w32 (x2 + 1)))]) dX10_needed_67 rfl rfl rfl rfl ?_
    refine z_goto (tgt := 17) dX10_needed_70 (by decide) ?_
    exact kS _ (someE h).symm ⟨hx1, (inR_w32 _)⟩
  replace h := ifF (fun q => q hc13) h
  refine z_iload_n dX10_needed_61 rfl ?_
  refine z_iconst dX10_needed_62 ?_
  refine z_iload_n dX10_needed_63 rfl ?_
  refine z_ishl dX10_needed_64 ?_
  refine z_ior dX10_needed_65 ?_
  refine z_istore_n (L' := [some (vR g 1), some (vI (or32 x1 (shl32 1 x2))), some (vI x2)]) dX10_needed_66 rfl rfl rfl ?_
  refine z_iinc (L' := [some (vR g 1), some (vI (or32 x1 (shl32 1 x2))), some (vI (w32 (x2 + 1)))]) dX10_needed_67 rfl rfl rfl rfl ?_
  refine z_goto (tgt := 17) dX10_needed_70 (by decide) ?_
  exact kS _ (someE h).symm ⟨inR_or, (inR_w32 _)⟩
theorem l_X_needed_L17 {l : Launch} {g : GX} {φ : CX} {z : Nat} {G : Nat → Nat → Nat} {F : Nat} (hb : cb φ = z) (hz : 295 ≤ z) (hG : lyX G) {rv sp : Nat} (hrv : G 1 3 = rv) (hrr : isRiv rv) (hsp : G 1 4 = sp) (hss : isRiv sp) {J : Nat → Nat → Int} (n : Nat) (s : Int × Int × MI) (e : Int × MI) (h : iter (fun s : Int × Int × MI => f_X_needed_L17 F s.1 s.2.1 rv s.2.2) n s = some e) (hs : inR s.1 ∧ inR s.2.1) (k : ((inR e.1) → Zt l g φ mu_X_needed 73 [none, some (vI e.1), none] [] (z, e.2, J, G))) : Zt l g φ mu_X_needed 17 [some (vR g 1), some (vI s.1), some (vI s.2.1)] [] (z, s.2.2, J, G) := by
  refine iter_ind (Z := fun s : Int × Int × MI => Zt l g φ mu_X_needed 17 [some (vR g 1), some (vI s.1), some (vI s.2.1)] [] (z, s.2.2, J, G)) (ZE := fun e : Int × MI => ((inR e.1) → Zt l g φ mu_X_needed 73 [none, some (vI e.1), none] [] (z, e.2, J, G))) (Rg := fun s : Int × Int × MI => inR s.1 ∧ inR s.2.1) ?_ n s e h hs k
  intro s r hr hst kE kS
  exact t_X_needed_L17 hb hz hG hrv hrr hsp hss hr.1 hr.2 hst kE kS
set_option maxHeartbeats 1000000 in
theorem s_X_needed {l : Launch} {g : GX} {z : Nat} {G : Nat → Nat → Nat} {F : Nat} (hz : 295 ≤ z) (hG : lyX G) {rv sp : Nat} (hrv : G 1 3 = rv) (hrr : isRiv rv) (hsp : G 1 4 = sp) (hss : isRiv sp) {I J : Nat → Nat → Int} {res : Int × MI} (h : f_X_needed F rv I = some res) : Spec l g 17 yX10_needed cX10_needed 3 (some .int) [vR g 1] (z, I, J, G) (some (vI res.1)) (inR res.1) (z, res.2, J, G) := by
  refine spec_of (μ := mu_X_needed) (k := 2) (L0 := [some (vR g 1), none, none]) rfl mw_X_needed rfl rfl (Nat.le_refl _) (fun φ hb hE => ?_)
  refine z_aload_n dX10_needed_0 rfl ?_
  refine z_aload_n dX10_needed_1 rfl ?_
  refine y_getR dX10_needed_2 cl10 sh_1 (by decide) (Nat.le_trans (by decide) hz) 5 rfl rfl (fl_X_40) (ly_1_5 hG) (by decide) ?_
  obtain ⟨q1, hq2, h⟩ := bindE h
  refine z_callV (As := [vR g 49]) (rest := []) (s_X_isWayOver hz hG hrv hrr hsp hss (is_49) hq2) dX10_needed_5 mw_X_isWayOver cl10 sh_1 (by decide) (Nat.le_trans (by decide) hz) ml_X_261 im_X_isWayOver se_X_isWayOver rfl rfl rfl rfl (Nat.le_refl _) (Nat.le_of_eq hb.symm) (fun hp3 => ?_)
  show Zt _ _ _ _ 8 _ [vI q1.1] (z, q1.2, J, G)
  refine z_if_ne (tgt := 13) dX10_needed_8 (by decide) (inR_bool hp3) (fun hc4 => ?_) (fun hc4 => ?_)
  · replace h := ifT hc4 h
    refine z_iconst dX10_needed_13 ?_
    refine z_istore_n (L' := [some (vR g 1), some (vI 0), none]) dX10_needed_14 rfl rfl rfl ?_
    refine z_iconst dX10_needed_15 ?_
    refine z_istore_n (L' := [some (vR g 1), some (vI 0), some (vI 0)]) dX10_needed_16 rfl rfl rfl ?_
    obtain ⟨e14, h15, h⟩ := bindE h
    refine l_X_needed_L17 hb hz hG hrv hrr hsp hss  _ _ _ h15 ⟨(inRd (x := 0) (by decide)), (inRd (x := 0) (by decide))⟩ ?_
    refine fun h16 => ?_
    refine z_iload_n dX10_needed_73 rfl ?_
    obtain rfl := someE h
    exact z_iret dX10_needed_74 hE h16 rfl
  replace h := ifF (fun q => q hc4) h
  refine z_iconst dX10_needed_11 ?_
  obtain rfl := someE h
  exact z_iret dX10_needed_12 hE (inRd (x := 0) (by decide)) rfl
set_option maxHeartbeats 1000000 in
theorem t_X_alone_L4 {l : Launch} {g : GX} {φ : CX} {z : Nat} {G : Nat → Nat → Nat} {F : Nat} (hb : cb φ = z) (hz : 295 ≤ z) (hG : lyX G) {rv sp : Nat} (hrv : G 1 3 = rv) (hrr : isRiv rv) (hsp : G 1 4 = sp) (hss : isRiv sp) {x1 : Int} {x2 : Int} {I J : Nat → Nat → Int} (hx1 : inR x1) (hx2 : inR x2) {res : (Int × MI) ⊕ (Int × Int × MI)} (h : f_X_alone_L4 F x1 x2 rv I = some res) (kE : ∀ e : Int × MI, res = .inl e → ((inR e.1) → Zt l g φ mu_X_alone 60 [none, some (vI e.1), none] [] (z, e.2, J, G))) (kS : ∀ s : Int × Int × MI, res = .inr s → (inR s.1 ∧ inR s.2.1) → Zt l g φ mu_X_alone 4 [some (vR g 1), some (vI s.1), some (vI s.2.1)] [] (z, s.2.2, J, G)) : Zt l g φ mu_X_alone 4 [some (vR g 1), some (vI x1), some (vI x2)] [] (z, I, J, G) := by
  refine z_iload_n dX10_alone_4 rfl ?_
  refine z_aload_n dX10_alone_5 rfl ?_
  refine y_getR dX10_alone_6 cl10 sh_1 (by decide) (Nat.le_trans (by decide) hz) 3 rfl rfl (fl_X_30) hrv (riv_pos hrr) ?_
  refine z_nm (fun hN1 => ?_)
  refine y_getNI (host := "FarewellStones") dX10_alone_9 cl6 (riv_sh hrr) (riv_pos hrr) (Nat.le_trans (riv_le hrr) hz) 5 rfl rfl (flN_X_172) ?_
  refine z_icmp_ge (tgt := 60) dX10_alone_12 (by decide) hx2 (hN1.1 rv 5) (fun hc2 => ?_) (fun hc2 => ?_)
  · replace h := ifT hc2 h
    refine z_weak (L' := [none, some (vI x1), none]) (lsN (lsS (lsN ls0))) ?_
    exact kE _ (someE h).symm hx1
  replace h := ifF hc2 h
  refine z_aload_n dX10_alone_15 rfl ?_
  refine y_getR dX10_alone_16 cl10 sh_1 (by decide) (Nat.le_trans (by decide) hz) 5 rfl rfl (fl_X_40) (ly_1_5 hG) (by decide) ?_
  refine z_aload_n dX10_alone_19 rfl ?_
  refine y_getR dX10_alone_20 cl10 sh_1 (by decide) (Nat.le_trans (by decide) hz) 3 rfl rfl (fl_X_30) hrv (riv_pos hrr) ?_
  refine z_iload_n dX10_alone_23 rfl ?_
  refine z_aload_n dX10_alone_24 rfl ?_
  refine y_getR dX10_alone_25 cl10 sh_1 (by decide) (Nat.le_trans (by decide) hz) 13 rfl rfl (fl_X_72) (ly_1_13 hG) (by decide) ?_
  refine y_getNR (host := "FarewellStones") dX10_alone_28 cl9 sh_244 (by decide) (Nat.le_trans (by decide) hz) 0 rfl rfl (flN_X_232) (ly_244_0 hG) (by decide) ?_
  obtain ⟨q3, hq4, h⟩ := bindE h
  refine z_callV (As := [vR g rv, vI x2, vR g 245]) (rest := []) (s_B_weighAlone hz hG (is_49) hrr hx2 hq4) dX10_alone_31 mw_B_weighAlone cl0 sh_49 (by decide) (Nat.le_trans (by decide) hz) ml_X_272 im_B_weighAlone se_B_weighAlone rfl rfl rfl rfl (Nat.le_refl _) (Nat.le_of_eq hb.symm) (fun hp5 => ?_)
  show Zt _ _ _ _ 34 _ [] (z, q3, J, G)
  refine z_aload_n dX10_alone_34 rfl ?_
  refine y_getR dX10_alone_35 cl10 sh_1 (by decide) (Nat.le_trans (by decide) hz) 13 rfl rfl (fl_X_72) (ly_1_13 hG) (by decide) ?_
  refine z_aload_n dX10_alone_38 rfl ?_
  refine y_getR dX10_alone_39 cl10 sh_1 (by decide) (Nat.le_trans (by decide) hz) 3 rfl rfl (fl_X_30) hrv (riv_pos hrr) ?_
  obtain ⟨q6, hq7, h⟩ := bindE h
  refine z_callV (As := [vR g rv]) (rest := []) (s_Y_leadOver hz hG hrr hq7) dX10_alone_42 mw_Y_leadOver cl9 sh_244 (by decide) (Nat.le_trans (by decide) hz) ml_X_268 im_Y_leadOver se_Y_leadOver rfl rfl rfl rfl (Nat.le_refl _) (Nat.le_of_eq hb.symm) (fun hp8 => ?_)
  show Zt _ _ _ _ 45 _ [vI q6.1] (z, q6.2, J, G)
  refine z_if_eq (tgt := 54) dX10_alone_45 (by decide) (inR_bool hp8) (fun hc9 => ?_) (fun hc9 => ?_)
  · replace h := ifT hc9 h
    refine z_iinc (L' := [some (vR g 1), some (vI x1), some (vI (w32 (x2 + 1)))]) dX10_alone_54 rfl rfl rfl rfl ?_
    refine z_goto (tgt := 4) dX10_alone_57 (by decide) ?_
    exact kS _ (someE h).symm ⟨hx1, (inR_w32 _)⟩
  replace h := ifF hc9 h
  refine z_iload_n dX10_alone_48 rfl ?_
  refine z_iconst dX10_alone_49 ?_
  refine z_iload_n dX10_alone_50 rfl ?_
  refine z_ishl dX10_alone_51 ?_
  refine z_ior dX10_alone_52 ?_
  refine z_istore_n (L' := [some (vR g 1), some (vI (or32 x1 (shl32 1 x2))), some (vI x2)]) dX10_alone_53 rfl rfl rfl ?_
  refine z_iinc (L' := [some (vR g 1), some (vI (or32 x1 (shl32 1 x2))), some (vI (w32 (x2 + 1)))]) dX10_alone_54 rfl rfl rfl rfl ?_
  refine z_goto (tgt := 4) dX10_alone_57 (by decide) ?_
  exact kS _ (someE h).symm ⟨inR_or, (inR_w32 _)⟩
theorem l_X_alone_L4 {l : Launch} {g : GX} {φ : CX} {z : Nat} {G : Nat → Nat → Nat} {F : Nat} (hb : cb φ = z) (hz : 295 ≤ z) (hG : lyX G) {rv sp : Nat} (hrv : G 1 3 = rv) (hrr : isRiv rv) (hsp : G 1 4 = sp) (hss : isRiv sp) {J : Nat → Nat → Int} (n : Nat) (s : Int × Int × MI) (e : Int × MI) (h : iter (fun s : Int × Int × MI => f_X_alone_L4 F s.1 s.2.1 rv s.2.2) n s = some e) (hs : inR s.1 ∧ inR s.2.1) (k : ((inR e.1) → Zt l g φ mu_X_alone 60 [none, some (vI e.1), none] [] (z, e.2, J, G))) : Zt l g φ mu_X_alone 4 [some (vR g 1), some (vI s.1), some (vI s.2.1)] [] (z, s.2.2, J, G) := by
  refine iter_ind (Z := fun s : Int × Int × MI => Zt l g φ mu_X_alone 4 [some (vR g 1), some (vI s.1), some (vI s.2.1)] [] (z, s.2.2, J, G)) (ZE := fun e : Int × MI => ((inR e.1) → Zt l g φ mu_X_alone 60 [none, some (vI e.1), none] [] (z, e.2, J, G))) (Rg := fun s : Int × Int × MI => inR s.1 ∧ inR s.2.1) ?_ n s e h hs k
  intro s r hr hst kE kS
  exact t_X_alone_L4 hb hz hG hrv hrr hsp hss hr.1 hr.2 hst kE kS
set_option maxHeartbeats 1000000 in
theorem s_X_alone {l : Launch} {g : GX} {z : Nat} {G : Nat → Nat → Nat} {F : Nat} (hz : 295 ≤ z) (hG : lyX G) {rv sp : Nat} (hrv : G 1 3 = rv) (hrr : isRiv rv) (hsp : G 1 4 = sp) (hss : isRiv sp) {I J : Nat → Nat → Int} {res : Int × MI} (h : f_X_alone F rv I = some res) : Spec l g 16 yX10_alone cX10_alone 3 (some .int) [vR g 1] (z, I, J, G) (some (vI res.1)) (inR res.1) (z, res.2, J, G) := by
  refine spec_of (μ := mu_X_alone) (k := 2) (L0 := [some (vR g 1), none, none]) rfl mw_X_alone rfl rfl (Nat.le_refl _) (fun φ hb hE => ?_)
  refine z_iconst dX10_alone_0 ?_
  refine z_istore_n (L' := [some (vR g 1), some (vI 0), none]) dX10_alone_1 rfl rfl rfl ?_
  refine z_iconst dX10_alone_2 ?_
  refine z_istore_n (L' := [some (vR g 1), some (vI 0), some (vI 0)]) dX10_alone_3 rfl rfl rfl ?_
  obtain ⟨e10, h11, h⟩ := bindE h
  refine l_X_alone_L4 hb hz hG hrv hrr hsp hss  _ _ _ h11 ⟨(inRd (x := 0) (by decide)), (inRd (x := 0) (by decide))⟩ ?_
  refine fun h12 => ?_
  refine z_iload_n dX10_alone_60 rfl ?_
  obtain rfl := someE h
  exact z_iret dX10_alone_61 hE h12 rfl
set_option maxHeartbeats 1000000 in
theorem t_X_breaks_L27 {l : Launch} {g : GX} {φ : CX} {z : Nat} {G : Nat → Nat → Nat} {F : Nat} (hb : cb φ = z) (hz : 295 ≤ z) (hG : lyX G) {rv sp : Nat} (hrv : G 1 3 = rv) (hrr : isRiv rv) (hsp : G 1 4 = sp) (hss : isRiv sp) {x1 : Int} {I J : Nat → Nat → Int} (hx1 : inR x1) {res : ((Int × MI) ⊕ (MI)) ⊕ (Int × MI)} (h : f_X_breaks_L27 F x1 rv I = some res) (kE : ∀ e : (Int × MI) ⊕ (MI), res = .inl e → ((fun w : (Int × MI) ⊕ (MI) => (match w with | .inl e0 => ((inR e0.1) → Zt l g φ mu_X_breaks 75 [none, none, some (vI e0.1)] [] (z, e0.2, J, G)) | .inr o0 => ((True) → Zt l g φ mu_X_breaks 83 [none, none, none] [] (z, o0, J, G)))) e)) (kS : ∀ s : Int × MI, res = .inr s → (inR s.1) → Zt l g φ mu_X_breaks 27 [some (vR g 1), some (vI s.1), none] [] (z, s.2, J, G)) : Zt l g φ mu_X_breaks 27 [some (vR g 1), some (vI x1), none] [] (z, I, J, G) := by
  refine z_iload_n dX10_breaks_27 rfl ?_
  refine z_sipush dX10_breaks_28 (by decide +kernel) ?_
  refine z_icmp_ge (tgt := 83) dX10_breaks_31 (by decide) hx1 (inRd (x := 200) (by decide)) (fun hc8 => ?_) (fun hc8 => ?_)
  · replace h := ifT hc8 h
    refine z_weak (L' := [none, none, none]) (lsN (lsN (lsN ls0))) ?_
    exact kE _ (someE h).symm trivial
  replace h := ifF hc8 h
  refine z_aload_n dX10_breaks_34 rfl ?_
  refine y_getR dX10_breaks_35 cl10 sh_1 (by decide) (Nat.le_trans (by decide) hz) 6 rfl rfl (fl_X_44) (ly_1_6 hG) (by decide) ?_
  refine z_nm (fun hN9 => ?_)
  refine y_getNI (host := "FarewellStones") dX10_breaks_38 cl0 sh_56 (by decide) (Nat.le_trans (by decide) hz) 0 rfl rfl (flN_X_178) ?_
  refine z_istore_n (L' := [some (vR g 1), some (vI x1), some (vI (I 56 0))]) dX10_breaks_41 rfl rfl rfl ?_
  refine z_aload_n dX10_breaks_42 rfl ?_
  refine y_getR dX10_breaks_43 cl10 sh_1 (by decide) (Nat.le_trans (by decide) hz) 6 rfl rfl (fl_X_44) (ly_1_6 hG) (by decide) ?_
  refine z_aload_n dX10_breaks_46 rfl ?_
  refine y_getR dX10_breaks_47 cl10 sh_1 (by decide) (Nat.le_trans (by decide) hz) 3 rfl rfl (fl_X_30) hrv (riv_pos hrr) ?_
  refine z_iconst dX10_breaks_50 ?_
  refine z_aload_n dX10_breaks_51 rfl ?_
  refine y_getR dX10_breaks_52 cl10 sh_1 (by decide) (Nat.le_trans (by decide) hz) 3 rfl rfl (fl_X_30) hrv (riv_pos hrr) ?_
  refine y_getNI (host := "FarewellStones") dX10_breaks_55 cl6 (riv_sh hrr) (riv_pos hrr) (Nat.le_trans (riv_le hrr) hz) 1 rfl rfl (flN_X_166) ?_
  obtain ⟨q10, hq11, h⟩ := bindE h
  refine z_callV (As := [vR g rv, vI 0, vI (I rv 1)]) (rest := []) (s_B_passDay hz hG (is_56) hrr (inRd (x := 0) (by decide)) (hN9.1 rv 1) hq11) dX10_breaks_58 mw_B_passDay cl0 sh_56 (by decide) (Nat.le_trans (by decide) hz) ml_X_275 im_B_passDay se_B_passDay rfl rfl rfl rfl (Nat.le_refl _) (Nat.le_of_eq hb.symm) (fun hp12 => ?_)
  show Zt _ _ _ _ 61 _ [vI q10.1] (z, q10.2, J, G)
  refine z_if_eq (tgt := 77) dX10_breaks_61 (by decide) (inR_bool hp12) (fun hc13 => ?_) (fun hc13 => ?_)
  · replace h := ifT hc13 h
    refine z_iinc (L' := [some (vR g 1), some (vI (w32 (x1 + 1))), some (vI (I 56 0))]) dX10_breaks_77 rfl rfl rfl rfl ?_
    refine z_goto (tgt := 27) dX10_breaks_80 (by decide) ?_
    refine z_weak (L' := [some (vR g 1), some (vI (w32 (x1 + 1))), none]) (lsS (lsS (lsN ls0))) ?_
    exact kS _ (someE h).symm (inR_w32 _)
  replace h := ifF hc13 h
  refine z_aload_n dX10_breaks_64 rfl ?_
  refine z_aload_n dX10_breaks_65 rfl ?_
  refine y_getR dX10_breaks_66 cl10 sh_1 (by decide) (Nat.le_trans (by decide) hz) 6 rfl rfl (fl_X_44) (ly_1_6 hG) (by decide) ?_
  obtain ⟨q14, hq15, h⟩ := bindE h
  refine z_callV (As := [vR g 56]) (rest := []) (s_X_isWayOver hz hG hrv hrr hsp hss (is_56) hq15) dX10_breaks_69 mw_X_isWayOver cl10 sh_1 (by decide) (Nat.le_trans (by decide) hz) ml_X_261 im_X_isWayOver se_X_isWayOver rfl rfl rfl rfl (Nat.le_refl _) (Nat.le_of_eq hb.symm) (fun hp16 => ?_)
  show Zt _ _ _ _ 72 _ [vI q14.1] (z, q14.2, J, G)
  refine z_if_ne (tgt := 77) dX10_breaks_72 (by decide) (inR_bool hp16) (fun hc17 => ?_) (fun hc17 => ?_)
  · replace h := ifT hc17 h
    refine z_iinc (L' := [some (vR g 1), some (vI (w32 (x1 + 1))), some (vI (I 56 0))]) dX10_breaks_77 rfl rfl rfl rfl ?_
    refine z_goto (tgt := 27) dX10_breaks_80 (by decide) ?_
    refine z_weak (L' := [some (vR g 1), some (vI (w32 (x1 + 1))), none]) (lsS (lsS (lsN ls0))) ?_
    exact kS _ (someE h).symm (inR_w32 _)
  replace h := ifF (fun q => q hc17) h
  refine z_weak (L' := [none, none, some (vI (I 56 0))]) (lsN (lsN (lsS ls0))) ?_
  exact kE _ (someE h).symm (hN9.1 56 0)
theorem l_X_breaks_L27 {l : Launch} {g : GX} {φ : CX} {z : Nat} {G : Nat → Nat → Nat} {F : Nat} (hb : cb φ = z) (hz : 295 ≤ z) (hG : lyX G) {rv sp : Nat} (hrv : G 1 3 = rv) (hrr : isRiv rv) (hsp : G 1 4 = sp) (hss : isRiv sp) {J : Nat → Nat → Int} (n : Nat) (s : Int × MI) (e : (Int × MI) ⊕ (MI)) (h : iter (fun s : Int × MI => f_X_breaks_L27 F s.1 rv s.2) n s = some e) (hs : inR s.1) (k : ((fun w : (Int × MI) ⊕ (MI) => (match w with | .inl e0 => ((inR e0.1) → Zt l g φ mu_X_breaks 75 [none, none, some (vI e0.1)] [] (z, e0.2, J, G)) | .inr o0 => ((True) → Zt l g φ mu_X_breaks 83 [none, none, none] [] (z, o0, J, G)))) e)) : Zt l g φ mu_X_breaks 27 [some (vR g 1), some (vI s.1), none] [] (z, s.2, J, G) := by
  refine iter_ind (Z := fun s : Int × MI => Zt l g φ mu_X_breaks 27 [some (vR g 1), some (vI s.1), none] [] (z, s.2, J, G)) (ZE := fun e : (Int × MI) ⊕ (MI) => ((fun w : (Int × MI) ⊕ (MI) => (match w with | .inl e0 => ((inR e0.1) → Zt l g φ mu_X_breaks 75 [none, none, some (vI e0.1)] [] (z, e0.2, J, G)) | .inr o0 => ((True) → Zt l g φ mu_X_breaks 83 [none, none, none] [] (z, o0, J, G)))) e)) (Rg := fun s : Int × MI => inR s.1) ?_ n s e h hs k
  intro s r hr hst kE kS
  exact t_X_breaks_L27 hb hz hG hrv hrr hsp hss hr hst kE kS
set_option maxHeartbeats 1000000 in
theorem s_X_breaks {l : Launch} {g : GX} {z : Nat} {G : Nat → Nat → Nat} {F : Nat} (hz : 295 ≤ z) (hG : lyX G) {rv sp : Nat} (hrv : G 1 3 = rv) (hrr : isRiv rv) (hsp : G 1 4 = sp) (hss : isRiv sp) {I J : Nat → Nat → Int} {res : Int × MI} (h : f_X_breaks F rv I = some res) : Spec l g 17 yX10_breaks cX10_breaks 3 (some .int) [vR g 1] (z, I, J, G) (some (vI res.1)) (inR res.1) (z, res.2, J, G) := by
  refine spec_of (μ := mu_X_breaks) (k := 2) (L0 := [some (vR g 1), none, none]) rfl mw_X_breaks rfl rfl (Nat.le_refl _) (fun φ hb hE => ?_)
  refine z_aload_n dX10_breaks_0 rfl ?_
  refine z_aload_n dX10_breaks_1 rfl ?_
  refine y_getR dX10_breaks_2 cl10 sh_1 (by decide) (Nat.le_trans (by decide) hz) 5 rfl rfl (fl_X_40) (ly_1_5 hG) (by decide) ?_
  obtain ⟨q1, hq2, h⟩ := bindE h
  refine z_callV (As := [vR g 49]) (rest := []) (s_X_isWayOver hz hG hrv hrr hsp hss (is_49) hq2) dX10_breaks_5 mw_X_isWayOver cl10 sh_1 (by decide) (Nat.le_trans (by decide) hz) ml_X_261 im_X_isWayOver se_X_isWayOver rfl rfl rfl rfl (Nat.le_refl _) (Nat.le_of_eq hb.symm) (fun hp3 => ?_)
  show Zt _ _ _ _ 8 _ [vI q1.1] (z, q1.2, J, G)
  refine z_if_ne (tgt := 14) dX10_breaks_8 (by decide) (inR_bool hp3) (fun hc4 => ?_) (fun hc4 => ?_)
  · replace h := ifT hc4 h
    refine z_aload_n dX10_breaks_14 rfl ?_
    refine y_getR dX10_breaks_15 cl10 sh_1 (by decide) (Nat.le_trans (by decide) hz) 6 rfl rfl (fl_X_44) (ly_1_6 hG) (by decide) ?_
    refine z_aload_n dX10_breaks_18 rfl ?_
    refine y_getR dX10_breaks_19 cl10 sh_1 (by decide) (Nat.le_trans (by decide) hz) 5 rfl rfl (fl_X_40) (ly_1_5 hG) (by decide) ?_
    obtain ⟨q5, hq6, h⟩ := bindE h
    refine z_callV (As := [vR g 49]) (rest := []) (s_B_copyFrom hz hG (is_56) (is_49) hq6) dX10_breaks_22 mw_B_copyFrom cl0 sh_56 (by decide) (Nat.le_trans (by decide) hz) ml_X_216 im_B_copyFrom se_B_copyFrom rfl rfl rfl rfl (Nat.le_refl _) (Nat.le_of_eq hb.symm) (fun hp7 => ?_)
    show Zt _ _ _ _ 25 _ [] (z, q5, J, G)
    refine z_iconst dX10_breaks_25 ?_
    refine z_istore_n (L' := [some (vR g 1), some (vI 0), none]) dX10_breaks_26 rfl rfl rfl ?_
    obtain ⟨e18, h19, h⟩ := bindE h
    rcases e18 with e20 | o21
    · refine l_X_breaks_L27 hb hz hG hrv hrr hsp hss  _ _ _ h19 (inRd (x := 0) (by decide)) ?_
      refine fun h22 => ?_
      refine z_iload_n dX10_breaks_75 rfl ?_
      obtain rfl := someE h
      exact z_iret dX10_breaks_76 hE h22 rfl
    refine l_X_breaks_L27 hb hz hG hrv hrr hsp hss  _ _ _ h19 (inRd (x := 0) (by decide)) ?_
    refine fun h23 => ?_
    refine z_bipush dX10_breaks_83 (by decide +kernel) ?_
    obtain rfl := someE h
    exact z_iret dX10_breaks_85 hE (inRd (x := (-2)) (by decide)) rfl
  replace h := ifF (fun q => q hc4) h
  refine z_bipush dX10_breaks_11 (by decide +kernel) ?_
  obtain rfl := someE h
  exact z_iret dX10_breaks_13 hE (inRd (x := (-3)) (by decide)) rfl
set_option maxHeartbeats 1000000 in
theorem s_X_fords {l : Launch} {g : GX} {z : Nat} {G : Nat → Nat → Nat} {F : Nat} (hz : 295 ≤ z) (hG : lyX G) {rv sp : Nat} (hrv : G 1 3 = rv) (hrr : isRiv rv) (hsp : G 1 4 = sp) (hss : isRiv sp) {I J : Nat → Nat → Int} {res : Int × MI} (h : f_X_fords F rv I = some res) : Spec l g 18 yX10_fords cX10_fords 1 (some .int) [vR g 1] (z, I, J, G) (some (vI res.1)) (inR res.1) (z, res.2, J, G) := by
  refine spec_of (μ := mu_X_fords) (k := 0) (L0 := [some (vR g 1)]) rfl mw_X_fords rfl rfl (Nat.le_refl _) (fun φ hb hE => ?_)
  refine z_aload_n dX10_fords_0 rfl ?_
  refine y_getR dX10_fords_1 cl10 sh_1 (by decide) (Nat.le_trans (by decide) hz) 3 rfl rfl (fl_X_30) hrv (riv_pos hrr) ?_
  obtain ⟨q1, hq2, h⟩ := bindE h
  refine z_callV (As := []) (rest := []) (s_R_isLeptAtOnce hz hG hrr hq2) dX10_fords_4 mw_R_isLeptAtOnce cl6 (riv_sh hrr) (riv_pos hrr) (Nat.le_trans (riv_le hrr) hz) ml_X_278 im_R_isLeptAtOnce se_R_isLeptAtOnce rfl rfl rfl rfl (Nat.le_refl _) (Nat.le_of_eq hb.symm) (fun hp3 => ?_)
  show Zt _ _ _ _ 7 _ [vI q1] (z, I, J, G)
  refine z_if_eq (tgt := 13) dX10_fords_7 (by decide) (inR_bool hp3) (fun hc4 => ?_) (fun hc4 => ?_)
  · replace h := ifT hc4 h
    refine z_aload_n dX10_fords_13 rfl ?_
    refine y_getR dX10_fords_14 cl10 sh_1 (by decide) (Nat.le_trans (by decide) hz) 5 rfl rfl (fl_X_40) (ly_1_5 hG) (by decide) ?_
    refine z_aload_n dX10_fords_17 rfl ?_
    refine y_getR dX10_fords_18 cl10 sh_1 (by decide) (Nat.le_trans (by decide) hz) 3 rfl rfl (fl_X_30) hrv (riv_pos hrr) ?_
    refine z_aload_n dX10_fords_21 rfl ?_
    refine y_getR dX10_fords_22 cl10 sh_1 (by decide) (Nat.le_trans (by decide) hz) 13 rfl rfl (fl_X_72) (ly_1_13 hG) (by decide) ?_
    refine y_getNR (host := "FarewellStones") dX10_fords_25 cl9 sh_244 (by decide) (Nat.le_trans (by decide) hz) 0 rfl rfl (flN_X_232) (ly_244_0 hG) (by decide) ?_
    obtain ⟨q5, hq6, h⟩ := bindE h
    refine z_callV (As := [vR g rv, vR g 245]) (rest := []) (s_B_weighSteps hz hG (is_49) hrr hq6) dX10_fords_28 mw_B_weighSteps cl0 sh_49 (by decide) (Nat.le_trans (by decide) hz) ml_X_281 im_B_weighSteps se_B_weighSteps rfl rfl rfl rfl (Nat.le_refl _) (Nat.le_of_eq hb.symm) (fun hp7 => ?_)
    show Zt _ _ _ _ 31 _ [] (z, q5, J, G)
    refine z_aload_n dX10_fords_31 rfl ?_
    refine y_getR dX10_fords_32 cl10 sh_1 (by decide) (Nat.le_trans (by decide) hz) 14 rfl rfl (fl_X_79) (ly_1_14 hG) (by decide) ?_
    refine z_aload_n dX10_fords_35 rfl ?_
    refine y_getR dX10_fords_36 cl10 sh_1 (by decide) (Nat.le_trans (by decide) hz) 3 rfl rfl (fl_X_30) hrv (riv_pos hrr) ?_
    refine z_aload_n dX10_fords_39 rfl ?_
    refine y_getR dX10_fords_40 cl10 sh_1 (by decide) (Nat.le_trans (by decide) hz) 13 rfl rfl (fl_X_72) (ly_1_13 hG) (by decide) ?_
    refine y_getNR (host := "FarewellStones") dX10_fords_43 cl9 sh_244 (by decide) (Nat.le_trans (by decide) hz) 0 rfl rfl (flN_X_232) (ly_244_0 hG) (by decide) ?_
    obtain ⟨q8, hq9, h⟩ := bindE h
    refine z_callV (As := [vR g rv, vR g 245]) (rest := []) (s_F_most hz hG hrr hq9) dX10_fords_46 mw_F_most cl1 sh_250 (by decide) (Nat.le_trans (by decide) hz) ml_X_284 im_F_most se_F_most rfl rfl rfl rfl (Nat.le_refl _) (Nat.le_of_eq hb.symm) (fun hp10 => ?_)
    show Zt _ _ _ _ 49 _ [vI q8.1] (z, q8.2, J, G)
    obtain rfl := someE h
    exact z_iret dX10_fords_49 hE hp10 rfl
  replace h := ifF hc4 h
  refine z_bipush dX10_fords_10 (by decide +kernel) ?_
  obtain rfl := someE h
  exact z_iret dX10_fords_12 hE (inRd (x := (-2)) (by decide)) rfl
set_option maxHeartbeats 1000000 in
theorem s_X_tell {l : Launch} {g : GX} {z : Nat} {G : Nat → Nat → Nat} {F : Nat} (hz : 295 ≤ z) (hG : lyX G) {rv sp : Nat} (hrv : G 1 3 = rv) (hrr : isRiv rv) (hsp : G 1 4 = sp) (hss : isRiv sp) {x1 : Int} {x2 : Int} {x3 : Int} {I J : Nat → Nat → Int} (hx1 : inR x1) (hx2 : inR x2) (hx3 : inR x3) {res : Int × MI} (h : f_X_tell F x1 x2 x3 rv I = some res) : Spec l g 1 yX10_tell cX10_tell 4 (some .int) [vR g 1, vI x1, vI x2, vI x3] (z, I, J, G) (some (vI res.1)) (inR res.1) (z, res.2, J, G) := by
  refine spec_of (μ := mu_X_tell) (k := 0) (L0 := [some (vR g 1), some (vI x1), some (vI x2), some (vI x3)]) rfl mw_X_tell rfl rfl (Nat.le_refl _) (fun φ hb hE => ?_)
  refine z_aload_n dX10_tell_0 rfl ?_
  refine z_nm (fun hN1 => ?_)
  refine y_getI dX10_tell_1 cl10 sh_1 (by decide) (Nat.le_trans (by decide) hz) 12 rfl rfl (fl_X_112) ?_
  refine z_bipush dX10_tell_4 (by decide +kernel) ?_
  refine z_icmp_ge (tgt := 31) dX10_tell_6 (by decide) (hN1.1 1 12) (inRd (x := 20) (by decide)) (fun hc2 => ?_) (fun hc2 => ?_)
  · replace h := ifT hc2 h
    refine z_iconst dX10_tell_31 ?_
    obtain rfl := someE h
    exact z_iret dX10_tell_32 hE (inRd (x := (-1)) (by decide)) rfl
  replace h := ifF hc2 h
  refine z_aload_n dX10_tell_9 rfl ?_
  refine y_getR dX10_tell_10 cl10 sh_1 (by decide) (Nat.le_trans (by decide) hz) 3 rfl rfl (fl_X_30) hrv (riv_pos hrr) ?_
  refine z_iload_n dX10_tell_13 rfl ?_
  refine z_iload_n dX10_tell_14 rfl ?_
  obtain ⟨q3, hq4, h⟩ := bindE h
  refine z_callV (As := [vI x1, vI x2]) (rest := []) (s_R_has hz hG hrr hx1 hx2 hq4) dX10_tell_15 mw_R_has cl6 (riv_sh hrr) (riv_pos hrr) (Nat.le_trans (riv_le hrr) hz) ml_X_115 im_R_has se_R_has rfl rfl rfl rfl (Nat.le_refl _) (Nat.le_of_eq hb.symm) (fun hp5 => ?_)
  show Zt _ _ _ _ 18 _ [vI q3] (z, I, J, G)
  refine z_if_eq (tgt := 31) dX10_tell_18 (by decide) (inR_bool hp5) (fun hc6 => ?_) (fun hc6 => ?_)
  · replace h := ifT hc6 h
    refine z_iconst dX10_tell_31 ?_
    obtain rfl := someE h
    exact z_iret dX10_tell_32 hE (inRd (x := (-1)) (by decide)) rfl
  replace h := ifF hc6 h
  refine z_iload_n dX10_tell_21 rfl ?_
  refine z_if_lt (tgt := 31) dX10_tell_22 (by decide) hx3 (fun hc7 => ?_) (fun hc7 => ?_)
  · replace h := ifT hc7 h
    refine z_iconst dX10_tell_31 ?_
    obtain rfl := someE h
    exact z_iret dX10_tell_32 hE (inRd (x := (-1)) (by decide)) rfl
  replace h := ifF hc7 h
  refine z_iload_n dX10_tell_25 rfl ?_
  refine z_bipush dX10_tell_26 (by decide +kernel) ?_
  refine z_icmp_le (tgt := 33) dX10_tell_28 (by decide) hx3 (inRd (x := 99) (by decide)) (fun hc8 => ?_) (fun hc8 => ?_)
  · replace h := ifT hc8 h
    refine z_aload_n dX10_tell_33 rfl ?_
    refine y_getR dX10_tell_34 cl10 sh_1 (by decide) (Nat.le_trans (by decide) hz) 10 rfl rfl (fl_X_62) (ly_1_10 hG) (by decide) ?_
    refine z_aload_n dX10_tell_37 rfl ?_
    refine y_getI dX10_tell_38 cl10 sh_1 (by decide) (Nat.le_trans (by decide) hz) 12 rfl rfl (fl_X_112) ?_
    refine z_iload_n dX10_tell_41 rfl ?_
    refine z_iload_n dX10_tell_42 rfl ?_
    obtain ⟨q9, hq10, h⟩ := bindE h
    refine z_callS (As := [vI x1, vI x2]) (rest := [vI (I 1 12), vR g 242]) (s_X_cellNumber hz hG hx1 hx2 hq10) dX10_tell_43 mw_X_cellNumber ml_X_119 st_X_cellNumber rfl rfl rfl rfl (Nat.le_refl _) (Nat.le_of_eq hb.symm) (fun hp11 => ?_)
    show Zt _ _ _ _ 46 _ [vI q9, vI (I 1 12), vR g 242] (z, I, J, G)
    obtain ⟨hg12, h⟩ := guardE h
    refine y_iast dX10_tell_46 sh_242 (by decide) (Nat.le_trans (by decide) hz) (hN1.1 1 12) hg12 hp11 ?_
    refine z_aload_n dX10_tell_47 rfl ?_
    refine y_getR dX10_tell_48 cl10 sh_1 (by decide) (Nat.le_trans (by decide) hz) 11 rfl rfl (fl_X_66) (ly_1_11 hG) (by decide) ?_
    refine z_aload_n dX10_tell_51 rfl ?_
    refine z_nm (fun hN13 => ?_)
    refine y_getI dX10_tell_52 cl10 sh_1 (by decide) (Nat.le_trans (by decide) hz) 12 rfl rfl (fl_X_112) ?_
    refine z_iload_n dX10_tell_55 rfl ?_
    obtain ⟨hg14, h⟩ := guardE h
    refine y_iast dX10_tell_56 sh_243 (by decide) (Nat.le_trans (by decide) hz) (hN13.1 1 12) hg14 hx3 ?_
    refine z_aload_n dX10_tell_57 rfl ?_
    refine z_dup dX10_tell_58 rfl ?_
    refine z_nm (fun hN15 => ?_)
    refine y_getI dX10_tell_59 cl10 sh_1 (by decide) (Nat.le_trans (by decide) hz) 12 rfl rfl (fl_X_112) ?_
    refine z_iconst dX10_tell_62 ?_
    refine z_iadd dX10_tell_63 ?_
    refine y_putI dX10_tell_64 cl10 sh_1 (by decide) (Nat.le_trans (by decide) hz) 12 rfl rfl rfl (fl_X_112) rfl rfl (inR_w32 _) ?_
    refine z_aload_n dX10_tell_67 rfl ?_
    refine z_nm (fun hN16 => ?_)
    refine y_getI dX10_tell_68 cl10 sh_1 (by decide) (Nat.le_trans (by decide) hz) 12 rfl rfl (fl_X_112) ?_
    refine z_iconst dX10_tell_71 ?_
    refine z_isub dX10_tell_72 ?_
    obtain rfl := someE h
    exact z_iret dX10_tell_73 hE (inR_w32 _) rfl
  replace h := ifF hc8 h
  refine z_iconst dX10_tell_31 ?_
  obtain rfl := someE h
  exact z_iret dX10_tell_32 hE (inRd (x := (-1)) (by decide)) rfl
set_option maxHeartbeats 1000000 in
theorem s_X_forget {l : Launch} {g : GX} {z : Nat} {G : Nat → Nat → Nat} {F : Nat} (hz : 295 ≤ z) (hG : lyX G) {rv sp : Nat} (hrv : G 1 3 = rv) (hrr : isRiv rv) (hsp : G 1 4 = sp) (hss : isRiv sp) {I J : Nat → Nat → Int} {res : Int × MI} (h : f_X_forget F I = some res) : Spec l g 0 yX10_forget cX10_forget 2 (some .int) [vR g 1] (z, I, J, G) (some (vI res.1)) (inR res.1) (z, res.2, J, G) := by
  refine spec_of (μ := mu_X_forget) (k := 1) (L0 := [some (vR g 1), none]) rfl mw_X_forget rfl rfl (Nat.le_refl _) (fun φ hb hE => ?_)
  refine z_aload_n dX10_forget_0 rfl ?_
  refine z_nm (fun hN1 => ?_)
  refine y_getI dX10_forget_1 cl10 sh_1 (by decide) (Nat.le_trans (by decide) hz) 12 rfl rfl (fl_X_112) ?_
  refine z_istore_n (L' := [some (vR g 1), some (vI (I 1 12))]) dX10_forget_4 rfl rfl rfl ?_
  refine z_aload_n dX10_forget_5 rfl ?_
  refine z_iconst dX10_forget_6 ?_
  refine y_putI dX10_forget_7 cl10 sh_1 (by decide) (Nat.le_trans (by decide) hz) 12 rfl rfl rfl (fl_X_112) rfl rfl (inRd (x := 0) (by decide)) ?_
  refine z_iload_n dX10_forget_10 rfl ?_
  obtain rfl := someE h
  exact z_iret dX10_forget_11 hE (hN1.1 1 12) rfl
set_option maxHeartbeats 1000000 in
theorem t_X_isKnownOf_L2 {l : Launch} {g : GX} {φ : CX} {z : Nat} {G : Nat → Nat → Nat} {F : Nat} (hb : cb φ = z) (hz : 295 ≤ z) (hG : lyX G) {rv sp : Nat} (hrv : G 1 3 = rv) (hrr : isRiv rv) (hsp : G 1 4 = sp) (hss : isRiv sp) {x1 : Int} {x2 : Int} {x3 : Int} {I J : Nat → Nat → Int} (hx1 : inR x1) (hx2 : inR x2) (hx3 : inR x3) {res : ((Unit) ⊕ (Unit)) ⊕ (Int)} (h : f_X_isKnownOf_L2 F x1 x2 x3 I = some res) (kE : ∀ e : (Unit) ⊕ (Unit), res = .inl e → ((fun w : (Unit) ⊕ (Unit) => (match w with | .inl e0 => ((True) → Zt l g φ mu_X_isKnownOf 26 [none, none, none, none] [] (z, I, J, G)) | .inr o0 => ((True) → Zt l g φ mu_X_isKnownOf 34 [none, none, none, none] [] (z, I, J, G)))) e)) (kS : ∀ s : Int, res = .inr s → (inR s) → Zt l g φ mu_X_isKnownOf 2 [some (vR g 1), some (vI x1), some (vI x2), some (vI s)] [] (z, I, J, G)) : Zt l g φ mu_X_isKnownOf 2 [some (vR g 1), some (vI x1), some (vI x2), some (vI x3)] [] (z, I, J, G) := by
  refine z_iload_n dX10_isKnownOf_2 rfl ?_
  refine z_iload_n dX10_isKnownOf_3 rfl ?_
  refine z_icmp_ge (tgt := 34) dX10_isKnownOf_4 (by decide) hx3 hx1 (fun hc1 => ?_) (fun hc1 => ?_)
  · replace h := ifT hc1 h
    refine z_weak (L' := [none, none, none, none]) (lsN (lsN (lsN (lsN ls0)))) ?_
    exact kE _ (someE h).symm trivial
  replace h := ifF hc1 h
  refine z_iload_n dX10_isKnownOf_7 rfl ?_
  refine z_bipush dX10_isKnownOf_8 (by decide +kernel) ?_
  refine z_icmp_ge (tgt := 34) dX10_isKnownOf_10 (by decide) hx3 (inRd (x := 20) (by decide)) (fun hc2 => ?_) (fun hc2 => ?_)
  · replace h := ifT hc2 h
    refine z_weak (L' := [none, none, none, none]) (lsN (lsN (lsN (lsN ls0)))) ?_
    exact kE _ (someE h).symm trivial
  replace h := ifF hc2 h
  refine z_aload_n dX10_isKnownOf_13 rfl ?_
  refine y_getR dX10_isKnownOf_14 cl10 sh_1 (by decide) (Nat.le_trans (by decide) hz) 10 rfl rfl (fl_X_62) (ly_1_10 hG) (by decide) ?_
  refine z_iload_n dX10_isKnownOf_17 rfl ?_
  obtain ⟨hg3, h⟩ := guardE h
  refine z_nm (fun hN4 => ?_)
  refine y_iald dX10_isKnownOf_18 sh_242 (by decide) (Nat.le_trans (by decide) hz) hx3 hg3 ?_
  refine z_bipush dX10_isKnownOf_19 (by decide +kernel) ?_
  refine z_idiv dX10_isKnownOf_21 (inRd (x := 12) (by decide)) (by decide) ?_
  refine z_iload_n dX10_isKnownOf_22 rfl ?_
  refine z_icmp_ne (tgt := 28) dX10_isKnownOf_23 (by decide) inR_div hx2 (fun hc5 => ?_) (fun hc5 => ?_)
  · replace h := ifT hc5 h
    refine z_iinc (L' := [some (vR g 1), some (vI x1), some (vI x2), some (vI (w32 (x3 + 1)))]) dX10_isKnownOf_28 rfl rfl rfl rfl ?_
    refine z_goto (tgt := 2) dX10_isKnownOf_31 (by decide) ?_
    exact kS _ (someE h).symm (inR_w32 _)
  replace h := ifF (fun q => q hc5) h
  refine z_weak (L' := [none, none, none, none]) (lsN (lsN (lsN (lsN ls0)))) ?_
  exact kE _ (someE h).symm trivial
theorem l_X_isKnownOf_L2 {l : Launch} {g : GX} {φ : CX} {z : Nat} {G : Nat → Nat → Nat} {F : Nat} (hb : cb φ = z) (hz : 295 ≤ z) (hG : lyX G) {rv sp : Nat} (hrv : G 1 3 = rv) (hrr : isRiv rv) (hsp : G 1 4 = sp) (hss : isRiv sp) {x1 : Int} {x2 : Int} {I : Nat → Nat → Int} {J : Nat → Nat → Int} (hx1 : inR x1) (hx2 : inR x2) (n : Nat) (s : Int) (e : (Unit) ⊕ (Unit)) (h : iter (fun s : Int => f_X_isKnownOf_L2 F x1 x2 s I) n s = some e) (hs : inR s) (k : ((fun w : (Unit) ⊕ (Unit) => (match w with | .inl e0 => ((True) → Zt l g φ mu_X_isKnownOf 26 [none, none, none, none] [] (z, I, J, G)) | .inr o0 => ((True) → Zt l g φ mu_X_isKnownOf 34 [none, none, none, none] [] (z, I, J, G)))) e)) : Zt l g φ mu_X_isKnownOf 2 [some (vR g 1), some (vI x1), some (vI x2), some (vI s)] [] (z, I, J, G) := by
  refine iter_ind (Z := fun s : Int => Zt l g φ mu_X_isKnownOf 2 [some (vR g 1), some (vI x1), some (vI x2), some (vI s)] [] (z, I, J, G)) (ZE := fun e : (Unit) ⊕ (Unit) => ((fun w : (Unit) ⊕ (Unit) => (match w with | .inl e0 => ((True) → Zt l g φ mu_X_isKnownOf 26 [none, none, none, none] [] (z, I, J, G)) | .inr o0 => ((True) → Zt l g φ mu_X_isKnownOf 34 [none, none, none, none] [] (z, I, J, G)))) e)) (Rg := fun s : Int => inR s) ?_ n s e h hs k
  intro s r hr hst kE kS
  exact t_X_isKnownOf_L2 hb hz hG hrv hrr hsp hss hx1 hx2 hr hst kE kS
set_option maxHeartbeats 1000000 in
theorem s_X_isKnownOf {l : Launch} {g : GX} {z : Nat} {G : Nat → Nat → Nat} {F : Nat} (hz : 295 ≤ z) (hG : lyX G) {rv sp : Nat} (hrv : G 1 3 = rv) (hrr : isRiv rv) (hsp : G 1 4 = sp) (hss : isRiv sp) {x1 : Int} {x2 : Int} {I J : Nat → Nat → Int} (hx1 : inR x1) (hx2 : inR x2) {res : Int} (h : f_X_isKnownOf F x1 x2 I = some res) : Spec l g 0 yX10_isKnownOf cX10_isKnownOf 4 (some .boolean) [vR g 1, vI x1, vI x2] (z, I, J, G) (some (vI res)) (res = 0 ∨ res = 1) (z, I, J, G) := by
  refine spec_of (μ := mu_X_isKnownOf) (k := 1) (L0 := [some (vR g 1), some (vI x1), some (vI x2), none]) rfl mw_X_isKnownOf rfl rfl (Nat.le_refl _) (fun φ hb hE => ?_)
  refine z_iconst dX10_isKnownOf_0 ?_
  refine z_istore_n (L' := [some (vR g 1), some (vI x1), some (vI x2), some (vI 0)]) dX10_isKnownOf_1 rfl rfl rfl ?_
  obtain ⟨e6, h7, h⟩ := bindE h
  rcases e6 with e8 | o9
  · refine l_X_isKnownOf_L2 hb hz hG hrv hrr hsp hss hx1 hx2 _ _ _ h7 (inRd (x := 0) (by decide)) ?_
    refine fun h10 => ?_
    refine z_iconst dX10_isKnownOf_26 ?_
    obtain rfl := someE h
    exact z_zret dX10_isKnownOf_27 hE b01_1 b01_1 rfl
  refine l_X_isKnownOf_L2 hb hz hG hrv hrr hsp hss hx1 hx2 _ _ _ h7 (inRd (x := 0) (by decide)) ?_
  refine fun h11 => ?_
  refine z_iconst dX10_isKnownOf_34 ?_
  obtain rfl := someE h
  exact z_zret dX10_isKnownOf_35 hE b01_0 b01_0 rfl
set_option maxHeartbeats 1000000 in
theorem t_X_isKnownSo_L2 {l : Launch} {g : GX} {φ : CX} {z : Nat} {G : Nat → Nat → Nat} {F : Nat} (hb : cb φ = z) (hz : 295 ≤ z) (hG : lyX G) {rv sp : Nat} (hrv : G 1 3 = rv) (hrr : isRiv rv) (hsp : G 1 4 = sp) (hss : isRiv sp) {x1 : Int} {x2 : Int} {x3 : Int} {I J : Nat → Nat → Int} (hx1 : inR x1) (hx2 : inR x2) (hx3 : inR x3) {res : ((Unit) ⊕ (Unit)) ⊕ (Int)} (h : f_X_isKnownSo_L2 F x1 x2 x3 I = some res) (kE : ∀ e : (Unit) ⊕ (Unit), res = .inl e → ((fun w : (Unit) ⊕ (Unit) => (match w with | .inl e0 => ((True) → Zt l g φ mu_X_isKnownSo 49 [none, none, none, none] [] (z, I, J, G)) | .inr o0 => ((True) → Zt l g φ mu_X_isKnownSo 57 [none, none, none, none] [] (z, I, J, G)))) e)) (kS : ∀ s : Int, res = .inr s → (inR s) → Zt l g φ mu_X_isKnownSo 2 [some (vR g 1), some (vI x1), some (vI x2), some (vI s)] [] (z, I, J, G)) : Zt l g φ mu_X_isKnownSo 2 [some (vR g 1), some (vI x1), some (vI x2), some (vI x3)] [] (z, I, J, G) := by
  refine z_iload_n dX10_isKnownSo_2 rfl ?_
  refine z_iload_n dX10_isKnownSo_3 rfl ?_
  refine z_icmp_ge (tgt := 57) dX10_isKnownSo_4 (by decide) hx3 hx1 (fun hc1 => ?_) (fun hc1 => ?_)
  · replace h := ifT hc1 h
    refine z_weak (L' := [none, none, none, none]) (lsN (lsN (lsN (lsN ls0)))) ?_
    exact kE _ (someE h).symm trivial
  replace h := ifF hc1 h
  refine z_iload_n dX10_isKnownSo_7 rfl ?_
  refine z_bipush dX10_isKnownSo_8 (by decide +kernel) ?_
  refine z_icmp_ge (tgt := 57) dX10_isKnownSo_10 (by decide) hx3 (inRd (x := 20) (by decide)) (fun hc2 => ?_) (fun hc2 => ?_)
  · replace h := ifT hc2 h
    refine z_weak (L' := [none, none, none, none]) (lsN (lsN (lsN (lsN ls0)))) ?_
    exact kE _ (someE h).symm trivial
  replace h := ifF hc2 h
  refine z_aload_n dX10_isKnownSo_13 rfl ?_
  refine y_getR dX10_isKnownSo_14 cl10 sh_1 (by decide) (Nat.le_trans (by decide) hz) 10 rfl rfl (fl_X_62) (ly_1_10 hG) (by decide) ?_
  refine z_iload_n dX10_isKnownSo_17 rfl ?_
  obtain ⟨hg3, h⟩ := guardE h
  refine z_nm (fun hN4 => ?_)
  refine y_iald dX10_isKnownSo_18 sh_242 (by decide) (Nat.le_trans (by decide) hz) hx3 hg3 ?_
  refine z_bipush dX10_isKnownSo_19 (by decide +kernel) ?_
  refine z_idiv dX10_isKnownSo_21 (inRd (x := 12) (by decide)) (by decide) ?_
  refine z_iload_n dX10_isKnownSo_22 rfl ?_
  refine z_icmp_ne (tgt := 51) dX10_isKnownSo_23 (by decide) inR_div hx2 (fun hc5 => ?_) (fun hc5 => ?_)
  · replace h := ifT hc5 h
    refine z_iinc (L' := [some (vR g 1), some (vI x1), some (vI x2), some (vI (w32 (x3 + 1)))]) dX10_isKnownSo_51 rfl rfl rfl rfl ?_
    refine z_goto (tgt := 2) dX10_isKnownSo_54 (by decide) ?_
    exact kS _ (someE h).symm (inR_w32 _)
  replace h := ifF (fun q => q hc5) h
  refine z_aload_n dX10_isKnownSo_26 rfl ?_
  refine y_getR dX10_isKnownSo_27 cl10 sh_1 (by decide) (Nat.le_trans (by decide) hz) 6 rfl rfl (fl_X_44) (ly_1_6 hG) (by decide) ?_
  refine y_getNR (host := "FarewellStones") dX10_isKnownSo_30 cl0 sh_56 (by decide) (Nat.le_trans (by decide) hz) 1 rfl rfl (flN_X_123) (bed_g1 hG (is_56)) (Nat.succ_pos _) ?_
  refine z_aload_n dX10_isKnownSo_33 rfl ?_
  refine y_getR dX10_isKnownSo_34 cl10 sh_1 (by decide) (Nat.le_trans (by decide) hz) 10 rfl rfl (fl_X_62) (ly_1_10 hG) (by decide) ?_
  refine z_iload_n dX10_isKnownSo_37 rfl ?_
  refine y_iald dX10_isKnownSo_38 sh_242 (by decide) (Nat.le_trans (by decide) hz) hx3 hg3 ?_
  obtain ⟨hg6, h⟩ := guardE h
  refine y_iald dX10_isKnownSo_39 (bed_sh1 (is_56)) (Nat.succ_pos _) (Nat.le_trans (bed_le1 (is_56)) hz) (hN4.1 242 (x3).toNat) hg6 ?_
  refine z_aload_n dX10_isKnownSo_40 rfl ?_
  refine y_getR dX10_isKnownSo_41 cl10 sh_1 (by decide) (Nat.le_trans (by decide) hz) 11 rfl rfl (fl_X_66) (ly_1_11 hG) (by decide) ?_
  refine z_iload_n dX10_isKnownSo_44 rfl ?_
  refine y_iald dX10_isKnownSo_45 sh_243 (by decide) (Nat.le_trans (by decide) hz) hx3 hg3 ?_
  refine z_icmp_eq (tgt := 51) dX10_isKnownSo_46 (by decide) (hN4.1 (56 + 1) ((I 242 (x3).toNat)).toNat) (hN4.1 243 (x3).toNat) (fun hc7 => ?_) (fun hc7 => ?_)
  · replace h := ifT hc7 h
    refine z_iinc (L' := [some (vR g 1), some (vI x1), some (vI x2), some (vI (w32 (x3 + 1)))]) dX10_isKnownSo_51 rfl rfl rfl rfl ?_
    refine z_goto (tgt := 2) dX10_isKnownSo_54 (by decide) ?_
    exact kS _ (someE h).symm (inR_w32 _)
  replace h := ifF hc7 h
  refine z_weak (L' := [none, none, none, none]) (lsN (lsN (lsN (lsN ls0)))) ?_
  exact kE _ (someE h).symm trivial
theorem l_X_isKnownSo_L2 {l : Launch} {g : GX} {φ : CX} {z : Nat} {G : Nat → Nat → Nat} {F : Nat} (hb : cb φ = z) (hz : 295 ≤ z) (hG : lyX G) {rv sp : Nat} (hrv : G 1 3 = rv) (hrr : isRiv rv) (hsp : G 1 4 = sp) (hss : isRiv sp) {x1 : Int} {x2 : Int} {I : Nat → Nat → Int} {J : Nat → Nat → Int} (hx1 : inR x1) (hx2 : inR x2) (n : Nat) (s : Int) (e : (Unit) ⊕ (Unit)) (h : iter (fun s : Int => f_X_isKnownSo_L2 F x1 x2 s I) n s = some e) (hs : inR s) (k : ((fun w : (Unit) ⊕ (Unit) => (match w with | .inl e0 => ((True) → Zt l g φ mu_X_isKnownSo 49 [none, none, none, none] [] (z, I, J, G)) | .inr o0 => ((True) → Zt l g φ mu_X_isKnownSo 57 [none, none, none, none] [] (z, I, J, G)))) e)) : Zt l g φ mu_X_isKnownSo 2 [some (vR g 1), some (vI x1), some (vI x2), some (vI s)] [] (z, I, J, G) := by
  refine iter_ind (Z := fun s : Int => Zt l g φ mu_X_isKnownSo 2 [some (vR g 1), some (vI x1), some (vI x2), some (vI s)] [] (z, I, J, G)) (ZE := fun e : (Unit) ⊕ (Unit) => ((fun w : (Unit) ⊕ (Unit) => (match w with | .inl e0 => ((True) → Zt l g φ mu_X_isKnownSo 49 [none, none, none, none] [] (z, I, J, G)) | .inr o0 => ((True) → Zt l g φ mu_X_isKnownSo 57 [none, none, none, none] [] (z, I, J, G)))) e)) (Rg := fun s : Int => inR s) ?_ n s e h hs k
  intro s r hr hst kE kS
  exact t_X_isKnownSo_L2 hb hz hG hrv hrr hsp hss hx1 hx2 hr hst kE kS
set_option maxHeartbeats 1000000 in
theorem s_X_isKnownSo {l : Launch} {g : GX} {z : Nat} {G : Nat → Nat → Nat} {F : Nat} (hz : 295 ≤ z) (hG : lyX G) {rv sp : Nat} (hrv : G 1 3 = rv) (hrr : isRiv rv) (hsp : G 1 4 = sp) (hss : isRiv sp) {x1 : Int} {x2 : Int} {I J : Nat → Nat → Int} (hx1 : inR x1) (hx2 : inR x2) {res : Int} (h : f_X_isKnownSo F x1 x2 I = some res) : Spec l g 0 yX10_isKnownSo cX10_isKnownSo 4 (some .boolean) [vR g 1, vI x1, vI x2] (z, I, J, G) (some (vI res)) (res = 0 ∨ res = 1) (z, I, J, G) := by
  refine spec_of (μ := mu_X_isKnownSo) (k := 1) (L0 := [some (vR g 1), some (vI x1), some (vI x2), none]) rfl mw_X_isKnownSo rfl rfl (Nat.le_refl _) (fun φ hb hE => ?_)
  refine z_iconst dX10_isKnownSo_0 ?_
  refine z_istore_n (L' := [some (vR g 1), some (vI x1), some (vI x2), some (vI 0)]) dX10_isKnownSo_1 rfl rfl rfl ?_
  obtain ⟨e8, h9, h⟩ := bindE h
  rcases e8 with e10 | o11
  · refine l_X_isKnownSo_L2 hb hz hG hrv hrr hsp hss hx1 hx2 _ _ _ h9 (inRd (x := 0) (by decide)) ?_
    refine fun h12 => ?_
    refine z_iconst dX10_isKnownSo_49 ?_
    obtain rfl := someE h
    exact z_zret dX10_isKnownSo_50 hE b01_0 b01_0 rfl
  refine l_X_isKnownSo_L2 hb hz hG hrv hrr hsp hss hx1 hx2 _ _ _ h9 (inRd (x := 0) (by decide)) ?_
  refine fun h13 => ?_
  refine z_iconst dX10_isKnownSo_57 ?_
  obtain rfl := someE h
  exact z_zret dX10_isKnownSo_58 hE b01_1 b01_1 rfl
set_option maxHeartbeats 1000000 in
theorem s_X_fitsAt {l : Launch} {g : GX} {z : Nat} {G : Nat → Nat → Nat} {F : Nat} (hz : 295 ≤ z) (hG : lyX G) {rv sp : Nat} (hrv : G 1 3 = rv) (hrr : isRiv rv) (hsp : G 1 4 = sp) (hss : isRiv sp) {x1 : Int} {x2 : Int} {x3 : Int} {x4 : Int} {x5 : Int} {I J : Nat → Nat → Int} (hx1 : inR x1) (hx2 : inR x2) (hx3 : inR x3) (hx4 : inR x4) (hx5 : inR x5) {res : Int × MI} (h : f_X_fitsAt F x1 x2 x3 x4 x5 rv I = some res) : Spec l g 18 yX10_fitsAt cX10_fitsAt 6 (some .boolean) [vR g 1, vI x1, vI x2, vI x3, vI x4, vI x5] (z, I, J, G) (some (vI res.1)) (res.1 = 0 ∨ res.1 = 1) (z, res.2, J, G) := by
  refine spec_of (μ := mu_X_fitsAt) (k := 0) (L0 := [some (vR g 1), some (vI x1), some (vI x2), some (vI x3), some (vI x4), some (vI x5)]) rfl mw_X_fitsAt rfl rfl (Nat.le_refl _) (fun φ hb hE => ?_)
  refine z_aload_n dX10_fitsAt_0 rfl ?_
  refine z_iload dX10_fitsAt_1 rfl ?_
  refine z_iload_n dX10_fitsAt_3 rfl ?_
  obtain ⟨q1, hq2, h⟩ := bindE h
  refine z_callV (As := [vI x4, vI x3]) (rest := []) (s_X_isKnownOf hz hG hrv hrr hsp hss hx4 hx3 hq2) dX10_fitsAt_4 mw_X_isKnownOf cl10 sh_1 (by decide) (Nat.le_trans (by decide) hz) ml_X_298 im_X_isKnownOf se_X_isKnownOf rfl rfl rfl rfl (Nat.le_refl _) (Nat.le_of_eq hb.symm) (fun hp3 => ?_)
  show Zt _ _ _ _ 7 _ [vI q1] (z, I, J, G)
  refine z_if_ne (tgt := 12) dX10_fitsAt_7 (by decide) (inR_bool hp3) (fun hc4 => ?_) (fun hc4 => ?_)
  · replace h := ifT hc4 h
    refine z_aload_n dX10_fitsAt_12 rfl ?_
    refine y_getR dX10_fitsAt_13 cl10 sh_1 (by decide) (Nat.le_trans (by decide) hz) 6 rfl rfl (fl_X_44) (ly_1_6 hG) (by decide) ?_
    refine z_aload_n dX10_fitsAt_16 rfl ?_
    refine y_getR dX10_fitsAt_17 cl10 sh_1 (by decide) (Nat.le_trans (by decide) hz) 5 rfl rfl (fl_X_40) (ly_1_5 hG) (by decide) ?_
    obtain ⟨q5, hq6, h⟩ := bindE h
    refine z_callV (As := [vR g 49]) (rest := []) (s_B_copyFrom hz hG (is_56) (is_49) hq6) dX10_fitsAt_20 mw_B_copyFrom cl0 sh_56 (by decide) (Nat.le_trans (by decide) hz) ml_X_216 im_B_copyFrom se_B_copyFrom rfl rfl rfl rfl (Nat.le_refl _) (Nat.le_of_eq hb.symm) (fun hp7 => ?_)
    show Zt _ _ _ _ 23 _ [] (z, q5, J, G)
    refine z_aload_n dX10_fitsAt_23 rfl ?_
    refine y_getR dX10_fitsAt_24 cl10 sh_1 (by decide) (Nat.le_trans (by decide) hz) 6 rfl rfl (fl_X_44) (ly_1_6 hG) (by decide) ?_
    refine z_aload_n dX10_fitsAt_27 rfl ?_
    refine y_getR dX10_fitsAt_28 cl10 sh_1 (by decide) (Nat.le_trans (by decide) hz) 3 rfl rfl (fl_X_30) hrv (riv_pos hrr) ?_
    refine z_iload_n dX10_fitsAt_31 rfl ?_
    refine z_iload_n dX10_fitsAt_32 rfl ?_
    refine z_iload_n dX10_fitsAt_33 rfl ?_
    obtain ⟨q8, hq9, h⟩ := bindE h
    refine z_callV (As := [vR g rv, vI x1, vI x2, vI x3]) (rest := []) (s_B_throwStone hz hG (is_56) hrr hx1 hx2 hx3 hq9) dX10_fitsAt_34 mw_B_throwStone cl0 sh_56 (by decide) (Nat.le_trans (by decide) hz) ml_X_201 im_B_throwStone se_B_throwStone rfl rfl rfl rfl (Nat.le_refl _) (Nat.le_of_eq hb.symm) (fun hp10 => ?_)
    show Zt _ _ _ _ 37 _ [vI q8.1] (z, q8.2, J, G)
    refine z_pop dX10_fitsAt_37 rfl ?_
    refine z_aload_n dX10_fitsAt_38 rfl ?_
    refine y_getR dX10_fitsAt_39 cl10 sh_1 (by decide) (Nat.le_trans (by decide) hz) 6 rfl rfl (fl_X_44) (ly_1_6 hG) (by decide) ?_
    refine z_aload_n dX10_fitsAt_42 rfl ?_
    refine y_getR dX10_fitsAt_43 cl10 sh_1 (by decide) (Nat.le_trans (by decide) hz) 3 rfl rfl (fl_X_30) hrv (riv_pos hrr) ?_
    refine z_iload dX10_fitsAt_46 rfl ?_
    refine z_iload_n dX10_fitsAt_48 rfl ?_
    refine z_iload_n dX10_fitsAt_49 rfl ?_
    refine z_iconst dX10_fitsAt_50 ?_
    refine z_iadd dX10_fitsAt_51 ?_
    obtain ⟨q11, hq12, h⟩ := bindE h
    refine z_callV (As := [vR g rv, vI x5, vI x3, vI (w32 (x3 + 1))]) (rest := []) (s_B_passDays hz hG (is_56) hrr hx5 hx3 (inR_w32 _) hq12) dX10_fitsAt_52 mw_B_passDays cl0 sh_56 (by decide) (Nat.le_trans (by decide) hz) ml_X_208 im_B_passDays se_B_passDays rfl rfl rfl rfl (Nat.le_refl _) (Nat.le_of_eq hb.symm) (fun hp13 => ?_)
    show Zt _ _ _ _ 55 _ [] (z, q11, J, G)
    refine z_aload_n dX10_fitsAt_55 rfl ?_
    refine z_iload dX10_fitsAt_56 rfl ?_
    refine z_iload_n dX10_fitsAt_58 rfl ?_
    obtain ⟨q14, hq15, h⟩ := bindE h
    refine z_callV (As := [vI x4, vI x3]) (rest := []) (s_X_isKnownSo hz hG hrv hrr hsp hss hx4 hx3 hq15) dX10_fitsAt_59 mw_X_isKnownSo cl10 sh_1 (by decide) (Nat.le_trans (by decide) hz) ml_X_295 im_X_isKnownSo se_X_isKnownSo rfl rfl rfl rfl (Nat.le_refl _) (Nat.le_of_eq hb.symm) (fun hp16 => ?_)
    show Zt _ _ _ _ 62 _ [vI q14] (z, q11, J, G)
    obtain rfl := someE h
    exact z_zret dX10_fitsAt_62 hE hp16 hp16 rfl
  replace h := ifF (fun q => q hc4) h
  refine z_iconst dX10_fitsAt_10 ?_
  obtain rfl := someE h
  exact z_zret dX10_fitsAt_11 hE b01_1 b01_1 rfl
set_option maxHeartbeats 1000000 in
theorem t_X_rowsWrongWithout_L36 {l : Launch} {g : GX} {φ : CX} {z : Nat} {G : Nat → Nat → Nat} {F : Nat} (hb : cb φ = z) (hz : 295 ≤ z) (hG : lyX G) {rv sp : Nat} (hrv : G 1 3 = rv) (hrr : isRiv rv) (hsp : G 1 4 = sp) (hss : isRiv sp) {x1 : Int} {x3 : Int} {x4 : Int} {I J : Nat → Nat → Int} (hx1 : inR x1) (hx3 : inR x3) (hx4 : inR x4) {res : (Int) ⊕ (Int × Int)} (h : f_X_rowsWrongWithout_L36 F x1 x3 x4 rv I = some res) (kE : ∀ e : Int, res = .inl e → ((inR e) → Zt l g φ mu_X_rowsWrongWithout 71 [none, none, none, some (vI e), none] [] (z, I, J, G))) (kS : ∀ s : Int × Int, res = .inr s → (inR s.1 ∧ inR s.2) → Zt l g φ mu_X_rowsWrongWithout 36 [some (vR g 1), some (vI x1), none, some (vI s.1), some (vI s.2)] [] (z, I, J, G)) : Zt l g φ mu_X_rowsWrongWithout 36 [some (vR g 1), some (vI x1), none, some (vI x3), some (vI x4)] [] (z, I, J, G) := by
  refine z_iload dX10_rowsWrongWithout_36 rfl ?_
  refine z_aload_n dX10_rowsWrongWithout_38 rfl ?_
  refine y_getR dX10_rowsWrongWithout_39 cl10 sh_1 (by decide) (Nat.le_trans (by decide) hz) 3 rfl rfl (fl_X_30) hrv (riv_pos hrr) ?_
  refine z_nm (fun hN8 => ?_)
  refine y_getNI (host := "FarewellStones") dX10_rowsWrongWithout_42 cl6 (riv_sh hrr) (riv_pos hrr) (Nat.le_trans (riv_le hrr) hz) 1 rfl rfl (flN_X_166) ?_
  refine z_icmp_ge (tgt := 71) dX10_rowsWrongWithout_45 (by decide) hx4 (hN8.1 rv 1) (fun hc9 => ?_) (fun hc9 => ?_)
  · replace h := ifT hc9 h
    refine z_weak (L' := [none, none, none, some (vI x3), none]) (lsN (lsN (lsN (lsS (lsN ls0))))) ?_
    exact kE _ (someE h).symm hx3
  replace h := ifF hc9 h
  refine z_aload_n dX10_rowsWrongWithout_48 rfl ?_
  refine z_iload_n dX10_rowsWrongWithout_49 rfl ?_
  refine z_iload dX10_rowsWrongWithout_50 rfl ?_
  obtain ⟨q10, hq11, h⟩ := bindE h
  refine z_callV (As := [vI x1, vI x4]) (rest := []) (s_X_isKnownSo hz hG hrv hrr hsp hss hx1 hx4 hq11) dX10_rowsWrongWithout_52 mw_X_isKnownSo cl10 sh_1 (by decide) (Nat.le_trans (by decide) hz) ml_X_295 im_X_isKnownSo se_X_isKnownSo rfl rfl rfl rfl (Nat.le_refl _) (Nat.le_of_eq hb.symm) (fun hp12 => ?_)
  show Zt _ _ _ _ 55 _ [vI q10] (z, I, J, G)
  refine z_if_ne (tgt := 65) dX10_rowsWrongWithout_55 (by decide) (inR_bool hp12) (fun hc13 => ?_) (fun hc13 => ?_)
  · replace h := ifT hc13 h
    refine z_iinc (L' := [some (vR g 1), some (vI x1), none, some (vI x3), some (vI (w32 (x4 + 1)))]) dX10_rowsWrongWithout_65 rfl rfl rfl rfl ?_
    refine z_goto (tgt := 36) dX10_rowsWrongWithout_68 (by decide) ?_
    exact kS _ (someE h).symm ⟨hx3, (inR_w32 _)⟩
  replace h := ifF (fun q => q hc13) h
  refine z_iload_n dX10_rowsWrongWithout_58 rfl ?_
  refine z_iconst dX10_rowsWrongWithout_59 ?_
  refine z_iload dX10_rowsWrongWithout_60 rfl ?_
  refine z_ishl dX10_rowsWrongWithout_62 ?_
  refine z_ior dX10_rowsWrongWithout_63 ?_
  refine z_istore_n (L' := [some (vR g 1), some (vI x1), none, some (vI (or32 x3 (shl32 1 x4))), some (vI x4)]) dX10_rowsWrongWithout_64 rfl rfl rfl ?_
  refine z_iinc (L' := [some (vR g 1), some (vI x1), none, some (vI (or32 x3 (shl32 1 x4))), some (vI (w32 (x4 + 1)))]) dX10_rowsWrongWithout_65 rfl rfl rfl rfl ?_
  refine z_goto (tgt := 36) dX10_rowsWrongWithout_68 (by decide) ?_
  exact kS _ (someE h).symm ⟨inR_or, (inR_w32 _)⟩
theorem l_X_rowsWrongWithout_L36 {l : Launch} {g : GX} {φ : CX} {z : Nat} {G : Nat → Nat → Nat} {F : Nat} (hb : cb φ = z) (hz : 295 ≤ z) (hG : lyX G) {rv sp : Nat} (hrv : G 1 3 = rv) (hrr : isRiv rv) (hsp : G 1 4 = sp) (hss : isRiv sp) {x1 : Int} {I : Nat → Nat → Int} {J : Nat → Nat → Int} (hx1 : inR x1) (n : Nat) (s : Int × Int) (e : Int) (h : iter (fun s : Int × Int => f_X_rowsWrongWithout_L36 F x1 s.1 s.2 rv I) n s = some e) (hs : inR s.1 ∧ inR s.2) (k : ((inR e) → Zt l g φ mu_X_rowsWrongWithout 71 [none, none, none, some (vI e), none] [] (z, I, J, G))) : Zt l g φ mu_X_rowsWrongWithout 36 [some (vR g 1), some (vI x1), none, some (vI s.1), some (vI s.2)] [] (z, I, J, G) := by
  refine iter_ind (Z := fun s : Int × Int => Zt l g φ mu_X_rowsWrongWithout 36 [some (vR g 1), some (vI x1), none, some (vI s.1), some (vI s.2)] [] (z, I, J, G)) (ZE := fun e : Int => ((inR e) → Zt l g φ mu_X_rowsWrongWithout 71 [none, none, none, some (vI e), none] [] (z, I, J, G))) (Rg := fun s : Int × Int => inR s.1 ∧ inR s.2) ?_ n s e h hs k
  intro s r hr hst kE kS
  exact t_X_rowsWrongWithout_L36 hb hz hG hrv hrr hsp hss hx1 hr.1 hr.2 hst kE kS
set_option maxHeartbeats 1000000 in
theorem s_X_rowsWrongWithout {l : Launch} {g : GX} {z : Nat} {G : Nat → Nat → Nat} {F : Nat} (hz : 295 ≤ z) (hG : lyX G) {rv sp : Nat} (hrv : G 1 3 = rv) (hrr : isRiv rv) (hsp : G 1 4 = sp) (hss : isRiv sp) {x1 : Int} {x2 : Int} {I J : Nat → Nat → Int} (hx1 : inR x1) (hx2 : inR x2) {res : Int × MI} (h : f_X_rowsWrongWithout F x1 x2 rv I = some res) : Spec l g 18 yX10_rowsWrongWithout cX10_rowsWrongWithout 5 (some .int) [vR g 1, vI x1, vI x2] (z, I, J, G) (some (vI res.1)) (inR res.1) (z, res.2, J, G) := by
  refine spec_of (μ := mu_X_rowsWrongWithout) (k := 2) (L0 := [some (vR g 1), some (vI x1), some (vI x2), none, none]) rfl mw_X_rowsWrongWithout rfl rfl (Nat.le_refl _) (fun φ hb hE => ?_)
  refine z_aload_n dX10_rowsWrongWithout_0 rfl ?_
  refine y_getR dX10_rowsWrongWithout_1 cl10 sh_1 (by decide) (Nat.le_trans (by decide) hz) 6 rfl rfl (fl_X_44) (ly_1_6 hG) (by decide) ?_
  refine z_aload_n dX10_rowsWrongWithout_4 rfl ?_
  refine y_getR dX10_rowsWrongWithout_5 cl10 sh_1 (by decide) (Nat.le_trans (by decide) hz) 5 rfl rfl (fl_X_40) (ly_1_5 hG) (by decide) ?_
  obtain ⟨q1, hq2, h⟩ := bindE h
  refine z_callV (As := [vR g 49]) (rest := []) (s_B_copyFrom hz hG (is_56) (is_49) hq2) dX10_rowsWrongWithout_8 mw_B_copyFrom cl0 sh_56 (by decide) (Nat.le_trans (by decide) hz) ml_X_216 im_B_copyFrom se_B_copyFrom rfl rfl rfl rfl (Nat.le_refl _) (Nat.le_of_eq hb.symm) (fun hp3 => ?_)
  show Zt _ _ _ _ 11 _ [] (z, q1, J, G)
  refine z_aload_n dX10_rowsWrongWithout_11 rfl ?_
  refine y_getR dX10_rowsWrongWithout_12 cl10 sh_1 (by decide) (Nat.le_trans (by decide) hz) 6 rfl rfl (fl_X_44) (ly_1_6 hG) (by decide) ?_
  refine z_aload_n dX10_rowsWrongWithout_15 rfl ?_
  refine y_getR dX10_rowsWrongWithout_16 cl10 sh_1 (by decide) (Nat.le_trans (by decide) hz) 3 rfl rfl (fl_X_30) hrv (riv_pos hrr) ?_
  refine z_iload_n dX10_rowsWrongWithout_19 rfl ?_
  refine z_iconst dX10_rowsWrongWithout_20 ?_
  refine z_aload_n dX10_rowsWrongWithout_21 rfl ?_
  refine y_getR dX10_rowsWrongWithout_22 cl10 sh_1 (by decide) (Nat.le_trans (by decide) hz) 3 rfl rfl (fl_X_30) hrv (riv_pos hrr) ?_
  refine z_nm (fun hN4 => ?_)
  refine y_getNI (host := "FarewellStones") dX10_rowsWrongWithout_25 cl6 (riv_sh hrr) (riv_pos hrr) (Nat.le_trans (riv_le hrr) hz) 1 rfl rfl (flN_X_166) ?_
  obtain ⟨q5, hq6, h⟩ := bindE h
  refine z_callV (As := [vR g rv, vI x2, vI 0, vI (q1 rv 1)]) (rest := []) (s_B_passDays hz hG (is_56) hrr hx2 (inRd (x := 0) (by decide)) (hN4.1 rv 1) hq6) dX10_rowsWrongWithout_28 mw_B_passDays cl0 sh_56 (by decide) (Nat.le_trans (by decide) hz) ml_X_208 im_B_passDays se_B_passDays rfl rfl rfl rfl (Nat.le_refl _) (Nat.le_of_eq hb.symm) (fun hp7 => ?_)
  show Zt _ _ _ _ 31 _ [] (z, q5, J, G)
  refine z_iconst dX10_rowsWrongWithout_31 ?_
  refine z_istore_n (L' := [some (vR g 1), some (vI x1), some (vI x2), some (vI 0), none]) dX10_rowsWrongWithout_32 rfl rfl rfl ?_
  refine z_iconst dX10_rowsWrongWithout_33 ?_
  refine z_istore (L' := [some (vR g 1), some (vI x1), some (vI x2), some (vI 0), some (vI 0)]) dX10_rowsWrongWithout_34 rfl rfl rfl ?_
  refine z_weak (L' := [some (vR g 1), some (vI x1), none, some (vI 0), some (vI 0)]) (lsS (lsS (lsN (lsS (lsS ls0))))) ?_
  obtain ⟨e14, h15, h⟩ := bindE h
  refine l_X_rowsWrongWithout_L36 hb hz hG hrv hrr hsp hss hx1 _ _ _ h15 ⟨(inRd (x := 0) (by decide)), (inRd (x := 0) (by decide))⟩ ?_
  refine fun h16 => ?_
  refine z_iload_n dX10_rowsWrongWithout_71 rfl ?_
  obtain rfl := someE h
  exact z_iret dX10_rowsWrongWithout_72 hE h16 rfl
set_option maxHeartbeats 1000000 in
theorem t_X_fits_L99 {l : Launch} {g : GX} {φ : CX} {z : Nat} {G : Nat → Nat → Nat} {F : Nat} (hb : cb φ = z) (hz : 295 ≤ z) (hG : lyX G) {rv sp : Nat} (hrv : G 1 3 = rv) (hrr : isRiv rv) (hsp : G 1 4 = sp) (hss : isRiv sp) {x1 : Int} {x2 : Int} {x3 : Int} {x4 : Int} {x5 : Int} {x6 : Int} {x7 : Int} {x8 : Int} {I J : Nat → Nat → Int} (hx1 : inR x1) (hx2 : inR x2) (hx3 : inR x3) (hx4 : inR x4) (hx5 : inR x5) (hx6 : inR x6) (hx7 : inR x7) (hx8 : inR x8) {res : ((Int × MI) ⊕ (Int × MI)) ⊕ (Int × Int × MI)} (h : f_X_fits_L99 F x1 x2 x3 x4 x5 x6 x7 x8 rv I = some res) (kE : ∀ e : (Int × MI) ⊕ (Int × MI), res = .inl e → ((fun w : (Int × MI) ⊕ (Int × MI) => (match w with | .inl e0 => ((inR e0.1) → Zt l g φ mu_X_fits 135 [none, none, none, none, none, none, none, some (vI x7), some (vI e0.1)] [] (z, e0.2, J, G)) | .inr o0 => ((inR o0.1) → Zt l g φ mu_X_fits 155 [some (vR g 1), some (vI x1), some (vI x2), some (vI x3), some (vI x4), some (vI x5), some (vI o0.1), some (vI x7), none] [] (z, o0.2, J, G)))) e)) (kS : ∀ s : Int × Int × MI, res = .inr s → (inR s.1 ∧ inR s.2.1) → Zt l g φ mu_X_fits 99 [some (vR g 1), some (vI x1), some (vI x2), some (vI x3), some (vI x4), some (vI x5), some (vI s.1), some (vI x7), some (vI s.2.1)] [] (z, s.2.2, J, G)) : Zt l g φ mu_X_fits 99 [some (vR g 1), some (vI x1), some (vI x2), some (vI x3), some (vI x4), some (vI x5), some (vI x6), some (vI x7), some (vI x8)] [] (z, I, J, G) := by
  refine z_iload dX10_fits_99 rfl ?_
  refine z_aload_n dX10_fits_101 rfl ?_
  refine y_getR dX10_fits_102 cl10 sh_1 (by decide) (Nat.le_trans (by decide) hz) 3 rfl rfl (fl_X_30) hrv (riv_pos hrr) ?_
  refine z_nm (fun hN21 => ?_)
  refine y_getNI (host := "FarewellStones") dX10_fits_105 cl6 (riv_sh hrr) (riv_pos hrr) (Nat.le_trans (riv_le hrr) hz) 0 rfl rfl (flN_X_163) ?_
  refine z_icmp_ge (tgt := 155) dX10_fits_108 (by decide) hx8 (hN21.1 rv 0) (fun hc22 => ?_) (fun hc22 => ?_)
  · replace h := ifT hc22 h
    refine z_weak (L' := [some (vR g 1), some (vI x1), some (vI x2), some (vI x3), some (vI x4), some (vI x5), some (vI x6), some (vI x7), none]) (lsS (lsS (lsS (lsS (lsS (lsS (lsS (lsS (lsN ls0))))))))) ?_
    exact kE _ (someE h).symm hx6
  replace h := ifF hc22 h
  refine z_aload_n dX10_fits_111 rfl ?_
  refine z_iload_n dX10_fits_112 rfl ?_
  refine z_iload dX10_fits_113 rfl ?_
  refine z_iload dX10_fits_115 rfl ?_
  refine z_iload_n dX10_fits_117 rfl ?_
  refine z_iload_n dX10_fits_118 rfl ?_
  obtain ⟨q23, hq24, h⟩ := bindE h
  refine z_callV (As := [vI x1, vI x8, vI x7, vI x2, vI x3]) (rest := []) (s_X_fitsAt hz hG hrv hrr hsp hss hx1 hx8 hx7 hx2 hx3 hq24) dX10_fits_119 mw_X_fitsAt cl10 sh_1 (by decide) (Nat.le_trans (by decide) hz) ml_X_291 im_X_fitsAt se_X_fitsAt rfl rfl rfl rfl (Nat.le_refl _) (Nat.le_of_eq hb.symm) (fun hp25 => ?_)
  show Zt _ _ _ _ 122 _ [vI q23.1] (z, q23.2, J, G)
  refine z_if_ne (tgt := 128) dX10_fits_122 (by decide) (inR_bool hp25) (fun hc26 => ?_) (fun hc26 => ?_)
  · replace h := ifT hc26 h
    refine z_iload dX10_fits_128 rfl ?_
    refine z_iload dX10_fits_130 rfl ?_
    refine z_icmp_ne (tgt := 146) dX10_fits_132 (by decide) hx6 hx4 (fun hc27 => ?_) (fun hc27 => ?_)
    · replace h := ifT hc27 h
      refine z_iinc (L' := [some (vR g 1), some (vI x1), some (vI x2), some (vI x3), some (vI x4), some (vI x5), some (vI (w32 (x6 + 1))), some (vI x7), some (vI x8)]) dX10_fits_146 rfl rfl rfl rfl ?_
      refine z_iinc (L' := [some (vR g 1), some (vI x1), some (vI x2), some (vI x3), some (vI x4), some (vI x5), some (vI (w32 (x6 + 1))), some (vI x7), some (vI (w32 (x8 + 1)))]) dX10_fits_149 rfl rfl rfl rfl ?_
      refine z_goto (tgt := 99) dX10_fits_152 (by decide) ?_
      exact kS _ (someE h).symm ⟨(inR_w32 _), (inR_w32 _)⟩
    replace h := ifF (fun q => q hc27) h
    refine z_weak (L' := [none, none, none, none, none, none, none, some (vI x7), some (vI x8)]) (lsN (lsN (lsN (lsN (lsN (lsN (lsN (lsS (lsS ls0))))))))) ?_
    exact kE _ (someE h).symm hx8
  replace h := ifF (fun q => q hc26) h
  refine z_goto (tgt := 149) dX10_fits_125 (by decide) ?_
  refine z_iinc (L' := [some (vR g 1), some (vI x1), some (vI x2), some (vI x3), some (vI x4), some (vI x5), some (vI x6), some (vI x7), some (vI (w32 (x8 + 1)))]) dX10_fits_149 rfl rfl rfl rfl ?_
  refine z_goto (tgt := 99) dX10_fits_152 (by decide) ?_
  exact kS _ (someE h).symm ⟨hx6, (inR_w32 _)⟩
theorem l_X_fits_L99 {l : Launch} {g : GX} {φ : CX} {z : Nat} {G : Nat → Nat → Nat} {F : Nat} (hb : cb φ = z) (hz : 295 ≤ z) (hG : lyX G) {rv sp : Nat} (hrv : G 1 3 = rv) (hrr : isRiv rv) (hsp : G 1 4 = sp) (hss : isRiv sp) {x1 : Int} {x2 : Int} {x3 : Int} {x4 : Int} {x5 : Int} {x7 : Int} {J : Nat → Nat → Int} (hx1 : inR x1) (hx2 : inR x2) (hx3 : inR x3) (hx4 : inR x4) (hx5 : inR x5) (hx7 : inR x7) (n : Nat) (s : Int × Int × MI) (e : (Int × MI) ⊕ (Int × MI)) (h : iter (fun s : Int × Int × MI => f_X_fits_L99 F x1 x2 x3 x4 x5 s.1 x7 s.2.1 rv s.2.2) n s = some e) (hs : inR s.1 ∧ inR s.2.1) (k : ((fun w : (Int × MI) ⊕ (Int × MI) => (match w with | .inl e0 => ((inR e0.1) → Zt l g φ mu_X_fits 135 [none, none, none, none, none, none, none, some (vI x7), some (vI e0.1)] [] (z, e0.2, J, G)) | .inr o0 => ((inR o0.1) → Zt l g φ mu_X_fits 155 [some (vR g 1), some (vI x1), some (vI x2), some (vI x3), some (vI x4), some (vI x5), some (vI o0.1), some (vI x7), none] [] (z, o0.2, J, G)))) e)) : Zt l g φ mu_X_fits 99 [some (vR g 1), some (vI x1), some (vI x2), some (vI x3), some (vI x4), some (vI x5), some (vI s.1), some (vI x7), some (vI s.2.1)] [] (z, s.2.2, J, G) := by
  refine iter_ind (Z := fun s : Int × Int × MI => Zt l g φ mu_X_fits 99 [some (vR g 1), some (vI x1), some (vI x2), some (vI x3), some (vI x4), some (vI x5), some (vI s.1), some (vI x7), some (vI s.2.1)] [] (z, s.2.2, J, G)) (ZE := fun e : (Int × MI) ⊕ (Int × MI) => ((fun w : (Int × MI) ⊕ (Int × MI) => (match w with | .inl e0 => ((inR e0.1) → Zt l g φ mu_X_fits 135 [none, none, none, none, none, none, none, some (vI x7), some (vI e0.1)] [] (z, e0.2, J, G)) | .inr o0 => ((inR o0.1) → Zt l g φ mu_X_fits 155 [some (vR g 1), some (vI x1), some (vI x2), some (vI x3), some (vI x4), some (vI x5), some (vI o0.1), some (vI x7), none] [] (z, o0.2, J, G)))) e)) (Rg := fun s : Int × Int × MI => inR s.1 ∧ inR s.2.1) ?_ n s e h hs k
  intro s r hr hst kE kS
  exact t_X_fits_L99 hb hz hG hrv hrr hsp hss hx1 hx2 hx3 hx4 hx5 hr.1 hx7 hr.2 hst kE kS
set_option maxHeartbeats 1000000 in
theorem t_X_fits_L69 {l : Launch} {g : GX} {φ : CX} {z : Nat} {G : Nat → Nat → Nat} {F : Nat} (hb : cb φ = z) (hz : 295 ≤ z) (hG : lyX G) {rv sp : Nat} (hrv : G 1 3 = rv) (hrr : isRiv rv) (hsp : G 1 4 = sp) (hss : isRiv sp) {x1 : Int} {x2 : Int} {x3 : Int} {x4 : Int} {x5 : Int} {x6 : Int} {x7 : Int} {I J : Nat → Nat → Int} (hx1 : inR x1) (hx2 : inR x2) (hx3 : inR x3) (hx4 : inR x4) (hx5 : inR x5) (hx6 : inR x6) (hx7 : inR x7) {res : ((Int × Int × MI) ⊕ (Int × MI)) ⊕ (Int × Int × MI)} (h : f_X_fits_L69 F x1 x2 x3 x4 x5 x6 x7 rv I = some res) (kE : ∀ e : (Int × Int × MI) ⊕ (Int × MI), res = .inl e → ((fun w : (Int × Int × MI) ⊕ (Int × MI) => (match w with | .inl e0 => ((inR e0.1 ∧ inR e0.2.1) → Zt l g φ mu_X_fits 135 [none, none, none, none, none, none, none, some (vI e0.1), some (vI e0.2.1)] [] (z, e0.2.2, J, G)) | .inr o0 => ((inR o0.1) → Zt l g φ mu_X_fits 161 [none, none, none, none, some (vI x4), none, some (vI o0.1), none, none] [] (z, o0.2, J, G)))) e)) (kS : ∀ s : Int × Int × MI, res = .inr s → (inR s.1 ∧ inR s.2.1) → Zt l g φ mu_X_fits 69 [some (vR g 1), some (vI x1), some (vI x2), some (vI x3), some (vI x4), some (vI x5), some (vI s.1), some (vI s.2.1), none] [] (z, s.2.2, J, G)) : Zt l g φ mu_X_fits 69 [some (vR g 1), some (vI x1), some (vI x2), some (vI x3), some (vI x4), some (vI x5), some (vI x6), some (vI x7), none] [] (z, I, J, G) := by
  refine z_iload dX10_fits_69 rfl ?_
  refine z_aload_n dX10_fits_71 rfl ?_
  refine y_getR dX10_fits_72 cl10 sh_1 (by decide) (Nat.le_trans (by decide) hz) 3 rfl rfl (fl_X_30) hrv (riv_pos hrr) ?_
  refine z_nm (fun hN18 => ?_)
  refine y_getNI (host := "FarewellStones") dX10_fits_75 cl6 (riv_sh hrr) (riv_pos hrr) (Nat.le_trans (riv_le hrr) hz) 1 rfl rfl (flN_X_166) ?_
  refine z_icmp_ge (tgt := 161) dX10_fits_78 (by decide) hx7 (hN18.1 rv 1) (fun hc19 => ?_) (fun hc19 => ?_)
  · replace h := ifT hc19 h
    refine z_weak (L' := [none, none, none, none, some (vI x4), none, some (vI x6), none, none]) (lsN (lsN (lsN (lsN (lsS (lsN (lsS (lsN (lsN ls0))))))))) ?_
    exact kE _ (someE h).symm hx6
  replace h := ifF hc19 h
  refine z_iload dX10_fits_81 rfl ?_
  refine z_iconst dX10_fits_83 ?_
  refine z_iload dX10_fits_84 rfl ?_
  refine z_ishl dX10_fits_86 ?_
  refine z_iconst dX10_fits_87 ?_
  refine z_ixor dX10_fits_88 ?_
  refine z_iand dX10_fits_89 ?_
  refine z_if_eq (tgt := 96) dX10_fits_90 (by decide) inR_and (fun hc20 => ?_) (fun hc20 => ?_)
  · replace h := ifT hc20 h
    refine z_iconst dX10_fits_96 ?_
    refine z_istore (L' := [some (vR g 1), some (vI x1), some (vI x2), some (vI x3), some (vI x4), some (vI x5), some (vI x6), some (vI x7), some (vI 0)]) dX10_fits_97 rfl rfl rfl ?_
    obtain ⟨e28, h29, h⟩ := bindE h
    rcases e28 with e30 | o31
    · refine l_X_fits_L99 hb hz hG hrv hrr hsp hss hx1 hx2 hx3 hx4 hx5 hx7 _ _ _ h29 ⟨hx6, (inRd (x := 0) (by decide))⟩ ?_
      refine fun h32 => ?_
      exact kE _ (someE h).symm ⟨hx7, h32⟩
    refine l_X_fits_L99 hb hz hG hrv hrr hsp hss hx1 hx2 hx3 hx4 hx5 hx7 _ _ _ h29 ⟨hx6, (inRd (x := 0) (by decide))⟩ ?_
    refine fun h33 => ?_
    refine z_iinc (L' := [some (vR g 1), some (vI x1), some (vI x2), some (vI x3), some (vI x4), some (vI x5), some (vI o31.1), some (vI (w32 (x7 + 1))), none]) dX10_fits_155 rfl rfl rfl rfl ?_
    refine z_goto (tgt := 69) dX10_fits_158 (by decide) ?_
    exact kS _ (someE h).symm ⟨h33, (inR_w32 _)⟩
  replace h := ifF hc20 h
  refine z_goto (tgt := 155) dX10_fits_93 (by decide) ?_
  refine z_iinc (L' := [some (vR g 1), some (vI x1), some (vI x2), some (vI x3), some (vI x4), some (vI x5), some (vI x6), some (vI (w32 (x7 + 1))), none]) dX10_fits_155 rfl rfl rfl rfl ?_
  refine z_goto (tgt := 69) dX10_fits_158 (by decide) ?_
  exact kS _ (someE h).symm ⟨hx6, (inR_w32 _)⟩
theorem l_X_fits_L69 {l : Launch} {g : GX} {φ : CX} {z : Nat} {G : Nat → Nat → Nat} {F : Nat} (hb : cb φ = z) (hz : 295 ≤ z) (hG : lyX G) {rv sp : Nat} (hrv : G 1 3 = rv) (hrr : isRiv rv) (hsp : G 1 4 = sp) (hss : isRiv sp) {x1 : Int} {x2 : Int} {x3 : Int} {x4 : Int} {x5 : Int} {J : Nat → Nat → Int} (hx1 : inR x1) (hx2 : inR x2) (hx3 : inR x3) (hx4 : inR x4) (hx5 : inR x5) (n : Nat) (s : Int × Int × MI) (e : (Int × Int × MI) ⊕ (Int × MI)) (h : iter (fun s : Int × Int × MI => f_X_fits_L69 F x1 x2 x3 x4 x5 s.1 s.2.1 rv s.2.2) n s = some e) (hs : inR s.1 ∧ inR s.2.1) (k : ((fun w : (Int × Int × MI) ⊕ (Int × MI) => (match w with | .inl e0 => ((inR e0.1 ∧ inR e0.2.1) → Zt l g φ mu_X_fits 135 [none, none, none, none, none, none, none, some (vI e0.1), some (vI e0.2.1)] [] (z, e0.2.2, J, G)) | .inr o0 => ((inR o0.1) → Zt l g φ mu_X_fits 161 [none, none, none, none, some (vI x4), none, some (vI o0.1), none, none] [] (z, o0.2, J, G)))) e)) : Zt l g φ mu_X_fits 69 [some (vR g 1), some (vI x1), some (vI x2), some (vI x3), some (vI x4), some (vI x5), some (vI s.1), some (vI s.2.1), none] [] (z, s.2.2, J, G) := by
  refine iter_ind (Z := fun s : Int × Int × MI => Zt l g φ mu_X_fits 69 [some (vR g 1), some (vI x1), some (vI x2), some (vI x3), some (vI x4), some (vI x5), some (vI s.1), some (vI s.2.1), none] [] (z, s.2.2, J, G)) (ZE := fun e : (Int × Int × MI) ⊕ (Int × MI) => ((fun w : (Int × Int × MI) ⊕ (Int × MI) => (match w with | .inl e0 => ((inR e0.1 ∧ inR e0.2.1) → Zt l g φ mu_X_fits 135 [none, none, none, none, none, none, none, some (vI e0.1), some (vI e0.2.1)] [] (z, e0.2.2, J, G)) | .inr o0 => ((inR o0.1) → Zt l g φ mu_X_fits 161 [none, none, none, none, some (vI x4), none, some (vI o0.1), none, none] [] (z, o0.2, J, G)))) e)) (Rg := fun s : Int × Int × MI => inR s.1 ∧ inR s.2.1) ?_ n s e h hs k
  intro s r hr hst kE kS
  exact t_X_fits_L69 hb hz hG hrv hrr hsp hss hx1 hx2 hx3 hx4 hx5 hr.1 hr.2 hst kE kS
set_option maxHeartbeats 1000000 in
theorem s_X_fits {l : Launch} {g : GX} {z : Nat} {G : Nat → Nat → Nat} {F : Nat} (hz : 295 ≤ z) (hG : lyX G) {rv sp : Nat} (hrv : G 1 3 = rv) (hrr : isRiv rv) (hsp : G 1 4 = sp) (hss : isRiv sp) {x1 : Int} {x2 : Int} {x3 : Int} {x4 : Int} {I J : Nat → Nat → Int} (hx1 : inR x1) (hx2 : inR x2) (hx3 : inR x3) (hx4 : inR x4) {res : Int × MI} (h : f_X_fits F x1 x2 x3 x4 rv I = some res) : Spec l g 19 yX10_fits cX10_fits 9 (some .int) [vR g 1, vI x1, vI x2, vI x3, vI x4] (z, I, J, G) (some (vI res.1)) (inR res.1) (z, res.2, J, G) := by
  refine spec_of (μ := mu_X_fits) (k := 4) (L0 := [some (vR g 1), some (vI x1), some (vI x2), some (vI x3), some (vI x4), none, none, none, none]) rfl mw_X_fits rfl rfl (Nat.le_refl _) (fun φ hb hE => ?_)
  refine z_aload_n dX10_fits_0 rfl ?_
  refine z_iload_n dX10_fits_1 rfl ?_
  obtain ⟨q1, hq2, h⟩ := bindE h
  refine z_callV (As := [vI x1]) (rest := []) (s_X_isLeaver hz hG hrv hrr hsp hss hx1 hq2) dX10_fits_2 mw_X_isLeaver cl10 sh_1 (by decide) (Nat.le_trans (by decide) hz) ml_X_144 im_X_isLeaver se_X_isLeaver rfl rfl rfl rfl (Nat.le_refl _) (Nat.le_of_eq hb.symm) (fun hp3 => ?_)
  show Zt _ _ _ _ 5 _ [vI q1] (z, I, J, G)
  refine z_if_eq (tgt := 23) dX10_fits_5 (by decide) (inR_bool hp3) (fun hc4 => ?_) (fun hc4 => ?_)
  · replace h := ifT hc4 h
    refine z_iconst dX10_fits_23 ?_
    obtain rfl := someE h
    exact z_iret dX10_fits_24 hE (inRd (x := (-1)) (by decide)) rfl
  replace h := ifF hc4 h
  refine z_aload_n dX10_fits_8 rfl ?_
  refine y_getR dX10_fits_9 cl10 sh_1 (by decide) (Nat.le_trans (by decide) hz) 5 rfl rfl (fl_X_40) (ly_1_5 hG) (by decide) ?_
  refine z_aload_n dX10_fits_12 rfl ?_
  refine y_getR dX10_fits_13 cl10 sh_1 (by decide) (Nat.le_trans (by decide) hz) 3 rfl rfl (fl_X_30) hrv (riv_pos hrr) ?_
  refine z_iload_n dX10_fits_16 rfl ?_
  obtain ⟨q5, hq6, h⟩ := bindE h
  refine z_callV (As := [vR g rv, vI x1]) (rest := []) (s_B_mayThrow hz hG (is_49) hrr hx1 hq6) dX10_fits_17 mw_B_mayThrow cl0 sh_49 (by decide) (Nat.le_trans (by decide) hz) ml_X_160 im_B_mayThrow se_B_mayThrow rfl rfl rfl rfl (Nat.le_refl _) (Nat.le_of_eq hb.symm) (fun hp7 => ?_)
  show Zt _ _ _ _ 20 _ [vI q5] (z, I, J, G)
  refine z_if_ne (tgt := 25) dX10_fits_20 (by decide) (inR_bool hp7) (fun hc8 => ?_) (fun hc8 => ?_)
  · replace h := ifT hc8 h
    refine z_iload_n dX10_fits_25 rfl ?_
    refine z_if_lt (tgt := 53) dX10_fits_26 (by decide) hx2 (fun hc9 => ?_) (fun hc9 => ?_)
    · replace h := ifT hc9 h
      refine z_iconst dX10_fits_53 ?_
      obtain rfl := someE h
      exact z_iret dX10_fits_54 hE (inRd (x := (-1)) (by decide)) rfl
    replace h := ifF hc9 h
    refine z_iload_n dX10_fits_29 rfl ?_
    refine z_aload_n dX10_fits_30 rfl ?_
    refine z_nm (fun hN10 => ?_)
    refine y_getI dX10_fits_31 cl10 sh_1 (by decide) (Nat.le_trans (by decide) hz) 12 rfl rfl (fl_X_112) ?_
    refine z_icmp_gt (tgt := 53) dX10_fits_34 (by decide) hx2 (hN10.1 1 12) (fun hc11 => ?_) (fun hc11 => ?_)
    · replace h := ifT hc11 h
      refine z_iconst dX10_fits_53 ?_
      obtain rfl := someE h
      exact z_iret dX10_fits_54 hE (inRd (x := (-1)) (by decide)) rfl
    replace h := ifF hc11 h
    refine z_iload_n dX10_fits_37 rfl ?_
    refine z_if_lt (tgt := 53) dX10_fits_38 (by decide) hx3 (fun hc12 => ?_) (fun hc12 => ?_)
    · replace h := ifT hc12 h
      refine z_iconst dX10_fits_53 ?_
      obtain rfl := someE h
      exact z_iret dX10_fits_54 hE (inRd (x := (-1)) (by decide)) rfl
    replace h := ifF hc12 h
    refine z_iload_n dX10_fits_41 rfl ?_
    refine z_bipush dX10_fits_42 (by decide +kernel) ?_
    refine z_icmp_gt (tgt := 53) dX10_fits_44 (by decide) hx3 (inRd (x := 60) (by decide)) (fun hc13 => ?_) (fun hc13 => ?_)
    · replace h := ifT hc13 h
      refine z_iconst dX10_fits_53 ?_
      obtain rfl := someE h
      exact z_iret dX10_fits_54 hE (inRd (x := (-1)) (by decide)) rfl
    replace h := ifF hc13 h
    refine z_iload dX10_fits_47 rfl ?_
    refine z_iconst dX10_fits_49 ?_
    refine z_icmp_ge (tgt := 55) dX10_fits_50 (by decide) hx4 (inRd (x := (-1)) (by decide)) (fun hc14 => ?_) (fun hc14 => ?_)
    · replace h := ifT hc14 h
      refine z_aload_n dX10_fits_55 rfl ?_
      refine z_iload_n dX10_fits_56 rfl ?_
      refine z_iload_n dX10_fits_57 rfl ?_
      obtain ⟨q15, hq16, h⟩ := bindE h
      refine z_callV (As := [vI x2, vI x3]) (rest := []) (s_X_rowsWrongWithout hz hG hrv hrr hsp hss hx2 hx3 hq16) dX10_fits_58 mw_X_rowsWrongWithout cl10 sh_1 (by decide) (Nat.le_trans (by decide) hz) ml_X_288 im_X_rowsWrongWithout se_X_rowsWrongWithout rfl rfl rfl rfl (Nat.le_refl _) (Nat.le_of_eq hb.symm) (fun hp17 => ?_)
      show Zt _ _ _ _ 61 _ [vI q15.1] (z, q15.2, J, G)
      refine z_istore (L' := [some (vR g 1), some (vI x1), some (vI x2), some (vI x3), some (vI x4), some (vI q15.1), none, none, none]) dX10_fits_61 rfl rfl rfl ?_
      refine z_iconst dX10_fits_63 ?_
      refine z_istore (L' := [some (vR g 1), some (vI x1), some (vI x2), some (vI x3), some (vI x4), some (vI q15.1), some (vI 0), none, none]) dX10_fits_64 rfl rfl rfl ?_
      refine z_iconst dX10_fits_66 ?_
      refine z_istore (L' := [some (vR g 1), some (vI x1), some (vI x2), some (vI x3), some (vI x4), some (vI q15.1), some (vI 0), some (vI 0), none]) dX10_fits_67 rfl rfl rfl ?_
      obtain ⟨e34, h35, h⟩ := bindE h
      rcases e34 with e36 | o37
      · refine l_X_fits_L69 hb hz hG hrv hrr hsp hss hx1 hx2 hx3 hx4 hp17 _ _ _ h35 ⟨(inRd (x := 0) (by decide)), (inRd (x := 0) (by decide))⟩ ?_
        refine fun h38 => ?_
        refine z_iload dX10_fits_135 rfl ?_
        refine z_iload dX10_fits_137 rfl ?_
        obtain ⟨q39, hq40, h⟩ := bindE h
        refine z_callS (As := [vI e36.2.1, vI e36.1]) (rest := []) (s_X_cellNumber hz hG h38.2 h38.1 hq40) dX10_fits_139 mw_X_cellNumber ml_X_119 st_X_cellNumber rfl rfl rfl rfl (Nat.le_refl _) (Nat.le_of_eq hb.symm) (fun hp41 => ?_)
        show Zt _ _ _ _ 142 _ [vI q39] (z, e36.2.2, J, G)
        obtain ⟨q42, hq43, h⟩ := bindE h
        refine z_callS (As := [vI q39]) (rest := []) (s_X_cellName hz hG hp41 hq43) dX10_fits_142 mw_X_cellName ml_X_205 st_X_cellName rfl rfl rfl rfl (Nat.le_refl _) (Nat.le_of_eq hb.symm) (fun hp44 => ?_)
        show Zt _ _ _ _ 145 _ [vI q42] (z, e36.2.2, J, G)
        obtain rfl := someE h
        exact z_iret dX10_fits_145 hE hp44 rfl
      refine l_X_fits_L69 hb hz hG hrv hrr hsp hss hx1 hx2 hx3 hx4 hp17 _ _ _ h35 ⟨(inRd (x := 0) (by decide)), (inRd (x := 0) (by decide))⟩ ?_
      refine fun h45 => ?_
      refine z_iload dX10_fits_161 rfl ?_
      refine z_iconst dX10_fits_163 ?_
      refine z_icmp_ne (tgt := 172) dX10_fits_164 (by decide) hx4 (inRd (x := (-1)) (by decide)) (fun hc46 => ?_) (fun hc46 => ?_)
      · replace h := ifT hc46 h
        refine z_iconst dX10_fits_172 ?_
        obtain rfl := someE h
        exact z_iret dX10_fits_173 hE (inRd (x := (-1)) (by decide)) rfl
      replace h := ifF (fun q => q hc46) h
      refine z_iload dX10_fits_167 rfl ?_
      refine z_goto (tgt := 173) dX10_fits_169 (by decide) ?_
      obtain rfl := someE h
      exact z_iret dX10_fits_173 hE h45 rfl
    replace h := ifF hc14 h
    refine z_iconst dX10_fits_53 ?_
    obtain rfl := someE h
    exact z_iret dX10_fits_54 hE (inRd (x := (-1)) (by decide)) rfl
  replace h := ifF (fun q => q hc8) h
  refine z_iconst dX10_fits_23 ?_
  obtain rfl := someE h
  exact z_iret dX10_fits_24 hE (inRd (x := (-1)) (by decide)) rfl
