set_option maxHeartbeats 1000000 in
theorem s_F_leadInto {l : Launch} {g : GX} {z : Nat} {G : Nat → Nat → Nat} {F : Nat} (hz : 295 ≤ z) (hG : lyX G) {x1 : Int} {x2 : Int} {I J : Nat → Nat → Int} (hx1 : inR x1) (hx2 : inR x2) {res : MI} (h : f_F_leadInto F x1 x2 I = some res) : Spec l g 0 yX1_leadInto cX1_leadInto 3 none [vR g 250, vI x1, vI x2] (z, I, J, G) none True (z, res, J, G) := by
  refine spec_of (μ := mu_F_leadInto) (k := 0) (L0 := [some (vR g 250), some (vI x1), some (vI x2)]) rfl mw_F_leadInto rfl rfl (Nat.le_refl _) (fun φ hb hE => ?_)
  refine z_iload_n dX1_leadInto_0 rfl ?_
  refine z_iload_n dX1_leadInto_1 rfl ?_
  refine z_icmp_ne (tgt := 24) dX1_leadInto_2 (by decide) hx2 hx1 (fun hc1 => ?_) (fun hc1 => ?_)
  · replace h := ifT hc1 h
    refine z_aload_n dX1_leadInto_24 rfl ?_
    refine y_getR dX1_leadInto_25 cl1 sh_250 (by decide) (Nat.le_trans (by decide) hz) 0 rfl rfl (fl_F_9) (ly_250_0 hG) (by decide) ?_
    refine z_iload_n dX1_leadInto_28 rfl ?_
    refine z_iload_n dX1_leadInto_29 rfl ?_
    obtain ⟨hg2, h⟩ := guardE h
    refine y_iast dX1_leadInto_30 sh_251 (by decide) (Nat.le_trans (by decide) hz) hx1 hg2 hx2 ?_
    refine z_aload_n dX1_leadInto_31 rfl ?_
    refine y_getR dX1_leadInto_32 cl1 sh_250 (by decide) (Nat.le_trans (by decide) hz) 1 rfl rfl (fl_F_15) (ly_250_1 hG) (by decide) ?_
    refine z_iload_n dX1_leadInto_35 rfl ?_
    refine z_iload_n dX1_leadInto_36 rfl ?_
    obtain ⟨hg3, h⟩ := guardE h
    refine y_iast dX1_leadInto_37 sh_252 (by decide) (Nat.le_trans (by decide) hz) hx2 hg3 hx1 ?_
    obtain rfl := someE h
    exact z_vret dX1_leadInto_38 hE trivial rfl
  replace h := ifF (fun q => q hc1) h
  refine z_aload_n dX1_leadInto_5 rfl ?_
  refine y_getR dX1_leadInto_6 cl1 sh_250 (by decide) (Nat.le_trans (by decide) hz) 0 rfl rfl (fl_F_9) (ly_250_0 hG) (by decide) ?_
  refine z_iload_n dX1_leadInto_9 rfl ?_
  refine z_bipush dX1_leadInto_10 (by decide +kernel) ?_
  obtain ⟨hg4, h⟩ := guardE h
  refine y_iast dX1_leadInto_12 sh_251 (by decide) (Nat.le_trans (by decide) hz) hx1 hg4 (inRd (x := (-3)) (by decide)) ?_
  refine z_aload_n dX1_leadInto_13 rfl ?_
  refine y_getR dX1_leadInto_14 cl1 sh_250 (by decide) (Nat.le_trans (by decide) hz) 1 rfl rfl (fl_F_15) (ly_250_1 hG) (by decide) ?_
  refine z_iload_n dX1_leadInto_17 rfl ?_
  refine z_bipush dX1_leadInto_18 (by decide +kernel) ?_
  refine y_iast dX1_leadInto_20 sh_252 (by decide) (Nat.le_trans (by decide) hz) hx1 hg4 (inRd (x := (-3)) (by decide)) ?_
  refine z_goto (tgt := 38) dX1_leadInto_21 (by decide) ?_
  obtain rfl := someE h
  exact z_vret dX1_leadInto_38 hE trivial rfl
set_option maxHeartbeats 1000000 in
theorem t_F_addWay_L15 {l : Launch} {g : GX} {φ : CX} {z : Nat} {G : Nat → Nat → Nat} {F : Nat} (hb : cb φ = z) (hz : 295 ≤ z) (hG : lyX G) {x2 : Int} {x3 : Int} {I J : Nat → Nat → Int} (hx2 : inR x2) (hx3 : inR x3) {res : ((Int × MI) ⊕ (Int × MI)) ⊕ (Int × Int × MI)} (h : f_F_addWay_L15 F x2 x3 I = some res) (kE : ∀ e : (Int × MI) ⊕ (Int × MI), res = .inl e → ((fun w : (Int × MI) ⊕ (Int × MI) => (match w with | .inl e0 => ((inR e0.1) → Zt l g φ mu_F_addWay 35 [some (vR g 250), none, some (vI e0.1), none, none] [] (z, e0.2, J, G)) | .inr o0 => ((inR o0.1) → Zt l g φ mu_F_addWay 63 [some (vR g 250), none, some (vI o0.1), none, none] [] (z, o0.2, J, G)))) e)) (kS : ∀ s : Int × Int × MI, res = .inr s → (inR s.1 ∧ inR s.2.1) → Zt l g φ mu_F_addWay 15 [some (vR g 250), none, some (vI s.1), some (vI s.2.1), none] [] (z, s.2.2, J, G)) : Zt l g φ mu_F_addWay 15 [some (vR g 250), none, some (vI x2), some (vI x3), none] [] (z, I, J, G) := by
  refine z_iload_n dX1_addWay_15 rfl ?_
  refine z_sipush dX1_addWay_16 (by decide +kernel) ?_
  refine z_icmp_ge (tgt := 63) dX1_addWay_19 (by decide) hx3 (inRd (x := 192) (by decide)) (fun hc2 => ?_) (fun hc2 => ?_)
  · replace h := ifT hc2 h
    refine z_weak (L' := [some (vR g 250), none, some (vI x2), none, none]) (lsS (lsN (lsS (lsN (lsN ls0))))) ?_
    exact kE _ (someE h).symm hx2
  replace h := ifF hc2 h
  refine z_aload_n dX1_addWay_22 rfl ?_
  refine y_getR dX1_addWay_23 cl1 sh_250 (by decide) (Nat.le_trans (by decide) hz) 2 rfl rfl (fl_F_18) (ly_250_2 hG) (by decide) ?_
  refine z_iload_n dX1_addWay_26 rfl ?_
  obtain ⟨hg3, h⟩ := guardE h
  refine z_nm (fun hN4 => ?_)
  refine y_iald dX1_addWay_27 sh_253 (by decide) (Nat.le_trans (by decide) hz) hx2 hg3 ?_
  refine z_istore (L' := [some (vR g 250), none, some (vI x2), some (vI x3), some (vI (I 253 (x2).toNat))]) dX1_addWay_28 rfl rfl rfl ?_
  refine z_iload dX1_addWay_30 rfl ?_
  refine z_if_ge (tgt := 38) dX1_addWay_32 (by decide) (hN4.1 253 (x2).toNat) (fun hc5 => ?_) (fun hc5 => ?_)
  · replace h := ifT hc5 h
    refine z_iload_n dX1_addWay_38 rfl ?_
    refine z_bipush dX1_addWay_39 (by decide +kernel) ?_
    refine z_icmp_ge (tgt := 54) dX1_addWay_41 (by decide) hx2 (inRd (x := 96) (by decide)) (fun hc6 => ?_) (fun hc6 => ?_)
    · replace h := ifT hc6 h
      refine z_iload dX1_addWay_54 rfl ?_
      refine z_istore_n (L' := [some (vR g 250), none, some (vI (I 253 (x2).toNat)), some (vI x3), some (vI (I 253 (x2).toNat))]) dX1_addWay_56 rfl rfl rfl ?_
      refine z_iinc (L' := [some (vR g 250), none, some (vI (I 253 (x2).toNat)), some (vI (w32 (x3 + 1))), some (vI (I 253 (x2).toNat))]) dX1_addWay_57 rfl rfl rfl rfl ?_
      refine z_goto (tgt := 15) dX1_addWay_60 (by decide) ?_
      refine z_weak (L' := [some (vR g 250), none, some (vI (I 253 (x2).toNat)), some (vI (w32 (x3 + 1))), none]) (lsS (lsN (lsS (lsS (lsN ls0))))) ?_
      exact kS _ (someE h).symm ⟨(hN4.1 253 (x2).toNat), (inR_w32 _)⟩
    replace h := ifF hc6 h
    refine z_aload_n dX1_addWay_44 rfl ?_
    refine z_iload_n dX1_addWay_45 rfl ?_
    refine z_iload dX1_addWay_46 rfl ?_
    refine z_bipush dX1_addWay_48 (by decide +kernel) ?_
    refine z_isub dX1_addWay_50 ?_
    obtain ⟨q7, hq8, h⟩ := bindE h
    refine z_callV (As := [vI x2, vI (w32 ((I 253 (x2).toNat) - 96))]) (rest := []) (s_F_leadInto hz hG hx2 (inR_w32 _) hq8) dX1_addWay_51 mw_F_leadInto cl1 sh_250 (by decide) (Nat.le_trans (by decide) hz) ml_F_70 im_F_leadInto se_F_leadInto rfl rfl rfl rfl (Nat.le_refl _) (Nat.le_of_eq hb.symm) (fun hp9 => ?_)
    show Zt _ _ _ _ 54 _ [] (z, q7, J, G)
    refine z_iload dX1_addWay_54 rfl ?_
    refine z_istore_n (L' := [some (vR g 250), none, some (vI (I 253 (x2).toNat)), some (vI x3), some (vI (I 253 (x2).toNat))]) dX1_addWay_56 rfl rfl rfl ?_
    refine z_iinc (L' := [some (vR g 250), none, some (vI (I 253 (x2).toNat)), some (vI (w32 (x3 + 1))), some (vI (I 253 (x2).toNat))]) dX1_addWay_57 rfl rfl rfl rfl ?_
    refine z_goto (tgt := 15) dX1_addWay_60 (by decide) ?_
    refine z_weak (L' := [some (vR g 250), none, some (vI (I 253 (x2).toNat)), some (vI (w32 (x3 + 1))), none]) (lsS (lsN (lsS (lsS (lsN ls0))))) ?_
    exact kS _ (someE h).symm ⟨(hN4.1 253 (x2).toNat), (inR_w32 _)⟩
  replace h := ifF hc5 h
  refine z_weak (L' := [some (vR g 250), none, some (vI x2), none, none]) (lsS (lsN (lsS (lsN (lsN ls0))))) ?_
  exact kE _ (someE h).symm hx2
theorem l_F_addWay_L15 {l : Launch} {g : GX} {φ : CX} {z : Nat} {G : Nat → Nat → Nat} {F : Nat} (hb : cb φ = z) (hz : 295 ≤ z) (hG : lyX G) {J : Nat → Nat → Int} (n : Nat) (s : Int × Int × MI) (e : (Int × MI) ⊕ (Int × MI)) (h : iter (fun s : Int × Int × MI => f_F_addWay_L15 F s.1 s.2.1 s.2.2) n s = some e) (hs : inR s.1 ∧ inR s.2.1) (k : ((fun w : (Int × MI) ⊕ (Int × MI) => (match w with | .inl e0 => ((inR e0.1) → Zt l g φ mu_F_addWay 35 [some (vR g 250), none, some (vI e0.1), none, none] [] (z, e0.2, J, G)) | .inr o0 => ((inR o0.1) → Zt l g φ mu_F_addWay 63 [some (vR g 250), none, some (vI o0.1), none, none] [] (z, o0.2, J, G)))) e)) : Zt l g φ mu_F_addWay 15 [some (vR g 250), none, some (vI s.1), some (vI s.2.1), none] [] (z, s.2.2, J, G) := by
  refine iter_ind (Z := fun s : Int × Int × MI => Zt l g φ mu_F_addWay 15 [some (vR g 250), none, some (vI s.1), some (vI s.2.1), none] [] (z, s.2.2, J, G)) (ZE := fun e : (Int × MI) ⊕ (Int × MI) => ((fun w : (Int × MI) ⊕ (Int × MI) => (match w with | .inl e0 => ((inR e0.1) → Zt l g φ mu_F_addWay 35 [some (vR g 250), none, some (vI e0.1), none, none] [] (z, e0.2, J, G)) | .inr o0 => ((inR o0.1) → Zt l g φ mu_F_addWay 63 [some (vR g 250), none, some (vI o0.1), none, none] [] (z, o0.2, J, G)))) e)) (Rg := fun s : Int × Int × MI => inR s.1 ∧ inR s.2.1) ?_ n s e h hs k
  intro s r hr hst kE kS
  exact t_F_addWay_L15 hb hz hG hr.1 hr.2 hst kE kS
set_option maxHeartbeats 1000000 in
theorem t_F_addWay_b63 {l : Launch} {g : GX} {φ : CX} {z : Nat} {G : Nat → Nat → Nat} {F : Nat} (hb : cb φ = z) (hz : 295 ≤ z) (hG : lyX G) {x2 : Int} {I J : Nat → Nat → Int} (hx2 : inR x2) {res : MI} (h : f_F_addWay_b63 F x2 I = some res) (hE : ends g φ none none True (z, res, J, G)) : Zt l g φ mu_F_addWay 63 [some (vR g 250), none, some (vI x2), none, none] [] (z, I, J, G) := by
  refine z_aload_n dX1_addWay_63 rfl ?_
  refine y_getR dX1_addWay_64 cl1 sh_250 (by decide) (Nat.le_trans (by decide) hz) 0 rfl rfl (fl_F_9) (ly_250_0 hG) (by decide) ?_
  refine z_iload_n dX1_addWay_67 rfl ?_
  refine z_iconst dX1_addWay_68 ?_
  obtain ⟨hg15, h⟩ := guardE h
  refine y_iast dX1_addWay_69 sh_251 (by decide) (Nat.le_trans (by decide) hz) hx2 hg15 (inRd (x := (-1)) (by decide)) ?_
  obtain rfl := someE h
  exact z_vret dX1_addWay_70 hE trivial rfl
set_option maxHeartbeats 1000000 in
theorem s_F_addWay {l : Launch} {g : GX} {z : Nat} {G : Nat → Nat → Nat} {F : Nat} (hz : 295 ≤ z) (hG : lyX G) {x1 : Int} {I J : Nat → Nat → Int} (hx1 : inR x1) {res : MI} (h : f_F_addWay F x1 I = some res) : Spec l g 1 yX1_addWay cX1_addWay 5 none [vR g 250, vI x1] (z, I, J, G) none True (z, res, J, G) := by
  refine spec_of (μ := mu_F_addWay) (k := 3) (L0 := [some (vR g 250), some (vI x1), none, none, none]) rfl mw_F_addWay rfl rfl (Nat.le_refl _) (fun φ hb hE => ?_)
  refine z_aload_n dX1_addWay_0 rfl ?_
  refine y_getR dX1_addWay_1 cl1 sh_250 (by decide) (Nat.le_trans (by decide) hz) 1 rfl rfl (fl_F_15) (ly_250_1 hG) (by decide) ?_
  refine z_iload_n dX1_addWay_4 rfl ?_
  refine z_bipush dX1_addWay_5 (by decide +kernel) ?_
  obtain ⟨hg1, h⟩ := guardE h
  refine y_iast dX1_addWay_7 sh_252 (by decide) (Nat.le_trans (by decide) hz) hx1 hg1 (inRd (x := (-2)) (by decide)) ?_
  refine z_bipush dX1_addWay_8 (by decide +kernel) ?_
  refine z_iload_n dX1_addWay_10 rfl ?_
  refine z_iadd dX1_addWay_11 ?_
  refine z_istore_n (L' := [some (vR g 250), some (vI x1), some (vI (w32 (96 + x1))), none, none]) dX1_addWay_12 rfl rfl rfl ?_
  refine z_iconst dX1_addWay_13 ?_
  refine z_istore_n (L' := [some (vR g 250), some (vI x1), some (vI (w32 (96 + x1))), some (vI 0), none]) dX1_addWay_14 rfl rfl rfl ?_
  refine z_weak (L' := [some (vR g 250), none, some (vI (w32 (96 + x1))), some (vI 0), none]) (lsS (lsN (lsS (lsS (lsN ls0))))) ?_
  obtain ⟨e10, h11, h⟩ := bindE h
  rcases e10 with e12 | o13
  · refine l_F_addWay_L15 hb hz hG  _ _ _ h11 ⟨(inR_w32 _), (inRd (x := 0) (by decide))⟩ ?_
    refine fun h14 => ?_
    refine z_goto (tgt := 63) dX1_addWay_35 (by decide) ?_
    exact t_F_addWay_b63 hb hz hG h14 h hE
  refine l_F_addWay_L15 hb hz hG  _ _ _ h11 ⟨(inR_w32 _), (inRd (x := 0) (by decide))⟩ ?_
  refine fun h16 => ?_
  exact t_F_addWay_b63 hb hz hG h16 h hE
set_option maxHeartbeats 1000000 in
theorem s_F_reach {l : Launch} {g : GX} {z : Nat} {G : Nat → Nat → Nat} {F : Nat} (hz : 295 ≤ z) (hG : lyX G) {x1 : Int} {x2 : Int} {I J : Nat → Nat → Int} (hx1 : inR x1) (hx2 : inR x2) {res : MI} (h : f_F_reach F x1 x2 I = some res) : Spec l g 0 yX1_reach cX1_reach 3 none [vR g 250, vI x1, vI x2] (z, I, J, G) none True (z, res, J, G) := by
  refine spec_of (μ := mu_F_reach) (k := 0) (L0 := [some (vR g 250), some (vI x1), some (vI x2)]) rfl mw_F_reach rfl rfl (Nat.le_refl _) (fun φ hb hE => ?_)
  refine z_aload_n dX1_reach_0 rfl ?_
  refine y_getR dX1_reach_1 cl1 sh_250 (by decide) (Nat.le_trans (by decide) hz) 2 rfl rfl (fl_F_18) (ly_250_2 hG) (by decide) ?_
  refine z_iload_n dX1_reach_4 rfl ?_
  obtain ⟨hg1, h⟩ := guardE h
  refine z_nm (fun hN2 => ?_)
  refine y_iald dX1_reach_5 sh_253 (by decide) (Nat.le_trans (by decide) hz) hx1 hg1 ?_
  refine z_bipush dX1_reach_6 (by decide +kernel) ?_
  refine z_icmp_eq (tgt := 12) dX1_reach_8 (by decide) (hN2.1 253 (x1).toNat) (inRd (x := (-3)) (by decide)) (fun hc3 => ?_) (fun hc3 => ?_)
  · replace h := ifT hc3 h
    refine z_aload_n dX1_reach_12 rfl ?_
    refine y_getR dX1_reach_13 cl1 sh_250 (by decide) (Nat.le_trans (by decide) hz) 2 rfl rfl (fl_F_18) (ly_250_2 hG) (by decide) ?_
    refine z_iload_n dX1_reach_16 rfl ?_
    refine z_iload_n dX1_reach_17 rfl ?_
    refine y_iast dX1_reach_18 sh_253 (by decide) (Nat.le_trans (by decide) hz) hx1 hg1 hx2 ?_
    refine z_aload_n dX1_reach_19 rfl ?_
    refine y_getR dX1_reach_20 cl1 sh_250 (by decide) (Nat.le_trans (by decide) hz) 3 rfl rfl (fl_F_21) (ly_250_3 hG) (by decide) ?_
    refine z_aload_n dX1_reach_23 rfl ?_
    refine z_nm (fun hN4 => ?_)
    refine y_getI dX1_reach_24 cl1 sh_250 (by decide) (Nat.le_trans (by decide) hz) 4 rfl rfl (fl_F_38) ?_
    refine z_iload_n dX1_reach_27 rfl ?_
    obtain ⟨hg5, h⟩ := guardE h
    refine y_iast dX1_reach_28 sh_254 (by decide) (Nat.le_trans (by decide) hz) (hN4.1 250 4) hg5 hx1 ?_
    refine z_aload_n dX1_reach_29 rfl ?_
    refine z_dup dX1_reach_30 rfl ?_
    refine z_nm (fun hN6 => ?_)
    refine y_getI dX1_reach_31 cl1 sh_250 (by decide) (Nat.le_trans (by decide) hz) 4 rfl rfl (fl_F_38) ?_
    refine z_iconst dX1_reach_34 ?_
    refine z_iadd dX1_reach_35 ?_
    refine y_putI dX1_reach_36 cl1 sh_250 (by decide) (Nat.le_trans (by decide) hz) 4 rfl rfl rfl (fl_F_38) rfl rfl (inR_w32 _) ?_
    obtain rfl := someE h
    exact z_vret dX1_reach_39 hE trivial rfl
  replace h := ifF hc3 h
  obtain rfl := someE h
  exact z_vret dX1_reach_11 hE trivial rfl
set_option maxHeartbeats 1000000 in
theorem s_F_comeTo {l : Launch} {g : GX} {z : Nat} {G : Nat → Nat → Nat} {F : Nat} (hz : 295 ≤ z) (hG : lyX G) {x1 : Int} {I J : Nat → Nat → Int} (hx1 : inR x1) {res : MI} (h : f_F_comeTo F x1 I = some res) : Spec l g 1 yX1_comeTo cX1_comeTo 2 none [vR g 250, vI x1] (z, I, J, G) none True (z, res, J, G) := by
  refine spec_of (μ := mu_F_comeTo) (k := 0) (L0 := [some (vR g 250), some (vI x1)]) rfl mw_F_comeTo rfl rfl (Nat.le_refl _) (fun φ hb hE => ?_)
  refine z_aload_n dX1_comeTo_0 rfl ?_
  refine y_getR dX1_comeTo_1 cl1 sh_250 (by decide) (Nat.le_trans (by decide) hz) 1 rfl rfl (fl_F_15) (ly_250_1 hG) (by decide) ?_
  refine z_iload_n dX1_comeTo_4 rfl ?_
  obtain ⟨hg1, h⟩ := guardE h
  refine z_nm (fun hN2 => ?_)
  refine y_iald dX1_comeTo_5 sh_252 (by decide) (Nat.le_trans (by decide) hz) hx1 hg1 ?_
  refine z_bipush dX1_comeTo_6 (by decide +kernel) ?_
  refine z_icmp_ne (tgt := 23) dX1_comeTo_8 (by decide) (hN2.1 252 (x1).toNat) (inRd (x := (-3)) (by decide)) (fun hc3 => ?_) (fun hc3 => ?_)
  · replace h := ifT hc3 h
    refine z_aload_n dX1_comeTo_23 rfl ?_
    refine y_getR dX1_comeTo_24 cl1 sh_250 (by decide) (Nat.le_trans (by decide) hz) 0 rfl rfl (fl_F_9) (ly_250_0 hG) (by decide) ?_
    refine z_iload_n dX1_comeTo_27 rfl ?_
    refine y_iald dX1_comeTo_28 sh_251 (by decide) (Nat.le_trans (by decide) hz) hx1 hg1 ?_
    refine z_if_lt (tgt := 46) dX1_comeTo_29 (by decide) (hN2.1 251 (x1).toNat) (fun hc4 => ?_) (fun hc4 => ?_)
    · replace h := ifT hc4 h
      obtain rfl := someE h
      exact z_vret dX1_comeTo_46 hE trivial rfl
    replace h := ifF hc4 h
    refine z_aload_n dX1_comeTo_32 rfl ?_
    refine z_bipush dX1_comeTo_33 (by decide +kernel) ?_
    refine z_aload_n dX1_comeTo_35 rfl ?_
    refine y_getR dX1_comeTo_36 cl1 sh_250 (by decide) (Nat.le_trans (by decide) hz) 0 rfl rfl (fl_F_9) (ly_250_0 hG) (by decide) ?_
    refine z_iload_n dX1_comeTo_39 rfl ?_
    refine y_iald dX1_comeTo_40 sh_251 (by decide) (Nat.le_trans (by decide) hz) hx1 hg1 ?_
    refine z_iadd dX1_comeTo_41 ?_
    refine z_iload_n dX1_comeTo_42 rfl ?_
    obtain ⟨q5, hq6, h⟩ := bindE h
    refine z_callV (As := [vI (w32 (96 + (I 251 (x1).toNat))), vI x1]) (rest := []) (s_F_reach hz hG (inR_w32 _) hx1 hq6) dX1_comeTo_43 mw_F_reach cl1 sh_250 (by decide) (Nat.le_trans (by decide) hz) ml_F_48 im_F_reach se_F_reach rfl rfl rfl rfl (Nat.le_refl _) (Nat.le_of_eq hb.symm) (fun hp7 => ?_)
    show Zt _ _ _ _ 46 _ [] (z, q5, J, G)
    obtain rfl := someE h
    exact z_vret dX1_comeTo_46 hE trivial rfl
  replace h := ifF (fun q => q hc3) h
  refine z_aload_n dX1_comeTo_11 rfl ?_
  refine z_bipush dX1_comeTo_12 (by decide +kernel) ?_
  refine z_iload_n dX1_comeTo_14 rfl ?_
  refine z_iadd dX1_comeTo_15 ?_
  refine z_iload_n dX1_comeTo_16 rfl ?_
  obtain ⟨q8, hq9, h⟩ := bindE h
  refine z_callV (As := [vI (w32 (96 + x1)), vI x1]) (rest := []) (s_F_reach hz hG (inR_w32 _) hx1 hq9) dX1_comeTo_17 mw_F_reach cl1 sh_250 (by decide) (Nat.le_trans (by decide) hz) ml_F_48 im_F_reach se_F_reach rfl rfl rfl rfl (Nat.le_refl _) (Nat.le_of_eq hb.symm) (fun hp10 => ?_)
  show Zt _ _ _ _ 20 _ [] (z, q8, J, G)
  refine z_goto (tgt := 46) dX1_comeTo_20 (by decide) ?_
  obtain rfl := someE h
  exact z_vret dX1_comeTo_46 hE trivial rfl
set_option maxHeartbeats 1000000 in
theorem t_F_goOnFrom_L29 {l : Launch} {g : GX} {φ : CX} {z : Nat} {G : Nat → Nat → Nat} {F : Nat} (hb : cb φ = z) (hz : 295 ≤ z) (hG : lyX G) {r1 : Nat} {x3 : Int} {x4 : Int} {x5 : Int} {I J : Nat → Nat → Int} (hr1 : isRiv r1) (hx3 : inR x3) (hx4 : inR x4) (hx5 : inR x5) {res : (MI) ⊕ (Int × MI)} (h : f_F_goOnFrom_L29 F r1 x3 x4 x5 I = some res) (kE : ∀ e : MI, res = .inl e → ((True) → Zt l g φ mu_F_goOnFrom 85 [none, none, none, none, none, none, none] [] (z, e, J, G))) (kS : ∀ s : Int × MI, res = .inr s → (inR s.1) → Zt l g φ mu_F_goOnFrom 29 [some (vR g 250), some (vR g r1), some (vR g 245), some (vI x3), some (vI x4), some (vI s.1), none] [] (z, s.2, J, G)) : Zt l g φ mu_F_goOnFrom 29 [some (vR g 250), some (vR g r1), some (vR g 245), some (vI x3), some (vI x4), some (vI x5), none] [] (z, I, J, G) := by
  refine z_iload dX1_goOnFrom_29 rfl ?_
  refine z_iload dX1_goOnFrom_31 rfl ?_
  refine z_icmp_ge (tgt := 85) dX1_goOnFrom_33 (by decide) hx5 hx4 (fun hc7 => ?_) (fun hc7 => ?_)
  · replace h := ifT hc7 h
    refine z_weak (L' := [none, none, none, none, none, none, none]) (lsN (lsN (lsN (lsN (lsN (lsN (lsN ls0))))))) ?_
    exact kE _ (someE h).symm trivial
  replace h := ifF hc7 h
  refine z_aload_n dX1_goOnFrom_36 rfl ?_
  refine z_iload_n dX1_goOnFrom_37 rfl ?_
  refine z_iload dX1_goOnFrom_38 rfl ?_
  obtain ⟨q8, hq9, h⟩ := bindE h
  refine z_callV (As := [vI x3, vI x5]) (rest := []) (s_R_leapFrom hz hG hr1 hx3 hx5 hq9) dX1_goOnFrom_40 mw_R_leapFrom cl6 (riv_sh hr1) (riv_pos hr1) (Nat.le_trans (riv_le hr1) hz) ml_F_66 im_R_leapFrom se_R_leapFrom rfl rfl rfl rfl (Nat.le_refl _) (Nat.le_of_eq hb.symm) (fun hp10 => ?_)
  show Zt _ _ _ _ 43 _ [vI q8] (z, I, J, G)
  refine z_istore (L' := [some (vR g 250), some (vR g r1), some (vR g 245), some (vI x3), some (vI x4), some (vI x5), some (vI q8)]) dX1_goOnFrom_43 rfl rfl rfl ?_
  refine z_iload dX1_goOnFrom_45 rfl ?_
  refine z_iconst dX1_goOnFrom_47 ?_
  refine z_icmp_eq (tgt := 79) dX1_goOnFrom_48 (by decide) hp10 (inRd (x := (-1)) (by decide)) (fun hc11 => ?_) (fun hc11 => ?_)
  · replace h := ifT hc11 h
    refine z_iinc (L' := [some (vR g 250), some (vR g r1), some (vR g 245), some (vI x3), some (vI x4), some (vI (w32 (x5 + 1))), some (vI q8)]) dX1_goOnFrom_79 rfl rfl rfl rfl ?_
    refine z_goto (tgt := 29) dX1_goOnFrom_82 (by decide) ?_
    refine z_weak (L' := [some (vR g 250), some (vR g r1), some (vR g 245), some (vI x3), some (vI x4), some (vI (w32 (x5 + 1))), none]) (lsS (lsS (lsS (lsS (lsS (lsS (lsN ls0))))))) ?_
    exact kS _ (someE h).symm (inR_w32 _)
  replace h := ifF hc11 h
  refine z_aload_n dX1_goOnFrom_51 rfl ?_
  refine z_iload dX1_goOnFrom_52 rfl ?_
  obtain ⟨hg12, h⟩ := guardE h
  refine z_nm (fun hN13 => ?_)
  refine y_iald dX1_goOnFrom_54 sh_245 (by decide) (Nat.le_trans (by decide) hz) hp10 hg12 ?_
  refine z_if_lt (tgt := 79) dX1_goOnFrom_55 (by decide) (hN13.1 245 (q8).toNat) (fun hc14 => ?_) (fun hc14 => ?_)
  · replace h := ifT hc14 h
    refine z_iinc (L' := [some (vR g 250), some (vR g r1), some (vR g 245), some (vI x3), some (vI x4), some (vI (w32 (x5 + 1))), some (vI q8)]) dX1_goOnFrom_79 rfl rfl rfl rfl ?_
    refine z_goto (tgt := 29) dX1_goOnFrom_82 (by decide) ?_
    refine z_weak (L' := [some (vR g 250), some (vR g r1), some (vR g 245), some (vI x3), some (vI x4), some (vI (w32 (x5 + 1))), none]) (lsS (lsS (lsS (lsS (lsS (lsS (lsN ls0))))))) ?_
    exact kS _ (someE h).symm (inR_w32 _)
  replace h := ifF hc14 h
  refine z_aload_n dX1_goOnFrom_58 rfl ?_
  refine y_getR dX1_goOnFrom_59 cl1 sh_250 (by decide) (Nat.le_trans (by decide) hz) 1 rfl rfl (fl_F_15) (ly_250_1 hG) (by decide) ?_
  refine z_iload_n dX1_goOnFrom_62 rfl ?_
  obtain ⟨hg15, h⟩ := guardE h
  refine y_iald dX1_goOnFrom_63 sh_252 (by decide) (Nat.le_trans (by decide) hz) hx3 hg15 ?_
  refine z_iload dX1_goOnFrom_64 rfl ?_
  refine z_icmp_eq (tgt := 79) dX1_goOnFrom_66 (by decide) (hN13.1 252 (x3).toNat) hp10 (fun hc16 => ?_) (fun hc16 => ?_)
  · replace h := ifT hc16 h
    refine z_iinc (L' := [some (vR g 250), some (vR g r1), some (vR g 245), some (vI x3), some (vI x4), some (vI (w32 (x5 + 1))), some (vI q8)]) dX1_goOnFrom_79 rfl rfl rfl rfl ?_
    refine z_goto (tgt := 29) dX1_goOnFrom_82 (by decide) ?_
    refine z_weak (L' := [some (vR g 250), some (vR g r1), some (vR g 245), some (vI x3), some (vI x4), some (vI (w32 (x5 + 1))), none]) (lsS (lsS (lsS (lsS (lsS (lsS (lsN ls0))))))) ?_
    exact kS _ (someE h).symm (inR_w32 _)
  replace h := ifF hc16 h
  refine z_aload_n dX1_goOnFrom_69 rfl ?_
  refine z_iload dX1_goOnFrom_70 rfl ?_
  refine z_bipush dX1_goOnFrom_72 (by decide +kernel) ?_
  refine z_iload_n dX1_goOnFrom_74 rfl ?_
  refine z_iadd dX1_goOnFrom_75 ?_
  obtain ⟨q17, hq18, h⟩ := bindE h
  refine z_callV (As := [vI q8, vI (w32 (96 + x3))]) (rest := []) (s_F_reach hz hG hp10 (inR_w32 _) hq18) dX1_goOnFrom_76 mw_F_reach cl1 sh_250 (by decide) (Nat.le_trans (by decide) hz) ml_F_48 im_F_reach se_F_reach rfl rfl rfl rfl (Nat.le_refl _) (Nat.le_of_eq hb.symm) (fun hp19 => ?_)
  show Zt _ _ _ _ 79 _ [] (z, q17, J, G)
  refine z_iinc (L' := [some (vR g 250), some (vR g r1), some (vR g 245), some (vI x3), some (vI x4), some (vI (w32 (x5 + 1))), some (vI q8)]) dX1_goOnFrom_79 rfl rfl rfl rfl ?_
  refine z_goto (tgt := 29) dX1_goOnFrom_82 (by decide) ?_
  refine z_weak (L' := [some (vR g 250), some (vR g r1), some (vR g 245), some (vI x3), some (vI x4), some (vI (w32 (x5 + 1))), none]) (lsS (lsS (lsS (lsS (lsS (lsS (lsN ls0))))))) ?_
  exact kS _ (someE h).symm (inR_w32 _)
theorem l_F_goOnFrom_L29 {l : Launch} {g : GX} {φ : CX} {z : Nat} {G : Nat → Nat → Nat} {F : Nat} (hb : cb φ = z) (hz : 295 ≤ z) (hG : lyX G) {r1 : Nat} {x3 : Int} {x4 : Int} {J : Nat → Nat → Int} (hr1 : isRiv r1) (hx3 : inR x3) (hx4 : inR x4) (n : Nat) (s : Int × MI) (e : MI) (h : iter (fun s : Int × MI => f_F_goOnFrom_L29 F r1 x3 x4 s.1 s.2) n s = some e) (hs : inR s.1) (k : ((True) → Zt l g φ mu_F_goOnFrom 85 [none, none, none, none, none, none, none] [] (z, e, J, G))) : Zt l g φ mu_F_goOnFrom 29 [some (vR g 250), some (vR g r1), some (vR g 245), some (vI x3), some (vI x4), some (vI s.1), none] [] (z, s.2, J, G) := by
  refine iter_ind (Z := fun s : Int × MI => Zt l g φ mu_F_goOnFrom 29 [some (vR g 250), some (vR g r1), some (vR g 245), some (vI x3), some (vI x4), some (vI s.1), none] [] (z, s.2, J, G)) (ZE := fun e : MI => ((True) → Zt l g φ mu_F_goOnFrom 85 [none, none, none, none, none, none, none] [] (z, e, J, G))) (Rg := fun s : Int × MI => inR s.1) ?_ n s e h hs k
  intro s r hr hst kE kS
  exact t_F_goOnFrom_L29 hb hz hG hr1 hx3 hx4 hr hst kE kS
set_option maxHeartbeats 1000000 in
theorem t_F_goOnFrom_b20 {l : Launch} {g : GX} {φ : CX} {z : Nat} {G : Nat → Nat → Nat} {F : Nat} (hb : cb φ = z) (hz : 295 ≤ z) (hG : lyX G) {r1 : Nat} {x3 : Int} {I J : Nat → Nat → Int} (hr1 : isRiv r1) (hx3 : inR x3) {res : MI} (h : f_F_goOnFrom_b20 F r1 x3 I = some res) (hE : ends g φ none none True (z, res, J, G)) : Zt l g φ mu_F_goOnFrom 20 [some (vR g 250), some (vR g r1), some (vR g 245), some (vI x3), none, none, none] [] (z, I, J, G) := by
  refine z_aload_n dX1_goOnFrom_20 rfl ?_
  obtain ⟨q4, hq5, h⟩ := bindE h
  refine z_callV (As := []) (rest := []) (s_R_countLeaps hz hG hr1 hq5) dX1_goOnFrom_21 mw_R_countLeaps cl6 (riv_sh hr1) (riv_pos hr1) (Nat.le_trans (riv_le hr1) hz) ml_F_62 im_R_countLeaps se_R_countLeaps rfl rfl rfl rfl (Nat.le_refl _) (Nat.le_of_eq hb.symm) (fun hp6 => ?_)
  show Zt _ _ _ _ 24 _ [vI q4] (z, I, J, G)
  refine z_istore (L' := [some (vR g 250), some (vR g r1), some (vR g 245), some (vI x3), some (vI q4), none, none]) dX1_goOnFrom_24 rfl rfl rfl ?_
  refine z_iconst dX1_goOnFrom_26 ?_
  refine z_istore (L' := [some (vR g 250), some (vR g r1), some (vR g 245), some (vI x3), some (vI q4), some (vI 0), none]) dX1_goOnFrom_27 rfl rfl rfl ?_
  obtain ⟨e20, h21, h⟩ := bindE h
  refine l_F_goOnFrom_L29 hb hz hG hr1 hx3 hp6 _ _ _ h21 (inRd (x := 0) (by decide)) ?_
  refine fun h22 => ?_
  obtain rfl := someE h
  exact z_vret dX1_goOnFrom_85 hE trivial rfl
set_option maxHeartbeats 1000000 in
theorem s_F_goOnFrom {l : Launch} {g : GX} {z : Nat} {G : Nat → Nat → Nat} {F : Nat} (hz : 295 ≤ z) (hG : lyX G) {r1 : Nat} {x3 : Int} {I J : Nat → Nat → Int} (hr1 : isRiv r1) (hx3 : inR x3) {res : MI} (h : f_F_goOnFrom F r1 x3 I = some res) : Spec l g 15 yX1_goOnFrom cX1_goOnFrom 7 none [vR g 250, vR g r1, vR g 245, vI x3] (z, I, J, G) none True (z, res, J, G) := by
  refine spec_of (μ := mu_F_goOnFrom) (k := 3) (L0 := [some (vR g 250), some (vR g r1), some (vR g 245), some (vI x3), none, none, none]) rfl mw_F_goOnFrom rfl rfl (Nat.le_refl _) (fun φ hb hE => ?_)
  refine z_aload_n dX1_goOnFrom_0 rfl ?_
  refine y_getR dX1_goOnFrom_1 cl1 sh_250 (by decide) (Nat.le_trans (by decide) hz) 1 rfl rfl (fl_F_15) (ly_250_1 hG) (by decide) ?_
  refine z_iload_n dX1_goOnFrom_4 rfl ?_
  obtain ⟨hg1, h⟩ := guardE h
  refine z_nm (fun hN2 => ?_)
  refine y_iald dX1_goOnFrom_5 sh_252 (by decide) (Nat.le_trans (by decide) hz) hx3 hg1 ?_
  refine z_bipush dX1_goOnFrom_6 (by decide +kernel) ?_
  refine z_icmp_eq (tgt := 20) dX1_goOnFrom_8 (by decide) (hN2.1 252 (x3).toNat) (inRd (x := (-3)) (by decide)) (fun hc3 => ?_) (fun hc3 => ?_)
  · replace h := ifT hc3 h
    exact t_F_goOnFrom_b20 hb hz hG hr1 hx3 h hE
  replace h := ifF hc3 h
  refine z_aload_n dX1_goOnFrom_11 rfl ?_
  refine z_iload_n dX1_goOnFrom_12 rfl ?_
  refine z_bipush dX1_goOnFrom_13 (by decide +kernel) ?_
  refine z_iload_n dX1_goOnFrom_15 rfl ?_
  refine z_iadd dX1_goOnFrom_16 ?_
  obtain ⟨q23, hq24, h⟩ := bindE h
  refine z_callV (As := [vI x3, vI (w32 (96 + x3))]) (rest := []) (s_F_reach hz hG hx3 (inR_w32 _) hq24) dX1_goOnFrom_17 mw_F_reach cl1 sh_250 (by decide) (Nat.le_trans (by decide) hz) ml_F_48 im_F_reach se_F_reach rfl rfl rfl rfl (Nat.le_refl _) (Nat.le_of_eq hb.symm) (fun hp25 => ?_)
  show Zt _ _ _ _ 20 _ [] (z, q23, J, G)
  exact t_F_goOnFrom_b20 hb hz hG hr1 hx3 h hE
set_option maxHeartbeats 1000000 in
theorem t_F_seek_b51in16 {l : Launch} {g : GX} {φ : CX} {z : Nat} {G : Nat → Nat → Nat} {F : Nat} (hb : cb φ = z) (hz : 295 ≤ z) (hG : lyX G) {r1 : Nat} {x3 : Int} {s0 : Int} {I J : Nat → Nat → Int} (hr1 : isRiv r1) (hx3 : inR x3) (hs0 : inR s0) (hb0 : s0 = 0 ∨ s0 = 1) {res : (MI) ⊕ (Int × MI)} (h : f_F_seek_b51in16 F r1 x3 s0 I = some res) (kE : ∀ e : MI, res = .inl e → ((True) → Zt l g φ mu_F_seek 70 [some (vR g 250), some (vR g r1), some (vR g 245), none, none, none] [] (z, e, J, G))) (kS : ∀ s : Int × MI, res = .inr s → (inR s.1) → Zt l g φ mu_F_seek 16 [some (vR g 250), some (vR g r1), some (vR g 245), some (vI s.1), none, none] [] (z, s.2, J, G)) : Zt l g φ mu_F_seek 51 [some (vR g 250), some (vR g r1), some (vR g 245), some (vI x3), none, none] [vI s0] (z, I, J, G) := by
  refine z_istore (L' := [some (vR g 250), some (vR g r1), some (vR g 245), some (vI x3), some (vI s0), none]) dX1_seek_51 rfl rfl rfl ?_
  refine z_iload dX1_seek_53 rfl ?_
  refine z_if_eq (tgt := 64) dX1_seek_55 (by decide) hs0 (fun hc5 => ?_) (fun hc5 => ?_)
  · replace h := ifT hc5 h
    refine z_iinc (L' := [some (vR g 250), some (vR g r1), some (vR g 245), some (vI (w32 (x3 + 1))), some (vI s0), none]) dX1_seek_64 rfl rfl rfl rfl ?_
    refine z_goto (tgt := 16) dX1_seek_67 (by decide) ?_
    refine z_weak (L' := [some (vR g 250), some (vR g r1), some (vR g 245), some (vI (w32 (x3 + 1))), none, none]) (lsS (lsS (lsS (lsS (lsN (lsN ls0)))))) ?_
    exact kS _ (someE h).symm (inR_w32 _)
  replace h := ifF hc5 h
  refine z_aload_n dX1_seek_58 rfl ?_
  refine z_iload_n dX1_seek_59 rfl ?_
  refine z_iconst dX1_seek_60 ?_
  obtain ⟨q6, hq7, h⟩ := bindE h
  refine z_callV (As := [vI x3, vI (-1)]) (rest := []) (s_F_reach hz hG hx3 (inRd (x := (-1)) (by decide)) hq7) dX1_seek_61 mw_F_reach cl1 sh_250 (by decide) (Nat.le_trans (by decide) hz) ml_F_48 im_F_reach se_F_reach rfl rfl rfl rfl (Nat.le_refl _) (Nat.le_of_eq hb.symm) (fun hp8 => ?_)
  show Zt _ _ _ _ 64 _ [] (z, q6, J, G)
  refine z_iinc (L' := [some (vR g 250), some (vR g r1), some (vR g 245), some (vI (w32 (x3 + 1))), some (vI s0), none]) dX1_seek_64 rfl rfl rfl rfl ?_
  refine z_goto (tgt := 16) dX1_seek_67 (by decide) ?_
  refine z_weak (L' := [some (vR g 250), some (vR g r1), some (vR g 245), some (vI (w32 (x3 + 1))), none, none]) (lsS (lsS (lsS (lsS (lsN (lsN ls0)))))) ?_
  exact kS _ (someE h).symm (inR_w32 _)
set_option maxHeartbeats 1000000 in
theorem t_F_seek_b50in16 {l : Launch} {g : GX} {φ : CX} {z : Nat} {G : Nat → Nat → Nat} {F : Nat} (hb : cb φ = z) (hz : 295 ≤ z) (hG : lyX G) {r1 : Nat} {x3 : Int} {I J : Nat → Nat → Int} (hr1 : isRiv r1) (hx3 : inR x3) {res : (MI) ⊕ (Int × MI)} (h : f_F_seek_b50in16 F r1 x3 I = some res) (kE : ∀ e : MI, res = .inl e → ((True) → Zt l g φ mu_F_seek 70 [some (vR g 250), some (vR g r1), some (vR g 245), none, none, none] [] (z, e, J, G))) (kS : ∀ s : Int × MI, res = .inr s → (inR s.1) → Zt l g φ mu_F_seek 16 [some (vR g 250), some (vR g r1), some (vR g 245), some (vI s.1), none, none] [] (z, s.2, J, G)) : Zt l g φ mu_F_seek 50 [some (vR g 250), some (vR g r1), some (vR g 245), some (vI x3), none, none] [] (z, I, J, G) := by
  refine z_iconst dX1_seek_50 ?_
  exact t_F_seek_b51in16 hb hz hG hr1 hx3 (inRd (x := 0) (by decide)) b01_0 h kE kS
set_option maxHeartbeats 1000000 in
theorem t_F_seek_L16 {l : Launch} {g : GX} {φ : CX} {z : Nat} {G : Nat → Nat → Nat} {F : Nat} (hb : cb φ = z) (hz : 295 ≤ z) (hG : lyX G) {r1 : Nat} {x3 : Int} {I J : Nat → Nat → Int} (hr1 : isRiv r1) (hx3 : inR x3) {res : (MI) ⊕ (Int × MI)} (h : f_F_seek_L16 F r1 x3 I = some res) (kE : ∀ e : MI, res = .inl e → ((True) → Zt l g φ mu_F_seek 70 [some (vR g 250), some (vR g r1), some (vR g 245), none, none, none] [] (z, e, J, G))) (kS : ∀ s : Int × MI, res = .inr s → (inR s.1) → Zt l g φ mu_F_seek 16 [some (vR g 250), some (vR g r1), some (vR g 245), some (vI s.1), none, none] [] (z, s.2, J, G)) : Zt l g φ mu_F_seek 16 [some (vR g 250), some (vR g r1), some (vR g 245), some (vI x3), none, none] [] (z, I, J, G) := by
  refine z_iload_n dX1_seek_16 rfl ?_
  refine z_bipush dX1_seek_17 (by decide +kernel) ?_
  refine z_icmp_ge (tgt := 70) dX1_seek_19 (by decide) hx3 (inRd (x := 96) (by decide)) (fun hc1 => ?_) (fun hc1 => ?_)
  · replace h := ifT hc1 h
    refine z_weak (L' := [some (vR g 250), some (vR g r1), some (vR g 245), none, none, none]) (lsS (lsS (lsS (lsN (lsN (lsN ls0)))))) ?_
    exact kE _ (someE h).symm trivial
  replace h := ifF hc1 h
  refine z_aload_n dX1_seek_22 rfl ?_
  refine z_iload_n dX1_seek_23 rfl ?_
  obtain ⟨hg2, h⟩ := guardE h
  refine z_nm (fun hN3 => ?_)
  refine y_iald dX1_seek_24 sh_245 (by decide) (Nat.le_trans (by decide) hz) hx3 hg2 ?_
  refine z_if_lt (tgt := 50) dX1_seek_25 (by decide) (hN3.1 245 (x3).toNat) (fun hc4 => ?_) (fun hc4 => ?_)
  · replace h := ifT hc4 h
    exact t_F_seek_b50in16 hb hz hG hr1 hx3 h kE kS
  replace h := ifF hc4 h
  refine z_aload_n dX1_seek_28 rfl ?_
  refine z_iload_n dX1_seek_29 rfl ?_
  obtain ⟨q9, hq10, h⟩ := bindE h
  refine z_callV (As := [vI x3]) (rest := []) (s_R_isNearEnough hz hG hr1 hx3 hq10) dX1_seek_30 mw_R_isNearEnough cl6 (riv_sh hr1) (riv_pos hr1) (Nat.le_trans (riv_le hr1) hz) ml_F_42 im_R_isNearEnough se_R_isNearEnough rfl rfl rfl rfl (Nat.le_refl _) (Nat.le_of_eq hb.symm) (fun hp11 => ?_)
  show Zt _ _ _ _ 33 _ [vI q9] (z, I, J, G)
  refine z_if_eq (tgt := 50) dX1_seek_33 (by decide) (inR_bool hp11) (fun hc12 => ?_) (fun hc12 => ?_)
  · replace h := ifT hc12 h
    exact t_F_seek_b50in16 hb hz hG hr1 hx3 h kE kS
  replace h := ifF hc12 h
  refine z_aload_n dX1_seek_36 rfl ?_
  refine y_getR dX1_seek_37 cl1 sh_250 (by decide) (Nat.le_trans (by decide) hz) 0 rfl rfl (fl_F_9) (ly_250_0 hG) (by decide) ?_
  refine z_iload_n dX1_seek_40 rfl ?_
  refine y_iald dX1_seek_41 sh_251 (by decide) (Nat.le_trans (by decide) hz) hx3 hg2 ?_
  refine z_iconst dX1_seek_42 ?_
  refine z_icmp_eq (tgt := 50) dX1_seek_43 (by decide) (hN3.1 251 (x3).toNat) (inRd (x := (-1)) (by decide)) (fun hc13 => ?_) (fun hc13 => ?_)
  · replace h := ifT hc13 h
    exact t_F_seek_b50in16 hb hz hG hr1 hx3 h kE kS
  replace h := ifF hc13 h
  refine z_iconst dX1_seek_46 ?_
  refine z_goto (tgt := 51) dX1_seek_47 (by decide) ?_
  exact t_F_seek_b51in16 hb hz hG hr1 hx3 (inRd (x := 1) (by decide)) b01_1 h kE kS
theorem l_F_seek_L16 {l : Launch} {g : GX} {φ : CX} {z : Nat} {G : Nat → Nat → Nat} {F : Nat} (hb : cb φ = z) (hz : 295 ≤ z) (hG : lyX G) {r1 : Nat} {J : Nat → Nat → Int} (hr1 : isRiv r1) (n : Nat) (s : Int × MI) (e : MI) (h : iter (fun s : Int × MI => f_F_seek_L16 F r1 s.1 s.2) n s = some e) (hs : inR s.1) (k : ((True) → Zt l g φ mu_F_seek 70 [some (vR g 250), some (vR g r1), some (vR g 245), none, none, none] [] (z, e, J, G))) : Zt l g φ mu_F_seek 16 [some (vR g 250), some (vR g r1), some (vR g 245), some (vI s.1), none, none] [] (z, s.2, J, G) := by
  refine iter_ind (Z := fun s : Int × MI => Zt l g φ mu_F_seek 16 [some (vR g 250), some (vR g r1), some (vR g 245), some (vI s.1), none, none] [] (z, s.2, J, G)) (ZE := fun e : MI => ((True) → Zt l g φ mu_F_seek 70 [some (vR g 250), some (vR g r1), some (vR g 245), none, none, none] [] (z, e, J, G))) (Rg := fun s : Int × MI => inR s.1) ?_ n s e h hs k
  intro s r hr hst kE kS
  exact t_F_seek_L16 hb hz hG hr1 hr hst kE kS
set_option maxHeartbeats 1000000 in
theorem t_F_seek_b142in72 {l : Launch} {g : GX} {φ : CX} {z : Nat} {G : Nat → Nat → Nat} {F : Nat} (hb : cb φ = z) (hz : 295 ≤ z) (hG : lyX G) {r1 : Nat} {x3 : Int} {x5 : Int} {I J : Nat → Nat → Int} (hr1 : isRiv r1) (hx3 : inR x3) (hx5 : inR x5) {res : ((Int × MI) ⊕ (MI)) ⊕ (Int × MI)} (h : f_F_seek_b142in72 F r1 x3 x5 I = some res) (kE : ∀ e : (Int × MI) ⊕ (MI), res = .inl e → ((fun w : (Int × MI) ⊕ (MI) => (match w with | .inl e0 => ((inR e0.1) → Zt l g φ mu_F_seek 139 [none, none, none, none, none, some (vI e0.1)] [] (z, e0.2, J, G)) | .inr o0 => ((True) → Zt l g φ mu_F_seek 156 [none, none, none, none, none, none] [] (z, o0, J, G)))) e)) (kS : ∀ s : Int × MI, res = .inr s → (inR s.1) → Zt l g φ mu_F_seek 72 [some (vR g 250), some (vR g r1), some (vR g 245), some (vI s.1), none, none] [] (z, s.2, J, G)) : Zt l g φ mu_F_seek 142 [some (vR g 250), some (vR g r1), some (vR g 245), some (vI x3), none, some (vI x5)] [] (z, I, J, G) := by
  refine z_aload_n dX1_seek_142 rfl ?_
  refine z_aload_n dX1_seek_143 rfl ?_
  refine z_aload_n dX1_seek_144 rfl ?_
  refine z_iload dX1_seek_145 rfl ?_
  obtain ⟨q26, hq27, h⟩ := bindE h
  refine z_callV (As := [vR g r1, vR g 245, vI x5]) (rest := []) (s_F_goOnFrom hz hG hr1 hx5 hq27) dX1_seek_147 mw_F_goOnFrom cl1 sh_250 (by decide) (Nat.le_trans (by decide) hz) ml_F_58 im_F_goOnFrom se_F_goOnFrom rfl rfl rfl rfl (Nat.le_refl _) (Nat.le_of_eq hb.symm) (fun hp28 => ?_)
  show Zt _ _ _ _ 150 _ [] (z, q26, J, G)
  refine z_iinc (L' := [some (vR g 250), some (vR g r1), some (vR g 245), some (vI (w32 (x3 + 1))), none, some (vI x5)]) dX1_seek_150 rfl rfl rfl rfl ?_
  refine z_goto (tgt := 72) dX1_seek_153 (by decide) ?_
  refine z_weak (L' := [some (vR g 250), some (vR g r1), some (vR g 245), some (vI (w32 (x3 + 1))), none, none]) (lsS (lsS (lsS (lsS (lsN (lsN ls0)))))) ?_
  exact kS _ (someE h).symm (inR_w32 _)
set_option maxHeartbeats 1000000 in
theorem t_F_seek_L72 {l : Launch} {g : GX} {φ : CX} {z : Nat} {G : Nat → Nat → Nat} {F : Nat} (hb : cb φ = z) (hz : 295 ≤ z) (hG : lyX G) {r1 : Nat} {x3 : Int} {I J : Nat → Nat → Int} (hr1 : isRiv r1) (hx3 : inR x3) {res : ((Int × MI) ⊕ (MI)) ⊕ (Int × MI)} (h : f_F_seek_L72 F r1 x3 I = some res) (kE : ∀ e : (Int × MI) ⊕ (MI), res = .inl e → ((fun w : (Int × MI) ⊕ (MI) => (match w with | .inl e0 => ((inR e0.1) → Zt l g φ mu_F_seek 139 [none, none, none, none, none, some (vI e0.1)] [] (z, e0.2, J, G)) | .inr o0 => ((True) → Zt l g φ mu_F_seek 156 [none, none, none, none, none, none] [] (z, o0, J, G)))) e)) (kS : ∀ s : Int × MI, res = .inr s → (inR s.1) → Zt l g φ mu_F_seek 72 [some (vR g 250), some (vR g r1), some (vR g 245), some (vI s.1), none, none] [] (z, s.2, J, G)) : Zt l g φ mu_F_seek 72 [some (vR g 250), some (vR g r1), some (vR g 245), some (vI x3), none, none] [] (z, I, J, G) := by
  refine z_iload_n dX1_seek_72 rfl ?_
  refine z_aload_n dX1_seek_73 rfl ?_
  refine z_nm (fun hN17 => ?_)
  refine y_getI dX1_seek_74 cl1 sh_250 (by decide) (Nat.le_trans (by decide) hz) 4 rfl rfl (fl_F_38) ?_
  refine z_icmp_ge (tgt := 156) dX1_seek_77 (by decide) hx3 (hN17.1 250 4) (fun hc18 => ?_) (fun hc18 => ?_)
  · replace h := ifT hc18 h
    refine z_weak (L' := [none, none, none, none, none, none]) (lsN (lsN (lsN (lsN (lsN (lsN ls0)))))) ?_
    exact kE _ (someE h).symm trivial
  replace h := ifF hc18 h
  refine z_iload_n dX1_seek_80 rfl ?_
  refine z_sipush dX1_seek_81 (by decide +kernel) ?_
  refine z_icmp_ge (tgt := 156) dX1_seek_84 (by decide) hx3 (inRd (x := 192) (by decide)) (fun hc19 => ?_) (fun hc19 => ?_)
  · replace h := ifT hc19 h
    refine z_weak (L' := [none, none, none, none, none, none]) (lsN (lsN (lsN (lsN (lsN (lsN ls0)))))) ?_
    exact kE _ (someE h).symm trivial
  replace h := ifF hc19 h
  refine z_aload_n dX1_seek_87 rfl ?_
  refine y_getR dX1_seek_88 cl1 sh_250 (by decide) (Nat.le_trans (by decide) hz) 3 rfl rfl (fl_F_21) (ly_250_3 hG) (by decide) ?_
  refine z_iload_n dX1_seek_91 rfl ?_
  obtain ⟨hg20, h⟩ := guardE h
  refine y_iald dX1_seek_92 sh_254 (by decide) (Nat.le_trans (by decide) hz) hx3 hg20 ?_
  refine z_istore (L' := [some (vR g 250), some (vR g r1), some (vR g 245), some (vI x3), some (vI (I 254 (x3).toNat)), none]) dX1_seek_93 rfl rfl rfl ?_
  refine z_iload dX1_seek_95 rfl ?_
  refine z_bipush dX1_seek_97 (by decide +kernel) ?_
  refine z_icmp_ge (tgt := 111) dX1_seek_99 (by decide) (hN17.1 254 (x3).toNat) (inRd (x := 96) (by decide)) (fun hc21 => ?_) (fun hc21 => ?_)
  · replace h := ifT hc21 h
    refine z_iload dX1_seek_111 rfl ?_
    refine z_bipush dX1_seek_113 (by decide +kernel) ?_
    refine z_isub dX1_seek_115 ?_
    refine z_istore (L' := [some (vR g 250), some (vR g r1), some (vR g 245), some (vI x3), some (vI (I 254 (x3).toNat)), some (vI (w32 ((I 254 (x3).toNat) - 96)))]) dX1_seek_116 rfl rfl rfl ?_
    refine z_aload_n dX1_seek_118 rfl ?_
    refine z_iload dX1_seek_119 rfl ?_
    obtain ⟨q22, hq23, h⟩ := bindE h
    refine z_callV (As := [vI (w32 ((I 254 (x3).toNat) - 96))]) (rest := []) (s_R_isFarEnough hz hG hr1 (inR_w32 _) hq23) dX1_seek_121 mw_R_isFarEnough cl6 (riv_sh hr1) (riv_pos hr1) (Nat.le_trans (riv_le hr1) hz) ml_F_55 im_R_isFarEnough se_R_isFarEnough rfl rfl rfl rfl (Nat.le_refl _) (Nat.le_of_eq hb.symm) (fun hp24 => ?_)
    show Zt _ _ _ _ 124 _ [vI q22] (z, I, J, G)
    refine z_if_eq (tgt := 142) dX1_seek_124 (by decide) (inR_bool hp24) (fun hc25 => ?_) (fun hc25 => ?_)
    · replace h := ifT hc25 h
      refine z_weak (L' := [some (vR g 250), some (vR g r1), some (vR g 245), some (vI x3), none, some (vI (w32 ((I 254 (x3).toNat) - 96)))]) (lsS (lsS (lsS (lsS (lsN (lsS ls0)))))) ?_
      exact t_F_seek_b142in72 hb hz hG hr1 hx3 (inR_w32 _) h kE kS
    replace h := ifF hc25 h
    refine z_aload_n dX1_seek_127 rfl ?_
    refine y_getR dX1_seek_128 cl1 sh_250 (by decide) (Nat.le_trans (by decide) hz) 1 rfl rfl (fl_F_15) (ly_250_1 hG) (by decide) ?_
    refine z_iload dX1_seek_131 rfl ?_
    obtain ⟨hg29, h⟩ := guardE h
    refine y_iald dX1_seek_133 sh_252 (by decide) (Nat.le_trans (by decide) hz) (inR_w32 _) hg29 ?_
    refine z_bipush dX1_seek_134 (by decide +kernel) ?_
    refine z_icmp_eq (tgt := 142) dX1_seek_136 (by decide) (hN17.1 252 ((w32 ((I 254 (x3).toNat) - 96))).toNat) (inRd (x := (-2)) (by decide)) (fun hc30 => ?_) (fun hc30 => ?_)
    · replace h := ifT hc30 h
      refine z_weak (L' := [some (vR g 250), some (vR g r1), some (vR g 245), some (vI x3), none, some (vI (w32 ((I 254 (x3).toNat) - 96)))]) (lsS (lsS (lsS (lsS (lsN (lsS ls0)))))) ?_
      exact t_F_seek_b142in72 hb hz hG hr1 hx3 (inR_w32 _) h kE kS
    replace h := ifF hc30 h
    refine z_weak (L' := [none, none, none, none, none, some (vI (w32 ((I 254 (x3).toNat) - 96)))]) (lsN (lsN (lsN (lsN (lsN (lsS ls0)))))) ?_
    exact kE _ (someE h).symm (inR_w32 _)
  replace h := ifF hc21 h
  refine z_aload_n dX1_seek_102 rfl ?_
  refine z_iload dX1_seek_103 rfl ?_
  obtain ⟨q31, hq32, h⟩ := bindE h
  refine z_callV (As := [vI (I 254 (x3).toNat)]) (rest := []) (s_F_comeTo hz hG (hN17.1 254 (x3).toNat) hq32) dX1_seek_105 mw_F_comeTo cl1 sh_250 (by decide) (Nat.le_trans (by decide) hz) ml_F_52 im_F_comeTo se_F_comeTo rfl rfl rfl rfl (Nat.le_refl _) (Nat.le_of_eq hb.symm) (fun hp33 => ?_)
  show Zt _ _ _ _ 108 _ [] (z, q31, J, G)
  refine z_goto (tgt := 150) dX1_seek_108 (by decide) ?_
  refine z_iinc (L' := [some (vR g 250), some (vR g r1), some (vR g 245), some (vI (w32 (x3 + 1))), some (vI (I 254 (x3).toNat)), none]) dX1_seek_150 rfl rfl rfl rfl ?_
  refine z_goto (tgt := 72) dX1_seek_153 (by decide) ?_
  refine z_weak (L' := [some (vR g 250), some (vR g r1), some (vR g 245), some (vI (w32 (x3 + 1))), none, none]) (lsS (lsS (lsS (lsS (lsN (lsN ls0)))))) ?_
  exact kS _ (someE h).symm (inR_w32 _)
theorem l_F_seek_L72 {l : Launch} {g : GX} {φ : CX} {z : Nat} {G : Nat → Nat → Nat} {F : Nat} (hb : cb φ = z) (hz : 295 ≤ z) (hG : lyX G) {r1 : Nat} {J : Nat → Nat → Int} (hr1 : isRiv r1) (n : Nat) (s : Int × MI) (e : (Int × MI) ⊕ (MI)) (h : iter (fun s : Int × MI => f_F_seek_L72 F r1 s.1 s.2) n s = some e) (hs : inR s.1) (k : ((fun w : (Int × MI) ⊕ (MI) => (match w with | .inl e0 => ((inR e0.1) → Zt l g φ mu_F_seek 139 [none, none, none, none, none, some (vI e0.1)] [] (z, e0.2, J, G)) | .inr o0 => ((True) → Zt l g φ mu_F_seek 156 [none, none, none, none, none, none] [] (z, o0, J, G)))) e)) : Zt l g φ mu_F_seek 72 [some (vR g 250), some (vR g r1), some (vR g 245), some (vI s.1), none, none] [] (z, s.2, J, G) := by
  refine iter_ind (Z := fun s : Int × MI => Zt l g φ mu_F_seek 72 [some (vR g 250), some (vR g r1), some (vR g 245), some (vI s.1), none, none] [] (z, s.2, J, G)) (ZE := fun e : (Int × MI) ⊕ (MI) => ((fun w : (Int × MI) ⊕ (MI) => (match w with | .inl e0 => ((inR e0.1) → Zt l g φ mu_F_seek 139 [none, none, none, none, none, some (vI e0.1)] [] (z, e0.2, J, G)) | .inr o0 => ((True) → Zt l g φ mu_F_seek 156 [none, none, none, none, none, none] [] (z, o0, J, G)))) e)) (Rg := fun s : Int × MI => inR s.1) ?_ n s e h hs k
  intro s r hr hst kE kS
  exact t_F_seek_L72 hb hz hG hr1 hr hst kE kS
set_option maxHeartbeats 1000000 in
theorem s_F_seek {l : Launch} {g : GX} {z : Nat} {G : Nat → Nat → Nat} {F : Nat} (hz : 295 ≤ z) (hG : lyX G) {r1 : Nat} {I J : Nat → Nat → Int} (hr1 : isRiv r1) {res : Int × MI} (h : f_F_seek F r1 I = some res) : Spec l g 16 yX1_seek cX1_seek 6 (some .int) [vR g 250, vR g r1, vR g 245] (z, I, J, G) (some (vI res.1)) (inR res.1) (z, res.2, J, G) := by
  refine spec_of (μ := mu_F_seek) (k := 3) (L0 := [some (vR g 250), some (vR g r1), some (vR g 245), none, none, none]) rfl mw_F_seek rfl rfl (Nat.le_refl _) (fun φ hb hE => ?_)
  refine z_aload_n dX1_seek_0 rfl ?_
  refine y_getR dX1_seek_1 cl1 sh_250 (by decide) (Nat.le_trans (by decide) hz) 2 rfl rfl (fl_F_18) (ly_250_2 hG) (by decide) ?_
  refine z_bipush dX1_seek_4 (by decide +kernel) ?_
  refine z_callS (As := [vR g 253, vI (-3)]) (rest := []) (s_fill sh_253 (by decide) (Nat.le_trans (by decide) hz) (inRd (x := (-3)) (by decide)) (by decide)) dX1_seek_6 mw_fill (tin5 99 (by decide +kernel) rfl) st_fill rfl rfl rfl rfl (Nat.le_refl _) (Nat.le_of_eq hb.symm) (fun _ => ?_)
  show Zt _ _ _ _ 9 _ [] (z, (fillA I 253 192 (-3)), J, G)
  refine z_aload_n dX1_seek_9 rfl ?_
  refine z_iconst dX1_seek_10 ?_
  refine y_putI dX1_seek_11 cl1 sh_250 (by decide) (Nat.le_trans (by decide) hz) 4 rfl rfl rfl (fl_F_38) rfl rfl (inRd (x := 0) (by decide)) ?_
  refine z_iconst dX1_seek_14 ?_
  refine z_istore_n (L' := [some (vR g 250), some (vR g r1), some (vR g 245), some (vI 0), none, none]) dX1_seek_15 rfl rfl rfl ?_
  obtain ⟨e14, h15, h⟩ := bindE h
  refine l_F_seek_L16 hb hz hG hr1 _ _ _ h15 (inRd (x := 0) (by decide)) ?_
  refine fun h16 => ?_
  refine z_iconst dX1_seek_70 ?_
  refine z_istore_n (L' := [some (vR g 250), some (vR g r1), some (vR g 245), some (vI 0), none, none]) dX1_seek_71 rfl rfl rfl ?_
  obtain ⟨e34, h35, h⟩ := bindE h
  rcases e34 with e36 | o37
  · refine l_F_seek_L72 hb hz hG hr1 _ _ _ h35 (inRd (x := 0) (by decide)) ?_
    refine fun h38 => ?_
    refine z_iload dX1_seek_139 rfl ?_
    obtain rfl := someE h
    exact z_iret dX1_seek_141 hE h38 rfl
  refine l_F_seek_L72 hb hz hG hr1 _ _ _ h35 (inRd (x := 0) (by decide)) ?_
  refine fun h39 => ?_
  refine z_iconst dX1_seek_156 ?_
  obtain rfl := someE h
  exact z_iret dX1_seek_157 hE (inRd (x := (-1)) (by decide)) rfl
set_option maxHeartbeats 1000000 in
theorem t_F_most_L23 {l : Launch} {g : GX} {φ : CX} {z : Nat} {G : Nat → Nat → Nat} {F : Nat} (hb : cb φ = z) (hz : 295 ≤ z) (hG : lyX G) {r1 : Nat} {x3 : Int} {x4 : Int} {I J : Nat → Nat → Int} (hr1 : isRiv r1) (hx3 : inR x3) (hx4 : inR x4) {res : ((Int × MI) ⊕ (Int × MI)) ⊕ (Int × Int × MI)} (h : f_F_most_L23 F r1 x3 x4 I = some res) (kE : ∀ e : (Int × MI) ⊕ (Int × MI), res = .inl e → ((fun w : (Int × MI) ⊕ (Int × MI) => (match w with | .inl e0 => ((inR e0.1) → Zt l g φ mu_F_most 44 [none, none, none, some (vI e0.1), none, none] [] (z, e0.2, J, G)) | .inr o0 => ((inR o0.1) → Zt l g φ mu_F_most 62 [none, none, none, some (vI o0.1), none, none] [] (z, o0.2, J, G)))) e)) (kS : ∀ s : Int × Int × MI, res = .inr s → (inR s.1 ∧ inR s.2.1) → Zt l g φ mu_F_most 23 [some (vR g 250), some (vR g r1), some (vR g 245), some (vI s.1), some (vI s.2.1), none] [] (z, s.2.2, J, G)) : Zt l g φ mu_F_most 23 [some (vR g 250), some (vR g r1), some (vR g 245), some (vI x3), some (vI x4), none] [] (z, I, J, G) := by
  refine z_iload dX1_most_23 rfl ?_
  refine z_bipush dX1_most_25 (by decide +kernel) ?_
  refine z_icmp_ge (tgt := 62) dX1_most_27 (by decide) hx4 (inRd (x := 96) (by decide)) (fun hc1 => ?_) (fun hc1 => ?_)
  · replace h := ifT hc1 h
    refine z_weak (L' := [none, none, none, some (vI x3), none, none]) (lsN (lsN (lsN (lsS (lsN (lsN ls0)))))) ?_
    exact kE _ (someE h).symm hx3
  replace h := ifF hc1 h
  refine z_aload_n dX1_most_30 rfl ?_
  refine z_aload_n dX1_most_31 rfl ?_
  refine z_aload_n dX1_most_32 rfl ?_
  obtain ⟨q2, hq3, h⟩ := bindE h
  refine z_callV (As := [vR g r1, vR g 245]) (rest := []) (s_F_seek hz hG hr1 hq3) dX1_most_33 mw_F_seek cl1 sh_250 (by decide) (Nat.le_trans (by decide) hz) ml_F_30 im_F_seek se_F_seek rfl rfl rfl rfl (Nat.le_refl _) (Nat.le_of_eq hb.symm) (fun hp4 => ?_)
  show Zt _ _ _ _ 36 _ [vI q2.1] (z, q2.2, J, G)
  refine z_istore (L' := [some (vR g 250), some (vR g r1), some (vR g 245), some (vI x3), some (vI x4), some (vI q2.1)]) dX1_most_36 rfl rfl rfl ?_
  refine z_iload dX1_most_38 rfl ?_
  refine z_iconst dX1_most_40 ?_
  refine z_icmp_ne (tgt := 47) dX1_most_41 (by decide) hp4 (inRd (x := (-1)) (by decide)) (fun hc5 => ?_) (fun hc5 => ?_)
  · replace h := ifT hc5 h
    refine z_aload_n dX1_most_47 rfl ?_
    refine z_iload dX1_most_48 rfl ?_
    obtain ⟨q6, hq7, h⟩ := bindE h
    refine z_callV (As := [vI q2.1]) (rest := []) (s_F_addWay hz hG hp4 hq7) dX1_most_50 mw_F_addWay cl1 sh_250 (by decide) (Nat.le_trans (by decide) hz) ml_F_34 im_F_addWay se_F_addWay rfl rfl rfl rfl (Nat.le_refl _) (Nat.le_of_eq hb.symm) (fun hp8 => ?_)
    show Zt _ _ _ _ 53 _ [] (z, q6, J, G)
    refine z_iinc (L' := [some (vR g 250), some (vR g r1), some (vR g 245), some (vI (w32 (x3 + 1))), some (vI x4), some (vI q2.1)]) dX1_most_53 rfl rfl rfl rfl ?_
    refine z_iinc (L' := [some (vR g 250), some (vR g r1), some (vR g 245), some (vI (w32 (x3 + 1))), some (vI (w32 (x4 + 1))), some (vI q2.1)]) dX1_most_56 rfl rfl rfl rfl ?_
    refine z_goto (tgt := 23) dX1_most_59 (by decide) ?_
    refine z_weak (L' := [some (vR g 250), some (vR g r1), some (vR g 245), some (vI (w32 (x3 + 1))), some (vI (w32 (x4 + 1))), none]) (lsS (lsS (lsS (lsS (lsS (lsN ls0)))))) ?_
    exact kS _ (someE h).symm ⟨(inR_w32 _), (inR_w32 _)⟩
  replace h := ifF (fun q => q hc5) h
  refine z_weak (L' := [none, none, none, some (vI x3), none, none]) (lsN (lsN (lsN (lsS (lsN (lsN ls0)))))) ?_
  exact kE _ (someE h).symm hx3
theorem l_F_most_L23 {l : Launch} {g : GX} {φ : CX} {z : Nat} {G : Nat → Nat → Nat} {F : Nat} (hb : cb φ = z) (hz : 295 ≤ z) (hG : lyX G) {r1 : Nat} {J : Nat → Nat → Int} (hr1 : isRiv r1) (n : Nat) (s : Int × Int × MI) (e : (Int × MI) ⊕ (Int × MI)) (h : iter (fun s : Int × Int × MI => f_F_most_L23 F r1 s.1 s.2.1 s.2.2) n s = some e) (hs : inR s.1 ∧ inR s.2.1) (k : ((fun w : (Int × MI) ⊕ (Int × MI) => (match w with | .inl e0 => ((inR e0.1) → Zt l g φ mu_F_most 44 [none, none, none, some (vI e0.1), none, none] [] (z, e0.2, J, G)) | .inr o0 => ((inR o0.1) → Zt l g φ mu_F_most 62 [none, none, none, some (vI o0.1), none, none] [] (z, o0.2, J, G)))) e)) : Zt l g φ mu_F_most 23 [some (vR g 250), some (vR g r1), some (vR g 245), some (vI s.1), some (vI s.2.1), none] [] (z, s.2.2, J, G) := by
  refine iter_ind (Z := fun s : Int × Int × MI => Zt l g φ mu_F_most 23 [some (vR g 250), some (vR g r1), some (vR g 245), some (vI s.1), some (vI s.2.1), none] [] (z, s.2.2, J, G)) (ZE := fun e : (Int × MI) ⊕ (Int × MI) => ((fun w : (Int × MI) ⊕ (Int × MI) => (match w with | .inl e0 => ((inR e0.1) → Zt l g φ mu_F_most 44 [none, none, none, some (vI e0.1), none, none] [] (z, e0.2, J, G)) | .inr o0 => ((inR o0.1) → Zt l g φ mu_F_most 62 [none, none, none, some (vI o0.1), none, none] [] (z, o0.2, J, G)))) e)) (Rg := fun s : Int × Int × MI => inR s.1 ∧ inR s.2.1) ?_ n s e h hs k
  intro s r hr hst kE kS
  exact t_F_most_L23 hb hz hG hr1 hr.1 hr.2 hst kE kS
set_option maxHeartbeats 1000000 in
theorem s_F_most {l : Launch} {g : GX} {z : Nat} {G : Nat → Nat → Nat} {F : Nat} (hz : 295 ≤ z) (hG : lyX G) {r1 : Nat} {I J : Nat → Nat → Int} (hr1 : isRiv r1) {res : Int × MI} (h : f_F_most F r1 I = some res) : Spec l g 17 yX1_most cX1_most 6 (some .int) [vR g 250, vR g r1, vR g 245] (z, I, J, G) (some (vI res.1)) (inR res.1) (z, res.2, J, G) := by
  refine spec_of (μ := mu_F_most) (k := 3) (L0 := [some (vR g 250), some (vR g r1), some (vR g 245), none, none, none]) rfl mw_F_most rfl rfl (Nat.le_refl _) (fun φ hb hE => ?_)
  refine z_aload_n dX1_most_0 rfl ?_
  refine y_getR dX1_most_1 cl1 sh_250 (by decide) (Nat.le_trans (by decide) hz) 0 rfl rfl (fl_F_9) (ly_250_0 hG) (by decide) ?_
  refine z_bipush dX1_most_4 (by decide +kernel) ?_
  refine z_callS (As := [vR g 251, vI (-3)]) (rest := []) (s_fill sh_251 (by decide) (Nat.le_trans (by decide) hz) (inRd (x := (-3)) (by decide)) (by decide)) dX1_most_6 mw_fill (tin5 99 (by decide +kernel) rfl) st_fill rfl rfl rfl rfl (Nat.le_refl _) (Nat.le_of_eq hb.symm) (fun _ => ?_)
  show Zt _ _ _ _ 9 _ [] (z, (fillA I 251 96 (-3)), J, G)
  refine z_aload_n dX1_most_9 rfl ?_
  refine y_getR dX1_most_10 cl1 sh_250 (by decide) (Nat.le_trans (by decide) hz) 1 rfl rfl (fl_F_15) (ly_250_1 hG) (by decide) ?_
  refine z_bipush dX1_most_13 (by decide +kernel) ?_
  refine z_callS (As := [vR g 252, vI (-3)]) (rest := []) (s_fill sh_252 (by decide) (Nat.le_trans (by decide) hz) (inRd (x := (-3)) (by decide)) (by decide)) dX1_most_15 mw_fill (tin5 99 (by decide +kernel) rfl) st_fill rfl rfl rfl rfl (Nat.le_refl _) (Nat.le_of_eq hb.symm) (fun _ => ?_)
  show Zt _ _ _ _ 18 _ [] (z, (fillA (fillA I 251 96 (-3)) 252 96 (-3)), J, G)
  refine z_iconst dX1_most_18 ?_
  refine z_istore_n (L' := [some (vR g 250), some (vR g r1), some (vR g 245), some (vI 0), none, none]) dX1_most_19 rfl rfl rfl ?_
  refine z_iconst dX1_most_20 ?_
  refine z_istore (L' := [some (vR g 250), some (vR g r1), some (vR g 245), some (vI 0), some (vI 0), none]) dX1_most_21 rfl rfl rfl ?_
  obtain ⟨e9, h10, h⟩ := bindE h
  rcases e9 with e11 | o12
  · refine l_F_most_L23 hb hz hG hr1 _ _ _ h10 ⟨(inRd (x := 0) (by decide)), (inRd (x := 0) (by decide))⟩ ?_
    refine fun h13 => ?_
    refine z_goto (tgt := 62) dX1_most_44 (by decide) ?_
    refine z_iload_n dX1_most_62 rfl ?_
    obtain rfl := someE h
    exact z_iret dX1_most_63 hE h13 rfl
  refine l_F_most_L23 hb hz hG hr1 _ _ _ h10 ⟨(inRd (x := 0) (by decide)), (inRd (x := 0) (by decide))⟩ ?_
  refine fun h14 => ?_
  refine z_iload_n dX1_most_62 rfl ?_
  obtain rfl := someE h
  exact z_iret dX1_most_63 hE h14 rfl
set_option maxHeartbeats 1000000 in
theorem s_V_canGive {l : Launch} {g : GX} {z : Nat} {G : Nat → Nat → Nat} {F : Nat} (hz : 295 ≤ z) (hG : lyX G) {x1 : Int} {x2 : Int} {I J : Nat → Nat → Int} (hx1 : inR x1) (hx2 : inR x2) {res : Int} (h : f_V_canGive F x1 x2 I = some res) : Spec l g 0 yX2_canGive cX2_canGive 4 (some .boolean) [vR g 255, vI x1, vI x2] (z, I, J, G) (some (vI res)) (res = 0 ∨ res = 1) (z, I, J, G) := by
  refine spec_of (μ := mu_V_canGive) (k := 1) (L0 := [some (vR g 255), some (vI x1), some (vI x2), none]) rfl mw_V_canGive rfl rfl (Nat.le_refl _) (fun φ hb hE => ?_)
  refine z_aload_n dX2_canGive_0 rfl ?_
  refine y_getR dX2_canGive_1 cl2 sh_255 (by decide) (Nat.le_trans (by decide) hz) 3 rfl rfl (fl_V_20) (ly_255_3 hG) (by decide) ?_
  refine z_iload_n dX2_canGive_4 rfl ?_
  obtain ⟨hg1, h⟩ := guardE h
  refine z_nm (fun hN2 => ?_)
  refine y_iald dX2_canGive_5 sh_266 (by decide) (Nat.le_trans (by decide) hz) hx1 hg1 ?_
  refine z_istore_n (L' := [some (vR g 255), some (vI x1), some (vI x2), some (vI (I 266 (x1).toNat))]) dX2_canGive_6 rfl rfl rfl ?_
  refine z_aload_n dX2_canGive_7 rfl ?_
  refine y_getR dX2_canGive_8 cl2 sh_255 (by decide) (Nat.le_trans (by decide) hz) 6 rfl rfl (fl_V_26) (ly_255_6 hG) (by decide) ?_
  refine z_iload_n dX2_canGive_11 rfl ?_
  obtain ⟨hg3, h⟩ := guardE h
  refine y_iald dX2_canGive_12 sh_268 (by decide) (Nat.le_trans (by decide) hz) hx2 hg3 ?_
  refine z_if_le (tgt := 38) dX2_canGive_13 (by decide) (hN2.1 268 (x2).toNat) (fun hc4 => ?_) (fun hc4 => ?_)
  · replace h := ifT hc4 h
    refine z_iconst dX2_canGive_38 ?_
    obtain rfl := someE h
    exact z_zret dX2_canGive_39 hE b01_0 b01_0 rfl
  replace h := ifF hc4 h
  refine z_iload_n dX2_canGive_16 rfl ?_
  refine z_bipush dX2_canGive_17 (by decide +kernel) ?_
  refine z_irem dX2_canGive_19 (inRd (x := 12) (by decide)) (by decide) ?_
  refine z_aload_n dX2_canGive_20 rfl ?_
  refine y_getR dX2_canGive_21 cl2 sh_255 (by decide) (Nat.le_trans (by decide) hz) 2 rfl rfl (fl_V_17) (ly_255_2 hG) (by decide) ?_
  refine z_iload_n dX2_canGive_24 rfl ?_
  refine y_aald2 dX2_canGive_25 sh_257 (by decide) (Nat.le_trans (by decide) hz) hx2 hg3 (ly_dr hG hg3) (dr_pos hg3) ?_
  refine z_iload_n dX2_canGive_26 rfl ?_
  refine z_bipush dX2_canGive_27 (by decide +kernel) ?_
  refine z_idiv dX2_canGive_29 (inRd (x := 12) (by decide)) (by decide) ?_
  obtain ⟨hg5, h⟩ := guardE h
  refine y_iald dX2_canGive_30 (dr_sh hg3) (dr_pos hg3) (Nat.le_trans (dr_le hg3) hz) inR_div hg5 ?_
  refine z_icmp_lt (tgt := 38) dX2_canGive_31 (by decide) inR_rem (hN2.1 (258 + (x2).toNat) ((div32 (I 266 (x1).toNat) 12)).toNat) (fun hc6 => ?_) (fun hc6 => ?_)
  · replace h := ifT hc6 h
    refine z_iconst dX2_canGive_38 ?_
    obtain rfl := someE h
    exact z_zret dX2_canGive_39 hE b01_0 b01_0 rfl
  replace h := ifF hc6 h
  refine z_iconst dX2_canGive_34 ?_
  refine z_goto (tgt := 39) dX2_canGive_35 (by decide) ?_
  obtain rfl := someE h
  exact z_zret dX2_canGive_39 hE b01_1 b01_1 rfl
set_option maxHeartbeats 1000000 in
theorem s_V_isFree {l : Launch} {g : GX} {z : Nat} {G : Nat → Nat → Nat} {F : Nat} (hz : 295 ≤ z) (hG : lyX G) {x1 : Int} {I J : Nat → Nat → Int} (hx1 : inR x1) {res : Int} (h : f_V_isFree F x1 I = some res) : Spec l g 0 yX2_isFree cX2_isFree 2 (some .boolean) [vR g 255, vI x1] (z, I, J, G) (some (vI res)) (res = 0 ∨ res = 1) (z, I, J, G) := by
  refine spec_of (μ := mu_V_isFree) (k := 0) (L0 := [some (vR g 255), some (vI x1)]) rfl mw_V_isFree rfl rfl (Nat.le_refl _) (fun φ hb hE => ?_)
  refine z_aload_n dX2_isFree_0 rfl ?_
  refine y_getR dX2_isFree_1 cl2 sh_255 (by decide) (Nat.le_trans (by decide) hz) 8 rfl rfl (fl_V_32) (ly_255_8 hG) (by decide) ?_
  refine z_iload_n dX2_isFree_4 rfl ?_
  obtain ⟨hg1, h⟩ := guardE h
  refine z_nm (fun hN2 => ?_)
  refine y_iald dX2_isFree_5 sh_270 (by decide) (Nat.le_trans (by decide) hz) hx1 hg1 ?_
  refine z_bipush dX2_isFree_6 (by decide +kernel) ?_
  refine z_icmp_eq (tgt := 30) dX2_isFree_8 (by decide) (hN2.1 270 (x1).toNat) (inRd (x := (-3)) (by decide)) (fun hc3 => ?_) (fun hc3 => ?_)
  · replace h := ifT hc3 h
    refine z_iconst dX2_isFree_30 ?_
    obtain rfl := someE h
    exact z_zret dX2_isFree_31 hE b01_0 b01_0 rfl
  replace h := ifF hc3 h
  refine z_aload_n dX2_isFree_11 rfl ?_
  refine y_getR dX2_isFree_12 cl2 sh_255 (by decide) (Nat.le_trans (by decide) hz) 7 rfl rfl (fl_V_29) (ly_255_7 hG) (by decide) ?_
  refine z_iload_n dX2_isFree_15 rfl ?_
  refine y_iald dX2_isFree_16 sh_269 (by decide) (Nat.le_trans (by decide) hz) hx1 hg1 ?_
  refine z_aload_n dX2_isFree_17 rfl ?_
  refine y_getR dX2_isFree_18 cl2 sh_255 (by decide) (Nat.le_trans (by decide) hz) 6 rfl rfl (fl_V_26) (ly_255_6 hG) (by decide) ?_
  refine z_iload_n dX2_isFree_21 rfl ?_
  refine y_iald dX2_isFree_22 sh_268 (by decide) (Nat.le_trans (by decide) hz) hx1 hg1 ?_
  refine z_icmp_ge (tgt := 30) dX2_isFree_23 (by decide) (hN2.1 269 (x1).toNat) (hN2.1 268 (x1).toNat) (fun hc4 => ?_) (fun hc4 => ?_)
  · replace h := ifT hc4 h
    refine z_iconst dX2_isFree_30 ?_
    obtain rfl := someE h
    exact z_zret dX2_isFree_31 hE b01_0 b01_0 rfl
  replace h := ifF hc4 h
  refine z_iconst dX2_isFree_26 ?_
  refine z_goto (tgt := 31) dX2_isFree_27 (by decide) ?_
  obtain rfl := someE h
  exact z_zret dX2_isFree_31 hE b01_1 b01_1 rfl
set_option maxHeartbeats 1000000 in
theorem t_V_leastFree_L4 {l : Launch} {g : GX} {φ : CX} {z : Nat} {G : Nat → Nat → Nat} {F : Nat} (hb : cb φ = z) (hz : 295 ≤ z) (hG : lyX G) {x1 : Int} {x2 : Int} {I J : Nat → Nat → Int} (hx1 : inR x1) (hx2 : inR x2) {res : (Int) ⊕ (Int × Int)} (h : f_V_leastFree_L4 F x1 x2 I = some res) (kE : ∀ e : Int, res = .inl e → ((inR e) → Zt l g φ mu_V_leastFree 51 [none, some (vI e), none] [] (z, I, J, G))) (kS : ∀ s : Int × Int, res = .inr s → (inR s.1 ∧ inR s.2) → Zt l g φ mu_V_leastFree 4 [some (vR g 255), some (vI s.1), some (vI s.2)] [] (z, I, J, G)) : Zt l g φ mu_V_leastFree 4 [some (vR g 255), some (vI x1), some (vI x2)] [] (z, I, J, G) := by
  refine z_iload_n dX2_leastFree_4 rfl ?_
  refine z_aload_n dX2_leastFree_5 rfl ?_
  refine z_nm (fun hN1 => ?_)
  refine y_getI dX2_leastFree_6 cl2 sh_255 (by decide) (Nat.le_trans (by decide) hz) 0 rfl rfl (fl_V_59) ?_
  refine z_icmp_ge (tgt := 51) dX2_leastFree_9 (by decide) hx2 (hN1.1 255 0) (fun hc2 => ?_) (fun hc2 => ?_)
  · replace h := ifT hc2 h
    refine z_weak (L' := [none, some (vI x1), none]) (lsN (lsS (lsN ls0))) ?_
    exact kE _ (someE h).symm hx1
  replace h := ifF hc2 h
  refine z_aload_n dX2_leastFree_12 rfl ?_
  refine z_iload_n dX2_leastFree_13 rfl ?_
  obtain ⟨q3, hq4, h⟩ := bindE h
  refine z_callV (As := [vI x2]) (rest := []) (s_V_isFree hz hG hx2 hq4) dX2_leastFree_14 mw_V_isFree cl2 sh_255 (by decide) (Nat.le_trans (by decide) hz) ml_V_119 im_V_isFree se_V_isFree rfl rfl rfl rfl (Nat.le_refl _) (Nat.le_of_eq hb.symm) (fun hp5 => ?_)
  show Zt _ _ _ _ 17 _ [vI q3] (z, I, J, G)
  refine z_if_ne (tgt := 23) dX2_leastFree_17 (by decide) (inR_bool hp5) (fun hc6 => ?_) (fun hc6 => ?_)
  · replace h := ifT hc6 h
    refine z_iload_n dX2_leastFree_23 rfl ?_
    refine z_iconst dX2_leastFree_24 ?_
    refine z_icmp_eq (tgt := 43) dX2_leastFree_25 (by decide) hx1 (inRd (x := (-1)) (by decide)) (fun hc7 => ?_) (fun hc7 => ?_)
    · replace h := ifT hc7 h
      refine z_iload_n dX2_leastFree_43 rfl ?_
      refine z_istore_n (L' := [some (vR g 255), some (vI x2), some (vI x2)]) dX2_leastFree_44 rfl rfl rfl ?_
      refine z_iinc (L' := [some (vR g 255), some (vI x2), some (vI (w32 (x2 + 1)))]) dX2_leastFree_45 rfl rfl rfl rfl ?_
      refine z_goto (tgt := 4) dX2_leastFree_48 (by decide) ?_
      exact kS _ (someE h).symm ⟨hx2, (inR_w32 _)⟩
    replace h := ifF hc7 h
    refine z_aload_n dX2_leastFree_28 rfl ?_
    refine y_getR dX2_leastFree_29 cl2 sh_255 (by decide) (Nat.le_trans (by decide) hz) 1 rfl rfl (fl_V_9) (ly_255_1 hG) (by decide) ?_
    refine z_iload_n dX2_leastFree_32 rfl ?_
    obtain ⟨hg8, h⟩ := guardE h
    refine y_iald dX2_leastFree_33 sh_256 (by decide) (Nat.le_trans (by decide) hz) hx2 hg8 ?_
    refine z_aload_n dX2_leastFree_34 rfl ?_
    refine y_getR dX2_leastFree_35 cl2 sh_255 (by decide) (Nat.le_trans (by decide) hz) 1 rfl rfl (fl_V_9) (ly_255_1 hG) (by decide) ?_
    refine z_iload_n dX2_leastFree_38 rfl ?_
    obtain ⟨hg9, h⟩ := guardE h
    refine y_iald dX2_leastFree_39 sh_256 (by decide) (Nat.le_trans (by decide) hz) hx1 hg9 ?_
    refine z_icmp_ge (tgt := 45) dX2_leastFree_40 (by decide) (hN1.1 256 (x2).toNat) (hN1.1 256 (x1).toNat) (fun hc10 => ?_) (fun hc10 => ?_)
    · replace h := ifT hc10 h
      refine z_iinc (L' := [some (vR g 255), some (vI x1), some (vI (w32 (x2 + 1)))]) dX2_leastFree_45 rfl rfl rfl rfl ?_
      refine z_goto (tgt := 4) dX2_leastFree_48 (by decide) ?_
      exact kS _ (someE h).symm ⟨hx1, (inR_w32 _)⟩
    replace h := ifF hc10 h
    refine z_iload_n dX2_leastFree_43 rfl ?_
    refine z_istore_n (L' := [some (vR g 255), some (vI x2), some (vI x2)]) dX2_leastFree_44 rfl rfl rfl ?_
    refine z_iinc (L' := [some (vR g 255), some (vI x2), some (vI (w32 (x2 + 1)))]) dX2_leastFree_45 rfl rfl rfl rfl ?_
    refine z_goto (tgt := 4) dX2_leastFree_48 (by decide) ?_
    exact kS _ (someE h).symm ⟨hx2, (inR_w32 _)⟩
  replace h := ifF (fun q => q hc6) h
  refine z_goto (tgt := 45) dX2_leastFree_20 (by decide) ?_
  refine z_iinc (L' := [some (vR g 255), some (vI x1), some (vI (w32 (x2 + 1)))]) dX2_leastFree_45 rfl rfl rfl rfl ?_
  refine z_goto (tgt := 4) dX2_leastFree_48 (by decide) ?_
  exact kS _ (someE h).symm ⟨hx1, (inR_w32 _)⟩
theorem l_V_leastFree_L4 {l : Launch} {g : GX} {φ : CX} {z : Nat} {G : Nat → Nat → Nat} {F : Nat} (hb : cb φ = z) (hz : 295 ≤ z) (hG : lyX G) {I : Nat → Nat → Int} {J : Nat → Nat → Int} (n : Nat) (s : Int × Int) (e : Int) (h : iter (fun s : Int × Int => f_V_leastFree_L4 F s.1 s.2 I) n s = some e) (hs : inR s.1 ∧ inR s.2) (k : ((inR e) → Zt l g φ mu_V_leastFree 51 [none, some (vI e), none] [] (z, I, J, G))) : Zt l g φ mu_V_leastFree 4 [some (vR g 255), some (vI s.1), some (vI s.2)] [] (z, I, J, G) := by
  refine iter_ind (Z := fun s : Int × Int => Zt l g φ mu_V_leastFree 4 [some (vR g 255), some (vI s.1), some (vI s.2)] [] (z, I, J, G)) (ZE := fun e : Int => ((inR e) → Zt l g φ mu_V_leastFree 51 [none, some (vI e), none] [] (z, I, J, G))) (Rg := fun s : Int × Int => inR s.1 ∧ inR s.2) ?_ n s e h hs k
  intro s r hr hst kE kS
  exact t_V_leastFree_L4 hb hz hG hr.1 hr.2 hst kE kS
set_option maxHeartbeats 1000000 in
theorem s_V_leastFree {l : Launch} {g : GX} {z : Nat} {G : Nat → Nat → Nat} {F : Nat} (hz : 295 ≤ z) (hG : lyX G) {I J : Nat → Nat → Int} {res : Int} (h : f_V_leastFree F I = some res) : Spec l g 1 yX2_leastFree cX2_leastFree 3 (some .int) [vR g 255] (z, I, J, G) (some (vI res)) (inR res) (z, I, J, G) := by
  refine spec_of (μ := mu_V_leastFree) (k := 2) (L0 := [some (vR g 255), none, none]) rfl mw_V_leastFree rfl rfl (Nat.le_refl _) (fun φ hb hE => ?_)
  refine z_iconst dX2_leastFree_0 ?_
  refine z_istore_n (L' := [some (vR g 255), some (vI (-1)), none]) dX2_leastFree_1 rfl rfl rfl ?_
  refine z_iconst dX2_leastFree_2 ?_
  refine z_istore_n (L' := [some (vR g 255), some (vI (-1)), some (vI 0)]) dX2_leastFree_3 rfl rfl rfl ?_
  obtain ⟨e11, h12, h⟩ := bindE h
  refine l_V_leastFree_L4 hb hz hG  _ _ _ h12 ⟨(inRd (x := (-1)) (by decide)), (inRd (x := 0) (by decide))⟩ ?_
  refine fun h13 => ?_
  refine z_iload_n dX2_leastFree_51 rfl ?_
  obtain rfl := someE h
  exact z_iret dX2_leastFree_52 hE h13 rfl
set_option maxHeartbeats 1000000 in
theorem t_V_passOn_L4 {l : Launch} {g : GX} {φ : CX} {z : Nat} {G : Nat → Nat → Nat} {F : Nat} (hb : cb φ = z) (hz : 295 ≤ z) (hG : lyX G) {x2 : Int} {x3 : Int} {I J : Nat → Nat → Int} (hx2 : inR x2) (hx3 : inR x3) {res : (Int × MI) ⊕ (Int × Int × MI)} (h : f_V_passOn_L4 F x2 x3 I = some res) (kE : ∀ e : Int × MI, res = .inl e → ((inR e.1) → Zt l g φ mu_V_passOn 44 [none, none, some (vI e.1), none] [] (z, e.2, J, G))) (kS : ∀ s : Int × Int × MI, res = .inr s → (inR s.1 ∧ inR s.2.1) → Zt l g φ mu_V_passOn 4 [some (vR g 255), none, some (vI s.1), some (vI s.2.1)] [] (z, s.2.2, J, G)) : Zt l g φ mu_V_passOn 4 [some (vR g 255), none, some (vI x2), some (vI x3)] [] (z, I, J, G) := by
  refine z_iload_n dX2_passOn_4 rfl ?_
  refine z_bipush dX2_passOn_5 (by decide +kernel) ?_
  refine z_icmp_ge (tgt := 44) dX2_passOn_7 (by decide) hx3 (inRd (x := 8) (by decide)) (fun hc1 => ?_) (fun hc1 => ?_)
  · replace h := ifT hc1 h
    refine z_weak (L' := [none, none, some (vI x2), none]) (lsN (lsN (lsS (lsN ls0)))) ?_
    exact kE _ (someE h).symm hx2
  replace h := ifF hc1 h
  refine z_aload_n dX2_passOn_10 rfl ?_
  refine y_getR dX2_passOn_11 cl2 sh_255 (by decide) (Nat.le_trans (by decide) hz) 8 rfl rfl (fl_V_32) (ly_255_8 hG) (by decide) ?_
  refine z_iload_n dX2_passOn_14 rfl ?_
  obtain ⟨hg2, h⟩ := guardE h
  refine z_nm (fun hN3 => ?_)
  refine y_iald dX2_passOn_15 sh_270 (by decide) (Nat.le_trans (by decide) hz) hx2 hg2 ?_
  refine z_if_lt (tgt := 44) dX2_passOn_16 (by decide) (hN3.1 270 (x2).toNat) (fun hc4 => ?_) (fun hc4 => ?_)
  · replace h := ifT hc4 h
    refine z_weak (L' := [none, none, some (vI x2), none]) (lsN (lsN (lsS (lsN ls0)))) ?_
    exact kE _ (someE h).symm hx2
  replace h := ifF hc4 h
  refine z_aload_n dX2_passOn_19 rfl ?_
  refine y_getR dX2_passOn_20 cl2 sh_255 (by decide) (Nat.le_trans (by decide) hz) 4 rfl rfl (fl_V_23) (ly_255_4 hG) (by decide) ?_
  refine z_aload_n dX2_passOn_23 rfl ?_
  refine y_getR dX2_passOn_24 cl2 sh_255 (by decide) (Nat.le_trans (by decide) hz) 9 rfl rfl (fl_V_35) (ly_255_9 hG) (by decide) ?_
  refine z_iload_n dX2_passOn_27 rfl ?_
  refine y_iald dX2_passOn_28 sh_271 (by decide) (Nat.le_trans (by decide) hz) hx2 hg2 ?_
  refine z_iload_n dX2_passOn_29 rfl ?_
  obtain ⟨hg5, h⟩ := guardE h
  refine y_iast dX2_passOn_30 sh_267 (by decide) (Nat.le_trans (by decide) hz) (hN3.1 271 (x2).toNat) hg5 hx2 ?_
  refine z_aload_n dX2_passOn_31 rfl ?_
  refine y_getR dX2_passOn_32 cl2 sh_255 (by decide) (Nat.le_trans (by decide) hz) 8 rfl rfl (fl_V_32) (ly_255_8 hG) (by decide) ?_
  refine z_iload_n dX2_passOn_35 rfl ?_
  refine z_nm (fun hN6 => ?_)
  refine y_iald dX2_passOn_36 sh_270 (by decide) (Nat.le_trans (by decide) hz) hx2 hg2 ?_
  refine z_istore_n (L' := [some (vR g 255), none, some (vI ((up2 I 267 ((I 271 (x2).toNat)).toNat x2) 270 (x2).toNat)), some (vI x3)]) dX2_passOn_37 rfl rfl rfl ?_
  refine z_iinc (L' := [some (vR g 255), none, some (vI ((up2 I 267 ((I 271 (x2).toNat)).toNat x2) 270 (x2).toNat)), some (vI (w32 (x3 + 1)))]) dX2_passOn_38 rfl rfl rfl rfl ?_
  refine z_goto (tgt := 4) dX2_passOn_41 (by decide) ?_
  exact kS _ (someE h).symm ⟨(hN6.1 270 (x2).toNat), (inR_w32 _)⟩
theorem l_V_passOn_L4 {l : Launch} {g : GX} {φ : CX} {z : Nat} {G : Nat → Nat → Nat} {F : Nat} (hb : cb φ = z) (hz : 295 ≤ z) (hG : lyX G) {J : Nat → Nat → Int} (n : Nat) (s : Int × Int × MI) (e : Int × MI) (h : iter (fun s : Int × Int × MI => f_V_passOn_L4 F s.1 s.2.1 s.2.2) n s = some e) (hs : inR s.1 ∧ inR s.2.1) (k : ((inR e.1) → Zt l g φ mu_V_passOn 44 [none, none, some (vI e.1), none] [] (z, e.2, J, G))) : Zt l g φ mu_V_passOn 4 [some (vR g 255), none, some (vI s.1), some (vI s.2.1)] [] (z, s.2.2, J, G) := by
  refine iter_ind (Z := fun s : Int × Int × MI => Zt l g φ mu_V_passOn 4 [some (vR g 255), none, some (vI s.1), some (vI s.2.1)] [] (z, s.2.2, J, G)) (ZE := fun e : Int × MI => ((inR e.1) → Zt l g φ mu_V_passOn 44 [none, none, some (vI e.1), none] [] (z, e.2, J, G))) (Rg := fun s : Int × Int × MI => inR s.1 ∧ inR s.2.1) ?_ n s e h hs k
  intro s r hr hst kE kS
  exact t_V_passOn_L4 hb hz hG hr.1 hr.2 hst kE kS
set_option maxHeartbeats 1000000 in
theorem s_V_passOn {l : Launch} {g : GX} {z : Nat} {G : Nat → Nat → Nat} {F : Nat} (hz : 295 ≤ z) (hG : lyX G) {x1 : Int} {I J : Nat → Nat → Int} (hx1 : inR x1) {res : Int × MI} (h : f_V_passOn F x1 I = some res) : Spec l g 0 yX2_passOn cX2_passOn 4 (some .int) [vR g 255, vI x1] (z, I, J, G) (some (vI res.1)) (inR res.1) (z, res.2, J, G) := by
  refine spec_of (μ := mu_V_passOn) (k := 2) (L0 := [some (vR g 255), some (vI x1), none, none]) rfl mw_V_passOn rfl rfl (Nat.le_refl _) (fun φ hb hE => ?_)
  refine z_iload_n dX2_passOn_0 rfl ?_
  refine z_istore_n (L' := [some (vR g 255), some (vI x1), some (vI x1), none]) dX2_passOn_1 rfl rfl rfl ?_
  refine z_iconst dX2_passOn_2 ?_
  refine z_istore_n (L' := [some (vR g 255), some (vI x1), some (vI x1), some (vI 0)]) dX2_passOn_3 rfl rfl rfl ?_
  refine z_weak (L' := [some (vR g 255), none, some (vI x1), some (vI 0)]) (lsS (lsN (lsS (lsS ls0)))) ?_
  obtain ⟨e7, h8, h⟩ := bindE h
  refine l_V_passOn_L4 hb hz hG  _ _ _ h8 ⟨hx1, (inRd (x := 0) (by decide))⟩ ?_
  refine fun h9 => ?_
  refine z_iload_n dX2_passOn_44 rfl ?_
  obtain rfl := someE h
  exact z_iret dX2_passOn_45 hE h9 rfl
set_option maxHeartbeats 1000000 in
theorem t_V_spread_L52 {l : Launch} {g : GX} {φ : CX} {z : Nat} {G : Nat → Nat → Nat} {F : Nat} (hb : cb φ = z) (hz : 295 ≤ z) (hG : lyX G) {x2 : Int} {x3 : Int} {x4 : Int} {x5 : Int} {x6 : Int} {x7 : Int} {I J : Nat → Nat → Int} (hx2 : inR x2) (hx3 : inR x3) (hx4 : inR x4) (hx5 : inR x5) (hx6 : inR x6) (hx7 : inR x7) {res : (Int × MI) ⊕ (Int × Int × MI)} (h : f_V_spread_L52 F x2 x3 x4 x5 x6 x7 I = some res) (kE : ∀ e : Int × MI, res = .inl e → ((inR e.1) → Zt l g φ mu_V_spread 128 [some (vR g 255), none, some (vI x2), some (vI x3), some (vI e.1), some (vI x5), some (vI x6), none] [] (z, e.2, J, G))) (kS : ∀ s : Int × Int × MI, res = .inr s → (inR s.1 ∧ inR s.2.1) → Zt l g φ mu_V_spread 52 [some (vR g 255), none, some (vI x2), some (vI x3), some (vI s.1), some (vI x5), some (vI x6), some (vI s.2.1)] [] (z, s.2.2, J, G)) : Zt l g φ mu_V_spread 52 [some (vR g 255), none, some (vI x2), some (vI x3), some (vI x4), some (vI x5), some (vI x6), some (vI x7)] [] (z, I, J, G) := by
  refine z_iload dX2_spread_52 rfl ?_
  refine z_aload_n dX2_spread_54 rfl ?_
  refine z_nm (fun hN8 => ?_)
  refine y_getI dX2_spread_55 cl2 sh_255 (by decide) (Nat.le_trans (by decide) hz) 0 rfl rfl (fl_V_59) ?_
  refine z_icmp_ge (tgt := 128) dX2_spread_58 (by decide) hx7 (hN8.1 255 0) (fun hc9 => ?_) (fun hc9 => ?_)
  · replace h := ifT hc9 h
    refine z_weak (L' := [some (vR g 255), none, some (vI x2), some (vI x3), some (vI x4), some (vI x5), some (vI x6), none]) (lsS (lsN (lsS (lsS (lsS (lsS (lsS (lsN ls0)))))))) ?_
    exact kE _ (someE h).symm hx4
  replace h := ifF hc9 h
  refine z_aload_n dX2_spread_61 rfl ?_
  refine y_getR dX2_spread_62 cl2 sh_255 (by decide) (Nat.le_trans (by decide) hz) 8 rfl rfl (fl_V_32) (ly_255_8 hG) (by decide) ?_
  refine z_iload dX2_spread_65 rfl ?_
  obtain ⟨hg10, h⟩ := guardE h
  refine y_iald dX2_spread_67 sh_270 (by decide) (Nat.le_trans (by decide) hz) hx7 hg10 ?_
  refine z_bipush dX2_spread_68 (by decide +kernel) ?_
  refine z_icmp_ne (tgt := 122) dX2_spread_70 (by decide) (hN8.1 270 (x7).toNat) (inRd (x := (-3)) (by decide)) (fun hc11 => ?_) (fun hc11 => ?_)
  · replace h := ifT hc11 h
    refine z_iinc (L' := [some (vR g 255), none, some (vI x2), some (vI x3), some (vI x4), some (vI x5), some (vI x6), some (vI (w32 (x7 + 1)))]) dX2_spread_122 rfl rfl rfl rfl ?_
    refine z_goto (tgt := 52) dX2_spread_125 (by decide) ?_
    exact kS _ (someE h).symm ⟨hx4, (inR_w32 _)⟩
  replace h := ifF (fun q => q hc11) h
  refine z_aload_n dX2_spread_73 rfl ?_
  refine z_iload dX2_spread_74 rfl ?_
  refine z_iload dX2_spread_76 rfl ?_
  obtain ⟨q12, hq13, h⟩ := bindE h
  refine z_callV (As := [vI x6, vI x7]) (rest := []) (s_V_canGive hz hG hx6 hx7 hq13) dX2_spread_78 mw_V_canGive cl2 sh_255 (by decide) (Nat.le_trans (by decide) hz) ml_V_104 im_V_canGive se_V_canGive rfl rfl rfl rfl (Nat.le_refl _) (Nat.le_of_eq hb.symm) (fun hp14 => ?_)
  show Zt _ _ _ _ 81 _ [vI q12] (z, I, J, G)
  refine z_if_ne (tgt := 87) dX2_spread_81 (by decide) (inR_bool hp14) (fun hc15 => ?_) (fun hc15 => ?_)
  · replace h := ifT hc15 h
    refine z_aload_n dX2_spread_87 rfl ?_
    refine y_getR dX2_spread_88 cl2 sh_255 (by decide) (Nat.le_trans (by decide) hz) 8 rfl rfl (fl_V_32) (ly_255_8 hG) (by decide) ?_
    refine z_iload dX2_spread_91 rfl ?_
    refine z_aload_n dX2_spread_93 rfl ?_
    refine y_getR dX2_spread_94 cl2 sh_255 (by decide) (Nat.le_trans (by decide) hz) 12 rfl rfl (fl_V_44) (ly_255_12 hG) (by decide) ?_
    refine z_iload dX2_spread_97 rfl ?_
    obtain ⟨hg16, h⟩ := guardE h
    refine y_iald dX2_spread_99 sh_274 (by decide) (Nat.le_trans (by decide) hz) hx5 hg16 ?_
    refine y_iast dX2_spread_100 sh_270 (by decide) (Nat.le_trans (by decide) hz) hx7 hg10 (hN8.1 274 (x5).toNat) ?_
    refine z_aload_n dX2_spread_101 rfl ?_
    refine y_getR dX2_spread_102 cl2 sh_255 (by decide) (Nat.le_trans (by decide) hz) 9 rfl rfl (fl_V_35) (ly_255_9 hG) (by decide) ?_
    refine z_iload dX2_spread_105 rfl ?_
    refine z_iload dX2_spread_107 rfl ?_
    refine y_iast dX2_spread_109 sh_271 (by decide) (Nat.le_trans (by decide) hz) hx7 hg10 hx6 ?_
    refine z_aload_n dX2_spread_110 rfl ?_
    refine y_getR dX2_spread_111 cl2 sh_255 (by decide) (Nat.le_trans (by decide) hz) 12 rfl rfl (fl_V_44) (ly_255_12 hG) (by decide) ?_
    refine z_iload dX2_spread_114 rfl ?_
    refine z_iload dX2_spread_116 rfl ?_
    obtain ⟨hg17, h⟩ := guardE h
    refine y_iast dX2_spread_118 sh_274 (by decide) (Nat.le_trans (by decide) hz) hx4 hg17 hx7 ?_
    refine z_iinc (L' := [some (vR g 255), none, some (vI x2), some (vI x3), some (vI (w32 (x4 + 1))), some (vI x5), some (vI x6), some (vI x7)]) dX2_spread_119 rfl rfl rfl rfl ?_
    refine z_iinc (L' := [some (vR g 255), none, some (vI x2), some (vI x3), some (vI (w32 (x4 + 1))), some (vI x5), some (vI x6), some (vI (w32 (x7 + 1)))]) dX2_spread_122 rfl rfl rfl rfl ?_
    refine z_goto (tgt := 52) dX2_spread_125 (by decide) ?_
    exact kS _ (someE h).symm ⟨(inR_w32 _), (inR_w32 _)⟩
  replace h := ifF (fun q => q hc15) h
  refine z_goto (tgt := 122) dX2_spread_84 (by decide) ?_
  refine z_iinc (L' := [some (vR g 255), none, some (vI x2), some (vI x3), some (vI x4), some (vI x5), some (vI x6), some (vI (w32 (x7 + 1)))]) dX2_spread_122 rfl rfl rfl rfl ?_
  refine z_goto (tgt := 52) dX2_spread_125 (by decide) ?_
  exact kS _ (someE h).symm ⟨hx4, (inR_w32 _)⟩
theorem l_V_spread_L52 {l : Launch} {g : GX} {φ : CX} {z : Nat} {G : Nat → Nat → Nat} {F : Nat} (hb : cb φ = z) (hz : 295 ≤ z) (hG : lyX G) {x2 : Int} {x3 : Int} {x5 : Int} {x6 : Int} {J : Nat → Nat → Int} (hx2 : inR x2) (hx3 : inR x3) (hx5 : inR x5) (hx6 : inR x6) (n : Nat) (s : Int × Int × MI) (e : Int × MI) (h : iter (fun s : Int × Int × MI => f_V_spread_L52 F x2 x3 s.1 x5 x6 s.2.1 s.2.2) n s = some e) (hs : inR s.1 ∧ inR s.2.1) (k : ((inR e.1) → Zt l g φ mu_V_spread 128 [some (vR g 255), none, some (vI x2), some (vI x3), some (vI e.1), some (vI x5), some (vI x6), none] [] (z, e.2, J, G))) : Zt l g φ mu_V_spread 52 [some (vR g 255), none, some (vI x2), some (vI x3), some (vI s.1), some (vI x5), some (vI x6), some (vI s.2.1)] [] (z, s.2.2, J, G) := by
  refine iter_ind (Z := fun s : Int × Int × MI => Zt l g φ mu_V_spread 52 [some (vR g 255), none, some (vI x2), some (vI x3), some (vI s.1), some (vI x5), some (vI x6), some (vI s.2.1)] [] (z, s.2.2, J, G)) (ZE := fun e : Int × MI => ((inR e.1) → Zt l g φ mu_V_spread 128 [some (vR g 255), none, some (vI x2), some (vI x3), some (vI e.1), some (vI x5), some (vI x6), none] [] (z, e.2, J, G))) (Rg := fun s : Int × Int × MI => inR s.1 ∧ inR s.2.1) ?_ n s e h hs k
  intro s r hr hst kE kS
  exact t_V_spread_L52 hb hz hG hx2 hx3 hr.1 hx5 hx6 hr.2 hst kE kS
set_option maxHeartbeats 1000000 in
theorem t_V_spread_L23 {l : Launch} {g : GX} {φ : CX} {z : Nat} {G : Nat → Nat → Nat} {F : Nat} (hb : cb φ = z) (hz : 295 ≤ z) (hG : lyX G) {x2 : Int} {x3 : Int} {x4 : Int} {x5 : Int} {x6 : Int} {I J : Nat → Nat → Int} (hx2 : inR x2) (hx3 : inR x3) (hx4 : inR x4) (hx5 : inR x5) (hx6 : inR x6) {res : (Int × MI) ⊕ (Int × Int × MI)} (h : f_V_spread_L23 F x2 x3 x4 x5 x6 I = some res) (kE : ∀ e : Int × MI, res = .inl e → ((inR e.1) → Zt l g φ mu_V_spread 134 [some (vR g 255), none, some (vI x2), some (vI x3), some (vI e.1), some (vI x5), none, none] [] (z, e.2, J, G))) (kS : ∀ s : Int × Int × MI, res = .inr s → (inR s.1 ∧ inR s.2.1) → Zt l g φ mu_V_spread 23 [some (vR g 255), none, some (vI x2), some (vI x3), some (vI s.1), some (vI x5), some (vI s.2.1), none] [] (z, s.2.2, J, G)) : Zt l g φ mu_V_spread 23 [some (vR g 255), none, some (vI x2), some (vI x3), some (vI x4), some (vI x5), some (vI x6), none] [] (z, I, J, G) := by
  refine z_iload dX2_spread_23 rfl ?_
  refine z_iload_n dX2_spread_25 rfl ?_
  refine z_icmp_ge (tgt := 134) dX2_spread_26 (by decide) hx6 hx3 (fun hc3 => ?_) (fun hc3 => ?_)
  · replace h := ifT hc3 h
    refine z_weak (L' := [some (vR g 255), none, some (vI x2), some (vI x3), some (vI x4), some (vI x5), none, none]) (lsS (lsN (lsS (lsS (lsS (lsS (lsN (lsN ls0)))))))) ?_
    exact kE _ (someE h).symm hx4
  replace h := ifF hc3 h
  refine z_aload_n dX2_spread_29 rfl ?_
  refine y_getR dX2_spread_30 cl2 sh_255 (by decide) (Nat.le_trans (by decide) hz) 4 rfl rfl (fl_V_23) (ly_255_4 hG) (by decide) ?_
  refine z_iload dX2_spread_33 rfl ?_
  obtain ⟨hg4, h⟩ := guardE h
  refine z_nm (fun hN5 => ?_)
  refine y_iald dX2_spread_35 sh_267 (by decide) (Nat.le_trans (by decide) hz) hx6 hg4 ?_
  refine z_aload_n dX2_spread_36 rfl ?_
  refine y_getR dX2_spread_37 cl2 sh_255 (by decide) (Nat.le_trans (by decide) hz) 12 rfl rfl (fl_V_44) (ly_255_12 hG) (by decide) ?_
  refine z_iload dX2_spread_40 rfl ?_
  obtain ⟨hg6, h⟩ := guardE h
  refine y_iald dX2_spread_42 sh_274 (by decide) (Nat.le_trans (by decide) hz) hx5 hg6 ?_
  refine z_icmp_eq (tgt := 49) dX2_spread_43 (by decide) (hN5.1 267 (x6).toNat) (hN5.1 274 (x5).toNat) (fun hc7 => ?_) (fun hc7 => ?_)
  · replace h := ifT hc7 h
    refine z_iconst dX2_spread_49 ?_
    refine z_istore (L' := [some (vR g 255), none, some (vI x2), some (vI x3), some (vI x4), some (vI x5), some (vI x6), some (vI 0)]) dX2_spread_50 rfl rfl rfl ?_
    obtain ⟨e18, h19, h⟩ := bindE h
    refine l_V_spread_L52 hb hz hG hx2 hx3 hx5 hx6 _ _ _ h19 ⟨hx4, (inRd (x := 0) (by decide))⟩ ?_
    refine fun h20 => ?_
    refine z_iinc (L' := [some (vR g 255), none, some (vI x2), some (vI x3), some (vI e18.1), some (vI x5), some (vI (w32 (x6 + 1))), none]) dX2_spread_128 rfl rfl rfl rfl ?_
    refine z_goto (tgt := 23) dX2_spread_131 (by decide) ?_
    exact kS _ (someE h).symm ⟨h20, (inR_w32 _)⟩
  replace h := ifF hc7 h
  refine z_goto (tgt := 128) dX2_spread_46 (by decide) ?_
  refine z_iinc (L' := [some (vR g 255), none, some (vI x2), some (vI x3), some (vI x4), some (vI x5), some (vI (w32 (x6 + 1))), none]) dX2_spread_128 rfl rfl rfl rfl ?_
  refine z_goto (tgt := 23) dX2_spread_131 (by decide) ?_
  exact kS _ (someE h).symm ⟨hx4, (inR_w32 _)⟩
theorem l_V_spread_L23 {l : Launch} {g : GX} {φ : CX} {z : Nat} {G : Nat → Nat → Nat} {F : Nat} (hb : cb φ = z) (hz : 295 ≤ z) (hG : lyX G) {x2 : Int} {x3 : Int} {x5 : Int} {J : Nat → Nat → Int} (hx2 : inR x2) (hx3 : inR x3) (hx5 : inR x5) (n : Nat) (s : Int × Int × MI) (e : Int × MI) (h : iter (fun s : Int × Int × MI => f_V_spread_L23 F x2 x3 s.1 x5 s.2.1 s.2.2) n s = some e) (hs : inR s.1 ∧ inR s.2.1) (k : ((inR e.1) → Zt l g φ mu_V_spread 134 [some (vR g 255), none, some (vI x2), some (vI x3), some (vI e.1), some (vI x5), none, none] [] (z, e.2, J, G))) : Zt l g φ mu_V_spread 23 [some (vR g 255), none, some (vI x2), some (vI x3), some (vI s.1), some (vI x5), some (vI s.2.1), none] [] (z, s.2.2, J, G) := by
  refine iter_ind (Z := fun s : Int × Int × MI => Zt l g φ mu_V_spread 23 [some (vR g 255), none, some (vI x2), some (vI x3), some (vI s.1), some (vI x5), some (vI s.2.1), none] [] (z, s.2.2, J, G)) (ZE := fun e : Int × MI => ((inR e.1) → Zt l g φ mu_V_spread 134 [some (vR g 255), none, some (vI x2), some (vI x3), some (vI e.1), some (vI x5), none, none] [] (z, e.2, J, G))) (Rg := fun s : Int × Int × MI => inR s.1 ∧ inR s.2.1) ?_ n s e h hs k
  intro s r hr hst kE kS
  exact t_V_spread_L23 hb hz hG hx2 hx3 hr.1 hx5 hr.2 hst kE kS
set_option maxHeartbeats 1000000 in
theorem t_V_spread_L6 {l : Launch} {g : GX} {φ : CX} {z : Nat} {G : Nat → Nat → Nat} {F : Nat} (hb : cb φ = z) (hz : 295 ≤ z) (hG : lyX G) {x2 : Int} {x3 : Int} {x4 : Int} {x5 : Int} {I J : Nat → Nat → Int} (hx2 : inR x2) (hx3 : inR x3) (hx4 : inR x4) (hx5 : inR x5) {res : (MI) ⊕ (Int × Int × MI)} (h : f_V_spread_L6 F x2 x3 x4 x5 I = some res) (kE : ∀ e : MI, res = .inl e → ((True) → Zt l g φ mu_V_spread 140 [none, none, none, none, none, none, none, none] [] (z, e, J, G))) (kS : ∀ s : Int × Int × MI, res = .inr s → (inR s.1 ∧ inR s.2.1) → Zt l g φ mu_V_spread 6 [some (vR g 255), none, some (vI x2), some (vI x3), some (vI s.1), some (vI s.2.1), none, none] [] (z, s.2.2, J, G)) : Zt l g φ mu_V_spread 6 [some (vR g 255), none, some (vI x2), some (vI x3), some (vI x4), some (vI x5), none, none] [] (z, I, J, G) := by
  refine z_iload dX2_spread_6 rfl ?_
  refine z_iload dX2_spread_8 rfl ?_
  refine z_icmp_ge (tgt := 140) dX2_spread_10 (by decide) hx5 hx4 (fun hc1 => ?_) (fun hc1 => ?_)
  · replace h := ifT hc1 h
    refine z_weak (L' := [none, none, none, none, none, none, none, none]) (lsN (lsN (lsN (lsN (lsN (lsN (lsN (lsN ls0)))))))) ?_
    exact kE _ (someE h).symm trivial
  replace h := ifF hc1 h
  refine z_iload dX2_spread_13 rfl ?_
  refine z_bipush dX2_spread_15 (by decide +kernel) ?_
  refine z_icmp_ge (tgt := 140) dX2_spread_17 (by decide) hx5 (inRd (x := 8) (by decide)) (fun hc2 => ?_) (fun hc2 => ?_)
  · replace h := ifT hc2 h
    refine z_weak (L' := [none, none, none, none, none, none, none, none]) (lsN (lsN (lsN (lsN (lsN (lsN (lsN (lsN ls0)))))))) ?_
    exact kE _ (someE h).symm trivial
  replace h := ifF hc2 h
  refine z_iload_n dX2_spread_20 rfl ?_
  refine z_istore (L' := [some (vR g 255), none, some (vI x2), some (vI x3), some (vI x4), some (vI x5), some (vI x2), none]) dX2_spread_21 rfl rfl rfl ?_
  obtain ⟨e21, h22, h⟩ := bindE h
  refine l_V_spread_L23 hb hz hG hx2 hx3 hx5 _ _ _ h22 ⟨hx4, hx2⟩ ?_
  refine fun h23 => ?_
  refine z_iinc (L' := [some (vR g 255), none, some (vI x2), some (vI x3), some (vI e21.1), some (vI (w32 (x5 + 1))), none, none]) dX2_spread_134 rfl rfl rfl rfl ?_
  refine z_goto (tgt := 6) dX2_spread_137 (by decide) ?_
  exact kS _ (someE h).symm ⟨h23, (inR_w32 _)⟩
theorem l_V_spread_L6 {l : Launch} {g : GX} {φ : CX} {z : Nat} {G : Nat → Nat → Nat} {F : Nat} (hb : cb φ = z) (hz : 295 ≤ z) (hG : lyX G) {x2 : Int} {x3 : Int} {J : Nat → Nat → Int} (hx2 : inR x2) (hx3 : inR x3) (n : Nat) (s : Int × Int × MI) (e : MI) (h : iter (fun s : Int × Int × MI => f_V_spread_L6 F x2 x3 s.1 s.2.1 s.2.2) n s = some e) (hs : inR s.1 ∧ inR s.2.1) (k : ((True) → Zt l g φ mu_V_spread 140 [none, none, none, none, none, none, none, none] [] (z, e, J, G))) : Zt l g φ mu_V_spread 6 [some (vR g 255), none, some (vI x2), some (vI x3), some (vI s.1), some (vI s.2.1), none, none] [] (z, s.2.2, J, G) := by
  refine iter_ind (Z := fun s : Int × Int × MI => Zt l g φ mu_V_spread 6 [some (vR g 255), none, some (vI x2), some (vI x3), some (vI s.1), some (vI s.2.1), none, none] [] (z, s.2.2, J, G)) (ZE := fun e : MI => ((True) → Zt l g φ mu_V_spread 140 [none, none, none, none, none, none, none, none] [] (z, e, J, G))) (Rg := fun s : Int × Int × MI => inR s.1 ∧ inR s.2.1) ?_ n s e h hs k
  intro s r hr hst kE kS
  exact t_V_spread_L6 hb hz hG hx2 hx3 hr.1 hr.2 hst kE kS
set_option maxHeartbeats 1000000 in
theorem s_V_spread {l : Launch} {g : GX} {z : Nat} {G : Nat → Nat → Nat} {F : Nat} (hz : 295 ≤ z) (hG : lyX G) {x1 : Int} {x2 : Int} {x3 : Int} {I J : Nat → Nat → Int} (hx1 : inR x1) (hx2 : inR x2) (hx3 : inR x3) {res : MI} (h : f_V_spread F x1 x2 x3 I = some res) : Spec l g 1 yX2_spread cX2_spread 8 none [vR g 255, vI x1, vI x2, vI x3] (z, I, J, G) none True (z, res, J, G) := by
  refine spec_of (μ := mu_V_spread) (k := 4) (L0 := [some (vR g 255), some (vI x1), some (vI x2), some (vI x3), none, none, none, none]) rfl mw_V_spread rfl rfl (Nat.le_refl _) (fun φ hb hE => ?_)
  refine z_iload_n dX2_spread_0 rfl ?_
  refine z_istore (L' := [some (vR g 255), some (vI x1), some (vI x2), some (vI x3), some (vI x1), none, none, none]) dX2_spread_1 rfl rfl rfl ?_
  refine z_iconst dX2_spread_3 ?_
  refine z_istore (L' := [some (vR g 255), some (vI x1), some (vI x2), some (vI x3), some (vI x1), some (vI 0), none, none]) dX2_spread_4 rfl rfl rfl ?_
  refine z_weak (L' := [some (vR g 255), none, some (vI x2), some (vI x3), some (vI x1), some (vI 0), none, none]) (lsS (lsN (lsS (lsS (lsS (lsS (lsN (lsN ls0)))))))) ?_
  obtain ⟨e24, h25, h⟩ := bindE h
  refine l_V_spread_L6 hb hz hG hx2 hx3 _ _ _ h25 ⟨hx1, (inRd (x := 0) (by decide))⟩ ?_
  refine fun h26 => ?_
  obtain rfl := someE h
  exact z_vret dX2_spread_140 hE trivial rfl
set_option maxHeartbeats 1000000 in
theorem t_V_give_L13 {l : Launch} {g : GX} {φ : CX} {z : Nat} {G : Nat → Nat → Nat} {F : Nat} (hb : cb φ = z) (hz : 295 ≤ z) (hG : lyX G) {x1 : Int} {x2 : Int} {x3 : Int} {I J : Nat → Nat → Int} (hx1 : inR x1) (hx2 : inR x2) (hx3 : inR x3) {res : (Int × MI) ⊕ (Int × Int × MI)} (h : f_V_give_L13 F x1 x2 x3 I = some res) (kE : ∀ e : Int × MI, res = .inl e → ((inR e.1) → Zt l g φ mu_V_give 57 [some (vR g 255), some (vI x1), some (vI e.1), none] [] (z, e.2, J, G))) (kS : ∀ s : Int × Int × MI, res = .inr s → (inR s.1 ∧ inR s.2.1) → Zt l g φ mu_V_give 13 [some (vR g 255), some (vI x1), some (vI s.1), some (vI s.2.1)] [] (z, s.2.2, J, G)) : Zt l g φ mu_V_give 13 [some (vR g 255), some (vI x1), some (vI x2), some (vI x3)] [] (z, I, J, G) := by
  refine z_iload_n dX2_give_13 rfl ?_
  refine z_aload_n dX2_give_14 rfl ?_
  refine z_nm (fun hN1 => ?_)
  refine y_getI dX2_give_15 cl2 sh_255 (by decide) (Nat.le_trans (by decide) hz) 0 rfl rfl (fl_V_59) ?_
  refine z_icmp_ge (tgt := 57) dX2_give_18 (by decide) hx3 (hN1.1 255 0) (fun hc2 => ?_) (fun hc2 => ?_)
  · replace h := ifT hc2 h
    refine z_weak (L' := [some (vR g 255), some (vI x1), some (vI x2), none]) (lsS (lsS (lsS (lsN ls0)))) ?_
    exact kE _ (someE h).symm hx2
  replace h := ifF hc2 h
  refine z_aload_n dX2_give_21 rfl ?_
  refine z_iload_n dX2_give_22 rfl ?_
  refine z_iload_n dX2_give_23 rfl ?_
  obtain ⟨q3, hq4, h⟩ := bindE h
  refine z_callV (As := [vI x1, vI x3]) (rest := []) (s_V_canGive hz hG hx1 hx3 hq4) dX2_give_24 mw_V_canGive cl2 sh_255 (by decide) (Nat.le_trans (by decide) hz) ml_V_104 im_V_canGive se_V_canGive rfl rfl rfl rfl (Nat.le_refl _) (Nat.le_of_eq hb.symm) (fun hp5 => ?_)
  show Zt _ _ _ _ 27 _ [vI q3] (z, I, J, G)
  refine z_if_ne (tgt := 33) dX2_give_27 (by decide) (inR_bool hp5) (fun hc6 => ?_) (fun hc6 => ?_)
  · replace h := ifT hc6 h
    refine z_aload_n dX2_give_33 rfl ?_
    refine y_getR dX2_give_34 cl2 sh_255 (by decide) (Nat.le_trans (by decide) hz) 8 rfl rfl (fl_V_32) (ly_255_8 hG) (by decide) ?_
    refine z_iload_n dX2_give_37 rfl ?_
    refine z_bipush dX2_give_38 (by decide +kernel) ?_
    obtain ⟨hg7, h⟩ := guardE h
    refine y_iast dX2_give_40 sh_270 (by decide) (Nat.le_trans (by decide) hz) hx3 hg7 (inRd (x := (-2)) (by decide)) ?_
    refine z_aload_n dX2_give_41 rfl ?_
    refine y_getR dX2_give_42 cl2 sh_255 (by decide) (Nat.le_trans (by decide) hz) 12 rfl rfl (fl_V_44) (ly_255_12 hG) (by decide) ?_
    refine z_iload_n dX2_give_45 rfl ?_
    refine z_iload_n dX2_give_46 rfl ?_
    obtain ⟨hg8, h⟩ := guardE h
    refine y_iast dX2_give_47 sh_274 (by decide) (Nat.le_trans (by decide) hz) hx2 hg8 hx3 ?_
    refine z_iinc (L' := [some (vR g 255), some (vI x1), some (vI (w32 (x2 + 1))), some (vI x3)]) dX2_give_48 rfl rfl rfl rfl ?_
    refine z_iinc (L' := [some (vR g 255), some (vI x1), some (vI (w32 (x2 + 1))), some (vI (w32 (x3 + 1)))]) dX2_give_51 rfl rfl rfl rfl ?_
    refine z_goto (tgt := 13) dX2_give_54 (by decide) ?_
    exact kS _ (someE h).symm ⟨(inR_w32 _), (inR_w32 _)⟩
  replace h := ifF (fun q => q hc6) h
  refine z_goto (tgt := 51) dX2_give_30 (by decide) ?_
  refine z_iinc (L' := [some (vR g 255), some (vI x1), some (vI x2), some (vI (w32 (x3 + 1)))]) dX2_give_51 rfl rfl rfl rfl ?_
  refine z_goto (tgt := 13) dX2_give_54 (by decide) ?_
  exact kS _ (someE h).symm ⟨hx2, (inR_w32 _)⟩
theorem l_V_give_L13 {l : Launch} {g : GX} {φ : CX} {z : Nat} {G : Nat → Nat → Nat} {F : Nat} (hb : cb φ = z) (hz : 295 ≤ z) (hG : lyX G) {x1 : Int} {J : Nat → Nat → Int} (hx1 : inR x1) (n : Nat) (s : Int × Int × MI) (e : Int × MI) (h : iter (fun s : Int × Int × MI => f_V_give_L13 F x1 s.1 s.2.1 s.2.2) n s = some e) (hs : inR s.1 ∧ inR s.2.1) (k : ((inR e.1) → Zt l g φ mu_V_give 57 [some (vR g 255), some (vI x1), some (vI e.1), none] [] (z, e.2, J, G))) : Zt l g φ mu_V_give 13 [some (vR g 255), some (vI x1), some (vI s.1), some (vI s.2.1)] [] (z, s.2.2, J, G) := by
  refine iter_ind (Z := fun s : Int × Int × MI => Zt l g φ mu_V_give 13 [some (vR g 255), some (vI x1), some (vI s.1), some (vI s.2.1)] [] (z, s.2.2, J, G)) (ZE := fun e : Int × MI => ((inR e.1) → Zt l g φ mu_V_give 57 [some (vR g 255), some (vI x1), some (vI e.1), none] [] (z, e.2, J, G))) (Rg := fun s : Int × Int × MI => inR s.1 ∧ inR s.2.1) ?_ n s e h hs k
  intro s r hr hst kE kS
  exact t_V_give_L13 hb hz hG hx1 hr.1 hr.2 hst kE kS
set_option maxHeartbeats 1000000 in
theorem s_V_give {l : Launch} {g : GX} {z : Nat} {G : Nat → Nat → Nat} {F : Nat} (hz : 295 ≤ z) (hG : lyX G) {x1 : Int} {I J : Nat → Nat → Int} (hx1 : inR x1) {res : Int × MI} (h : f_V_give F x1 I = some res) : Spec l g 14 yX2_give cX2_give 4 (some .boolean) [vR g 255, vI x1] (z, I, J, G) (some (vI res.1)) (res.1 = 0 ∨ res.1 = 1) (z, res.2, J, G) := by
  refine spec_of (μ := mu_V_give) (k := 2) (L0 := [some (vR g 255), some (vI x1), none, none]) rfl mw_V_give rfl rfl (Nat.le_refl _) (fun φ hb hE => ?_)
  refine z_aload_n dX2_give_0 rfl ?_
  refine y_getR dX2_give_1 cl2 sh_255 (by decide) (Nat.le_trans (by decide) hz) 8 rfl rfl (fl_V_32) (ly_255_8 hG) (by decide) ?_
  refine z_bipush dX2_give_4 (by decide +kernel) ?_
  refine z_callS (As := [vR g 270, vI (-3)]) (rest := []) (s_fill sh_270 (by decide) (Nat.le_trans (by decide) hz) (inRd (x := (-3)) (by decide)) (by decide)) dX2_give_6 mw_fill (tin5 5 (by decide +kernel) rfl) st_fill rfl rfl rfl rfl (Nat.le_refl _) (Nat.le_of_eq hb.symm) (fun _ => ?_)
  show Zt _ _ _ _ 9 _ [] (z, (fillA I 270 8 (-3)), J, G)
  refine z_iconst dX2_give_9 ?_
  refine z_istore_n (L' := [some (vR g 255), some (vI x1), some (vI 0), none]) dX2_give_10 rfl rfl rfl ?_
  refine z_iconst dX2_give_11 ?_
  refine z_istore_n (L' := [some (vR g 255), some (vI x1), some (vI 0), some (vI 0)]) dX2_give_12 rfl rfl rfl ?_
  obtain ⟨e9, h10, h⟩ := bindE h
  refine l_V_give_L13 hb hz hG hx1 _ _ _ h10 ⟨(inRd (x := 0) (by decide)), (inRd (x := 0) (by decide))⟩ ?_
  refine fun h11 => ?_
  refine z_aload_n dX2_give_57 rfl ?_
  refine z_iload_n dX2_give_58 rfl ?_
  refine z_iconst dX2_give_59 ?_
  refine z_iload_n dX2_give_60 rfl ?_
  obtain ⟨q12, hq13, h⟩ := bindE h
  refine z_callV (As := [vI e9.1, vI 0, vI x1]) (rest := []) (s_V_spread hz hG h11 (inRd (x := 0) (by decide)) hx1 hq13) dX2_give_61 mw_V_spread cl2 sh_255 (by decide) (Nat.le_trans (by decide) hz) ml_V_108 im_V_spread se_V_spread rfl rfl rfl rfl (Nat.le_refl _) (Nat.le_of_eq hb.symm) (fun hp14 => ?_)
  show Zt _ _ _ _ 64 _ [] (z, q12, J, G)
  refine z_aload_n dX2_give_64 rfl ?_
  obtain ⟨q15, hq16, h⟩ := bindE h
  refine z_callV (As := []) (rest := []) (s_V_leastFree hz hG  hq16) dX2_give_65 mw_V_leastFree cl2 sh_255 (by decide) (Nat.le_trans (by decide) hz) ml_V_112 im_V_leastFree se_V_leastFree rfl rfl rfl rfl (Nat.le_refl _) (Nat.le_of_eq hb.symm) (fun hp17 => ?_)
  show Zt _ _ _ _ 68 _ [vI q15] (z, q12, J, G)
  refine z_istore_n (L' := [some (vR g 255), some (vI x1), some (vI e9.1), some (vI q15)]) dX2_give_68 rfl rfl rfl ?_
  refine z_iload_n dX2_give_69 rfl ?_
  refine z_iconst dX2_give_70 ?_
  refine z_icmp_ne (tgt := 76) dX2_give_71 (by decide) hp17 (inRd (x := (-1)) (by decide)) (fun hc18 => ?_) (fun hc18 => ?_)
  · replace h := ifT hc18 h
    refine z_aload_n dX2_give_76 rfl ?_
    refine y_getR dX2_give_77 cl2 sh_255 (by decide) (Nat.le_trans (by decide) hz) 4 rfl rfl (fl_V_23) (ly_255_4 hG) (by decide) ?_
    refine z_iload_n dX2_give_80 rfl ?_
    refine z_aload_n dX2_give_81 rfl ?_
    refine z_iload_n dX2_give_82 rfl ?_
    obtain ⟨q19, hq20, h⟩ := bindE h
    refine z_callV (As := [vI q15]) (rest := [vI x1, vR g 267]) (s_V_passOn hz hG hp17 hq20) dX2_give_83 mw_V_passOn cl2 sh_255 (by decide) (Nat.le_trans (by decide) hz) ml_V_115 im_V_passOn se_V_passOn rfl rfl rfl rfl (Nat.le_refl _) (Nat.le_of_eq hb.symm) (fun hp21 => ?_)
    show Zt _ _ _ _ 86 _ [vI q19.1, vI x1, vR g 267] (z, q19.2, J, G)
    obtain ⟨hg22, h⟩ := guardE h
    refine y_iast dX2_give_86 sh_267 (by decide) (Nat.le_trans (by decide) hz) hx1 hg22 hp21 ?_
    refine z_aload_n dX2_give_87 rfl ?_
    refine y_getR dX2_give_88 cl2 sh_255 (by decide) (Nat.le_trans (by decide) hz) 7 rfl rfl (fl_V_29) (ly_255_7 hG) (by decide) ?_
    refine z_iload_n dX2_give_91 rfl ?_
    refine z_dup2 dX2_give_92 rfl rfl ?_
    obtain ⟨hg23, h⟩ := guardE h
    refine z_nm (fun hN24 => ?_)
    refine y_iald dX2_give_93 sh_269 (by decide) (Nat.le_trans (by decide) hz) hp17 hg23 ?_
    refine z_iconst dX2_give_94 ?_
    refine z_iadd dX2_give_95 ?_
    refine y_iast dX2_give_96 sh_269 (by decide) (Nat.le_trans (by decide) hz) hp17 hg23 (inR_w32 _) ?_
    refine z_iconst dX2_give_97 ?_
    obtain rfl := someE h
    exact z_zret dX2_give_98 hE b01_1 b01_1 rfl
  replace h := ifF (fun q => q hc18) h
  refine z_iconst dX2_give_74 ?_
  obtain rfl := someE h
  exact z_zret dX2_give_75 hE b01_0 b01_0 rfl
set_option maxHeartbeats 1000000 in
theorem t_V_handOn_L4 {l : Launch} {g : GX} {φ : CX} {z : Nat} {G : Nat → Nat → Nat} {F : Nat} (hb : cb φ = z) (hz : 295 ≤ z) (hG : lyX G) {x2 : Int} {x3 : Int} {I J : Nat → Nat → Int} (hx2 : inR x2) (hx3 : inR x3) {res : (MI) ⊕ (Int × Int × MI)} (h : f_V_handOn_L4 F x2 x3 I = some res) (kE : ∀ e : MI, res = .inl e → ((True) → Zt l g φ mu_V_handOn 49 [none, none, none, none] [] (z, e, J, G))) (kS : ∀ s : Int × Int × MI, res = .inr s → (inR s.1 ∧ inR s.2.1) → Zt l g φ mu_V_handOn 4 [some (vR g 255), none, some (vI s.1), some (vI s.2.1)] [] (z, s.2.2, J, G)) : Zt l g φ mu_V_handOn 4 [some (vR g 255), none, some (vI x2), some (vI x3)] [] (z, I, J, G) := by
  refine z_iload_n dX2_handOn_4 rfl ?_
  refine z_bipush dX2_handOn_5 (by decide +kernel) ?_
  refine z_icmp_ge (tgt := 49) dX2_handOn_7 (by decide) hx3 (inRd (x := 8) (by decide)) (fun hc1 => ?_) (fun hc1 => ?_)
  · replace h := ifT hc1 h
    refine z_weak (L' := [none, none, none, none]) (lsN (lsN (lsN (lsN ls0)))) ?_
    exact kE _ (someE h).symm trivial
  replace h := ifF hc1 h
  refine z_aload_n dX2_handOn_10 rfl ?_
  refine y_getR dX2_handOn_11 cl2 sh_255 (by decide) (Nat.le_trans (by decide) hz) 10 rfl rfl (fl_V_38) (ly_255_10 hG) (by decide) ?_
  refine z_iload_n dX2_handOn_14 rfl ?_
  obtain ⟨hg2, h⟩ := guardE h
  refine z_nm (fun hN3 => ?_)
  refine y_iald dX2_handOn_15 sh_272 (by decide) (Nat.le_trans (by decide) hz) hx2 hg2 ?_
  refine z_if_lt (tgt := 49) dX2_handOn_16 (by decide) (hN3.1 272 (x2).toNat) (fun hc4 => ?_) (fun hc4 => ?_)
  · replace h := ifT hc4 h
    refine z_weak (L' := [none, none, none, none]) (lsN (lsN (lsN (lsN ls0)))) ?_
    exact kE _ (someE h).symm trivial
  replace h := ifF hc4 h
  refine z_aload_n dX2_handOn_19 rfl ?_
  refine y_getR dX2_handOn_20 cl2 sh_255 (by decide) (Nat.le_trans (by decide) hz) 4 rfl rfl (fl_V_23) (ly_255_4 hG) (by decide) ?_
  refine z_aload_n dX2_handOn_23 rfl ?_
  refine y_getR dX2_handOn_24 cl2 sh_255 (by decide) (Nat.le_trans (by decide) hz) 11 rfl rfl (fl_V_41) (ly_255_11 hG) (by decide) ?_
  refine z_iload_n dX2_handOn_27 rfl ?_
  refine y_iald dX2_handOn_28 sh_273 (by decide) (Nat.le_trans (by decide) hz) hx2 hg2 ?_
  refine z_aload_n dX2_handOn_29 rfl ?_
  refine y_getR dX2_handOn_30 cl2 sh_255 (by decide) (Nat.le_trans (by decide) hz) 10 rfl rfl (fl_V_38) (ly_255_10 hG) (by decide) ?_
  refine z_iload_n dX2_handOn_33 rfl ?_
  refine y_iald dX2_handOn_34 sh_272 (by decide) (Nat.le_trans (by decide) hz) hx2 hg2 ?_
  obtain ⟨hg5, h⟩ := guardE h
  refine y_iast dX2_handOn_35 sh_267 (by decide) (Nat.le_trans (by decide) hz) (hN3.1 273 (x2).toNat) hg5 (hN3.1 272 (x2).toNat) ?_
  refine z_aload_n dX2_handOn_36 rfl ?_
  refine y_getR dX2_handOn_37 cl2 sh_255 (by decide) (Nat.le_trans (by decide) hz) 10 rfl rfl (fl_V_38) (ly_255_10 hG) (by decide) ?_
  refine z_iload_n dX2_handOn_40 rfl ?_
  refine z_nm (fun hN6 => ?_)
  refine y_iald dX2_handOn_41 sh_272 (by decide) (Nat.le_trans (by decide) hz) hx2 hg2 ?_
  refine z_istore_n (L' := [some (vR g 255), none, some (vI ((up2 I 267 ((I 273 (x2).toNat)).toNat (I 272 (x2).toNat)) 272 (x2).toNat)), some (vI x3)]) dX2_handOn_42 rfl rfl rfl ?_
  refine z_iinc (L' := [some (vR g 255), none, some (vI ((up2 I 267 ((I 273 (x2).toNat)).toNat (I 272 (x2).toNat)) 272 (x2).toNat)), some (vI (w32 (x3 + 1)))]) dX2_handOn_43 rfl rfl rfl rfl ?_
  refine z_goto (tgt := 4) dX2_handOn_46 (by decide) ?_
  exact kS _ (someE h).symm ⟨(hN6.1 272 (x2).toNat), (inR_w32 _)⟩
theorem l_V_handOn_L4 {l : Launch} {g : GX} {φ : CX} {z : Nat} {G : Nat → Nat → Nat} {F : Nat} (hb : cb φ = z) (hz : 295 ≤ z) (hG : lyX G) {J : Nat → Nat → Int} (n : Nat) (s : Int × Int × MI) (e : MI) (h : iter (fun s : Int × Int × MI => f_V_handOn_L4 F s.1 s.2.1 s.2.2) n s = some e) (hs : inR s.1 ∧ inR s.2.1) (k : ((True) → Zt l g φ mu_V_handOn 49 [none, none, none, none] [] (z, e, J, G))) : Zt l g φ mu_V_handOn 4 [some (vR g 255), none, some (vI s.1), some (vI s.2.1)] [] (z, s.2.2, J, G) := by
  refine iter_ind (Z := fun s : Int × Int × MI => Zt l g φ mu_V_handOn 4 [some (vR g 255), none, some (vI s.1), some (vI s.2.1)] [] (z, s.2.2, J, G)) (ZE := fun e : MI => ((True) → Zt l g φ mu_V_handOn 49 [none, none, none, none] [] (z, e, J, G))) (Rg := fun s : Int × Int × MI => inR s.1 ∧ inR s.2.1) ?_ n s e h hs k
  intro s r hr hst kE kS
  exact t_V_handOn_L4 hb hz hG hr.1 hr.2 hst kE kS
set_option maxHeartbeats 1000000 in
theorem s_V_handOn {l : Launch} {g : GX} {z : Nat} {G : Nat → Nat → Nat} {F : Nat} (hz : 295 ≤ z) (hG : lyX G) {x1 : Int} {I J : Nat → Nat → Int} (hx1 : inR x1) {res : MI} (h : f_V_handOn F x1 I = some res) : Spec l g 0 yX2_handOn cX2_handOn 4 none [vR g 255, vI x1] (z, I, J, G) none True (z, res, J, G) := by
  refine spec_of (μ := mu_V_handOn) (k := 2) (L0 := [some (vR g 255), some (vI x1), none, none]) rfl mw_V_handOn rfl rfl (Nat.le_refl _) (fun φ hb hE => ?_)
  refine z_iload_n dX2_handOn_0 rfl ?_
  refine z_istore_n (L' := [some (vR g 255), some (vI x1), some (vI x1), none]) dX2_handOn_1 rfl rfl rfl ?_
  refine z_iconst dX2_handOn_2 ?_
  refine z_istore_n (L' := [some (vR g 255), some (vI x1), some (vI x1), some (vI 0)]) dX2_handOn_3 rfl rfl rfl ?_
  refine z_weak (L' := [some (vR g 255), none, some (vI x1), some (vI 0)]) (lsS (lsN (lsS (lsS ls0)))) ?_
  obtain ⟨e7, h8, h⟩ := bindE h
  refine l_V_handOn_L4 hb hz hG  _ _ _ h8 ⟨hx1, (inRd (x := 0) (by decide))⟩ ?_
  refine fun h9 => ?_
  obtain rfl := someE h
  exact z_vret dX2_handOn_49 hE trivial rfl
set_option maxHeartbeats 1000000 in
theorem t_V_spreadBack_L47 {l : Launch} {g : GX} {φ : CX} {z : Nat} {G : Nat → Nat → Nat} {F : Nat} (hb : cb φ = z) (hz : 295 ≤ z) (hG : lyX G) {x2 : Int} {x3 : Int} {x4 : Int} {x5 : Int} {x6 : Int} {I J : Nat → Nat → Int} (hx2 : inR x2) (hx3 : inR x3) (hx4 : inR x4) (hx5 : inR x5) (hx6 : inR x6) {res : (Int × MI) ⊕ (Int × Int × MI)} (h : f_V_spreadBack_L47 F x2 x3 x4 x5 x6 I = some res) (kE : ∀ e : Int × MI, res = .inl e → ((inR e.1) → Zt l g φ mu_V_spreadBack 139 [some (vR g 255), none, some (vI x2), some (vI x3), some (vI e.1), some (vI x5), none, none] [] (z, e.2, J, G))) (kS : ∀ s : Int × Int × MI, res = .inr s → (inR s.1 ∧ inR s.2.1) → Zt l g φ mu_V_spreadBack 47 [some (vR g 255), none, some (vI x2), some (vI x3), some (vI s.1), some (vI x5), some (vI s.2.1), none] [] (z, s.2.2, J, G)) : Zt l g φ mu_V_spreadBack 47 [some (vR g 255), none, some (vI x2), some (vI x3), some (vI x4), some (vI x5), some (vI x6), none] [] (z, I, J, G) := by
  refine z_iload dX2_spreadBack_47 rfl ?_
  refine z_iload_n dX2_spreadBack_49 rfl ?_
  refine z_icmp_ge (tgt := 139) dX2_spreadBack_50 (by decide) hx6 hx3 (fun hc4 => ?_) (fun hc4 => ?_)
  · replace h := ifT hc4 h
    refine z_weak (L' := [some (vR g 255), none, some (vI x2), some (vI x3), some (vI x4), some (vI x5), none, none]) (lsS (lsN (lsS (lsS (lsS (lsS (lsN (lsN ls0)))))))) ?_
    exact kE _ (someE h).symm hx4
  replace h := ifF hc4 h
  refine z_aload_n dX2_spreadBack_53 rfl ?_
  refine y_getR dX2_spreadBack_54 cl2 sh_255 (by decide) (Nat.le_trans (by decide) hz) 4 rfl rfl (fl_V_23) (ly_255_4 hG) (by decide) ?_
  refine z_iload dX2_spreadBack_57 rfl ?_
  obtain ⟨hg5, h⟩ := guardE h
  refine z_nm (fun hN6 => ?_)
  refine y_iald dX2_spreadBack_59 sh_267 (by decide) (Nat.le_trans (by decide) hz) hx6 hg5 ?_
  refine z_istore (L' := [some (vR g 255), none, some (vI x2), some (vI x3), some (vI x4), some (vI x5), some (vI x6), some (vI (I 267 (x6).toNat))]) dX2_spreadBack_60 rfl rfl rfl ?_
  refine z_iload dX2_spreadBack_62 rfl ?_
  refine z_if_lt (tgt := 133) dX2_spreadBack_64 (by decide) (hN6.1 267 (x6).toNat) (fun hc7 => ?_) (fun hc7 => ?_)
  · replace h := ifT hc7 h
    refine z_iinc (L' := [some (vR g 255), none, some (vI x2), some (vI x3), some (vI x4), some (vI x5), some (vI (w32 (x6 + 1))), some (vI (I 267 (x6).toNat))]) dX2_spreadBack_133 rfl rfl rfl rfl ?_
    refine z_goto (tgt := 47) dX2_spreadBack_136 (by decide) ?_
    refine z_weak (L' := [some (vR g 255), none, some (vI x2), some (vI x3), some (vI x4), some (vI x5), some (vI (w32 (x6 + 1))), none]) (lsS (lsN (lsS (lsS (lsS (lsS (lsS (lsN ls0)))))))) ?_
    exact kS _ (someE h).symm ⟨hx4, (inR_w32 _)⟩
  replace h := ifF hc7 h
  refine z_aload_n dX2_spreadBack_67 rfl ?_
  refine y_getR dX2_spreadBack_68 cl2 sh_255 (by decide) (Nat.le_trans (by decide) hz) 10 rfl rfl (fl_V_38) (ly_255_10 hG) (by decide) ?_
  refine z_iload dX2_spreadBack_71 rfl ?_
  obtain ⟨hg8, h⟩ := guardE h
  refine y_iald dX2_spreadBack_73 sh_272 (by decide) (Nat.le_trans (by decide) hz) (hN6.1 267 (x6).toNat) hg8 ?_
  refine z_bipush dX2_spreadBack_74 (by decide +kernel) ?_
  refine z_icmp_ne (tgt := 133) dX2_spreadBack_76 (by decide) (hN6.1 272 ((I 267 (x6).toNat)).toNat) (inRd (x := (-3)) (by decide)) (fun hc9 => ?_) (fun hc9 => ?_)
  · replace h := ifT hc9 h
    refine z_iinc (L' := [some (vR g 255), none, some (vI x2), some (vI x3), some (vI x4), some (vI x5), some (vI (w32 (x6 + 1))), some (vI (I 267 (x6).toNat))]) dX2_spreadBack_133 rfl rfl rfl rfl ?_
    refine z_goto (tgt := 47) dX2_spreadBack_136 (by decide) ?_
    refine z_weak (L' := [some (vR g 255), none, some (vI x2), some (vI x3), some (vI x4), some (vI x5), some (vI (w32 (x6 + 1))), none]) (lsS (lsN (lsS (lsS (lsS (lsS (lsS (lsN ls0)))))))) ?_
    exact kS _ (someE h).symm ⟨hx4, (inR_w32 _)⟩
  replace h := ifF (fun q => q hc9) h
  refine z_aload_n dX2_spreadBack_79 rfl ?_
  refine z_iload dX2_spreadBack_80 rfl ?_
  refine z_aload_n dX2_spreadBack_82 rfl ?_
  refine y_getR dX2_spreadBack_83 cl2 sh_255 (by decide) (Nat.le_trans (by decide) hz) 12 rfl rfl (fl_V_44) (ly_255_12 hG) (by decide) ?_
  refine z_iload dX2_spreadBack_86 rfl ?_
  obtain ⟨hg10, h⟩ := guardE h
  refine y_iald dX2_spreadBack_88 sh_274 (by decide) (Nat.le_trans (by decide) hz) hx5 hg10 ?_
  obtain ⟨q11, hq12, h⟩ := bindE h
  refine z_callV (As := [vI x6, vI (I 274 (x5).toNat)]) (rest := []) (s_V_canGive hz hG hx6 (hN6.1 274 (x5).toNat) hq12) dX2_spreadBack_89 mw_V_canGive cl2 sh_255 (by decide) (Nat.le_trans (by decide) hz) ml_V_104 im_V_canGive se_V_canGive rfl rfl rfl rfl (Nat.le_refl _) (Nat.le_of_eq hb.symm) (fun hp13 => ?_)
  show Zt _ _ _ _ 92 _ [vI q11] (z, I, J, G)
  refine z_if_ne (tgt := 98) dX2_spreadBack_92 (by decide) (inR_bool hp13) (fun hc14 => ?_) (fun hc14 => ?_)
  · replace h := ifT hc14 h
    refine z_aload_n dX2_spreadBack_98 rfl ?_
    refine y_getR dX2_spreadBack_99 cl2 sh_255 (by decide) (Nat.le_trans (by decide) hz) 10 rfl rfl (fl_V_38) (ly_255_10 hG) (by decide) ?_
    refine z_iload dX2_spreadBack_102 rfl ?_
    refine z_aload_n dX2_spreadBack_104 rfl ?_
    refine y_getR dX2_spreadBack_105 cl2 sh_255 (by decide) (Nat.le_trans (by decide) hz) 12 rfl rfl (fl_V_44) (ly_255_12 hG) (by decide) ?_
    refine z_iload dX2_spreadBack_108 rfl ?_
    refine y_iald dX2_spreadBack_110 sh_274 (by decide) (Nat.le_trans (by decide) hz) hx5 hg10 ?_
    refine y_iast dX2_spreadBack_111 sh_272 (by decide) (Nat.le_trans (by decide) hz) (hN6.1 267 (x6).toNat) hg8 (hN6.1 274 (x5).toNat) ?_
    refine z_aload_n dX2_spreadBack_112 rfl ?_
    refine y_getR dX2_spreadBack_113 cl2 sh_255 (by decide) (Nat.le_trans (by decide) hz) 11 rfl rfl (fl_V_41) (ly_255_11 hG) (by decide) ?_
    refine z_iload dX2_spreadBack_116 rfl ?_
    refine z_iload dX2_spreadBack_118 rfl ?_
    refine y_iast dX2_spreadBack_120 sh_273 (by decide) (Nat.le_trans (by decide) hz) (hN6.1 267 (x6).toNat) hg8 hx6 ?_
    refine z_aload_n dX2_spreadBack_121 rfl ?_
    refine y_getR dX2_spreadBack_122 cl2 sh_255 (by decide) (Nat.le_trans (by decide) hz) 12 rfl rfl (fl_V_44) (ly_255_12 hG) (by decide) ?_
    refine z_iload dX2_spreadBack_125 rfl ?_
    refine z_iload dX2_spreadBack_127 rfl ?_
    obtain ⟨hg15, h⟩ := guardE h
    refine y_iast dX2_spreadBack_129 sh_274 (by decide) (Nat.le_trans (by decide) hz) hx4 hg15 (hN6.1 267 (x6).toNat) ?_
    refine z_iinc (L' := [some (vR g 255), none, some (vI x2), some (vI x3), some (vI (w32 (x4 + 1))), some (vI x5), some (vI x6), some (vI (I 267 (x6).toNat))]) dX2_spreadBack_130 rfl rfl rfl rfl ?_
    refine z_iinc (L' := [some (vR g 255), none, some (vI x2), some (vI x3), some (vI (w32 (x4 + 1))), some (vI x5), some (vI (w32 (x6 + 1))), some (vI (I 267 (x6).toNat))]) dX2_spreadBack_133 rfl rfl rfl rfl ?_
    refine z_goto (tgt := 47) dX2_spreadBack_136 (by decide) ?_
    refine z_weak (L' := [some (vR g 255), none, some (vI x2), some (vI x3), some (vI (w32 (x4 + 1))), some (vI x5), some (vI (w32 (x6 + 1))), none]) (lsS (lsN (lsS (lsS (lsS (lsS (lsS (lsN ls0)))))))) ?_
    exact kS _ (someE h).symm ⟨(inR_w32 _), (inR_w32 _)⟩
  replace h := ifF (fun q => q hc14) h
  refine z_goto (tgt := 133) dX2_spreadBack_95 (by decide) ?_
  refine z_iinc (L' := [some (vR g 255), none, some (vI x2), some (vI x3), some (vI x4), some (vI x5), some (vI (w32 (x6 + 1))), some (vI (I 267 (x6).toNat))]) dX2_spreadBack_133 rfl rfl rfl rfl ?_
  refine z_goto (tgt := 47) dX2_spreadBack_136 (by decide) ?_
  refine z_weak (L' := [some (vR g 255), none, some (vI x2), some (vI x3), some (vI x4), some (vI x5), some (vI (w32 (x6 + 1))), none]) (lsS (lsN (lsS (lsS (lsS (lsS (lsS (lsN ls0)))))))) ?_
  exact kS _ (someE h).symm ⟨hx4, (inR_w32 _)⟩
theorem l_V_spreadBack_L47 {l : Launch} {g : GX} {φ : CX} {z : Nat} {G : Nat → Nat → Nat} {F : Nat} (hb : cb φ = z) (hz : 295 ≤ z) (hG : lyX G) {x2 : Int} {x3 : Int} {x5 : Int} {J : Nat → Nat → Int} (hx2 : inR x2) (hx3 : inR x3) (hx5 : inR x5) (n : Nat) (s : Int × Int × MI) (e : Int × MI) (h : iter (fun s : Int × Int × MI => f_V_spreadBack_L47 F x2 x3 s.1 x5 s.2.1 s.2.2) n s = some e) (hs : inR s.1 ∧ inR s.2.1) (k : ((inR e.1) → Zt l g φ mu_V_spreadBack 139 [some (vR g 255), none, some (vI x2), some (vI x3), some (vI e.1), some (vI x5), none, none] [] (z, e.2, J, G))) : Zt l g φ mu_V_spreadBack 47 [some (vR g 255), none, some (vI x2), some (vI x3), some (vI s.1), some (vI x5), some (vI s.2.1), none] [] (z, s.2.2, J, G) := by
  refine iter_ind (Z := fun s : Int × Int × MI => Zt l g φ mu_V_spreadBack 47 [some (vR g 255), none, some (vI x2), some (vI x3), some (vI s.1), some (vI x5), some (vI s.2.1), none] [] (z, s.2.2, J, G)) (ZE := fun e : Int × MI => ((inR e.1) → Zt l g φ mu_V_spreadBack 139 [some (vR g 255), none, some (vI x2), some (vI x3), some (vI e.1), some (vI x5), none, none] [] (z, e.2, J, G))) (Rg := fun s : Int × Int × MI => inR s.1 ∧ inR s.2.1) ?_ n s e h hs k
  intro s r hr hst kE kS
  exact t_V_spreadBack_L47 hb hz hG hx2 hx3 hr.1 hx5 hr.2 hst kE kS
set_option maxHeartbeats 1000000 in
theorem t_V_spreadBack_L30 {l : Launch} {g : GX} {φ : CX} {z : Nat} {G : Nat → Nat → Nat} {F : Nat} (hb : cb φ = z) (hz : 295 ≤ z) (hG : lyX G) {x2 : Int} {x3 : Int} {x4 : Int} {x5 : Int} {I J : Nat → Nat → Int} (hx2 : inR x2) (hx3 : inR x3) (hx4 : inR x4) (hx5 : inR x5) {res : (MI) ⊕ (Int × Int × MI)} (h : f_V_spreadBack_L30 F x2 x3 x4 x5 I = some res) (kE : ∀ e : MI, res = .inl e → ((True) → Zt l g φ mu_V_spreadBack 145 [none, none, none, none, none, none, none, none] [] (z, e, J, G))) (kS : ∀ s : Int × Int × MI, res = .inr s → (inR s.1 ∧ inR s.2.1) → Zt l g φ mu_V_spreadBack 30 [some (vR g 255), none, some (vI x2), some (vI x3), some (vI s.1), some (vI s.2.1), none, none] [] (z, s.2.2, J, G)) : Zt l g φ mu_V_spreadBack 30 [some (vR g 255), none, some (vI x2), some (vI x3), some (vI x4), some (vI x5), none, none] [] (z, I, J, G) := by
  refine z_iload dX2_spreadBack_30 rfl ?_
  refine z_iload dX2_spreadBack_32 rfl ?_
  refine z_icmp_ge (tgt := 145) dX2_spreadBack_34 (by decide) hx5 hx4 (fun hc2 => ?_) (fun hc2 => ?_)
  · replace h := ifT hc2 h
    refine z_weak (L' := [none, none, none, none, none, none, none, none]) (lsN (lsN (lsN (lsN (lsN (lsN (lsN (lsN ls0)))))))) ?_
    exact kE _ (someE h).symm trivial
  replace h := ifF hc2 h
  refine z_iload dX2_spreadBack_37 rfl ?_
  refine z_bipush dX2_spreadBack_39 (by decide +kernel) ?_
  refine z_icmp_ge (tgt := 145) dX2_spreadBack_41 (by decide) hx5 (inRd (x := 8) (by decide)) (fun hc3 => ?_) (fun hc3 => ?_)
  · replace h := ifT hc3 h
    refine z_weak (L' := [none, none, none, none, none, none, none, none]) (lsN (lsN (lsN (lsN (lsN (lsN (lsN (lsN ls0)))))))) ?_
    exact kE _ (someE h).symm trivial
  replace h := ifF hc3 h
  refine z_iload_n dX2_spreadBack_44 rfl ?_
  refine z_istore (L' := [some (vR g 255), none, some (vI x2), some (vI x3), some (vI x4), some (vI x5), some (vI x2), none]) dX2_spreadBack_45 rfl rfl rfl ?_
  obtain ⟨e16, h17, h⟩ := bindE h
  refine l_V_spreadBack_L47 hb hz hG hx2 hx3 hx5 _ _ _ h17 ⟨hx4, hx2⟩ ?_
  refine fun h18 => ?_
  refine z_iinc (L' := [some (vR g 255), none, some (vI x2), some (vI x3), some (vI e16.1), some (vI (w32 (x5 + 1))), none, none]) dX2_spreadBack_139 rfl rfl rfl rfl ?_
  refine z_goto (tgt := 30) dX2_spreadBack_142 (by decide) ?_
  exact kS _ (someE h).symm ⟨h18, (inR_w32 _)⟩
theorem l_V_spreadBack_L30 {l : Launch} {g : GX} {φ : CX} {z : Nat} {G : Nat → Nat → Nat} {F : Nat} (hb : cb φ = z) (hz : 295 ≤ z) (hG : lyX G) {x2 : Int} {x3 : Int} {J : Nat → Nat → Int} (hx2 : inR x2) (hx3 : inR x3) (n : Nat) (s : Int × Int × MI) (e : MI) (h : iter (fun s : Int × Int × MI => f_V_spreadBack_L30 F x2 x3 s.1 s.2.1 s.2.2) n s = some e) (hs : inR s.1 ∧ inR s.2.1) (k : ((True) → Zt l g φ mu_V_spreadBack 145 [none, none, none, none, none, none, none, none] [] (z, e, J, G))) : Zt l g φ mu_V_spreadBack 30 [some (vR g 255), none, some (vI x2), some (vI x3), some (vI s.1), some (vI s.2.1), none, none] [] (z, s.2.2, J, G) := by
  refine iter_ind (Z := fun s : Int × Int × MI => Zt l g φ mu_V_spreadBack 30 [some (vR g 255), none, some (vI x2), some (vI x3), some (vI s.1), some (vI s.2.1), none, none] [] (z, s.2.2, J, G)) (ZE := fun e : MI => ((True) → Zt l g φ mu_V_spreadBack 145 [none, none, none, none, none, none, none, none] [] (z, e, J, G))) (Rg := fun s : Int × Int × MI => inR s.1 ∧ inR s.2.1) ?_ n s e h hs k
  intro s r hr hst kE kS
  exact t_V_spreadBack_L30 hb hz hG hx2 hx3 hr.1 hr.2 hst kE kS
set_option maxHeartbeats 1000000 in
theorem s_V_spreadBack {l : Launch} {g : GX} {z : Nat} {G : Nat → Nat → Nat} {F : Nat} (hz : 295 ≤ z) (hG : lyX G) {x1 : Int} {x2 : Int} {x3 : Int} {I J : Nat → Nat → Int} (hx1 : inR x1) (hx2 : inR x2) (hx3 : inR x3) {res : MI} (h : f_V_spreadBack F x1 x2 x3 I = some res) : Spec l g 14 yX2_spreadBack cX2_spreadBack 8 none [vR g 255, vI x1, vI x2, vI x3] (z, I, J, G) none True (z, res, J, G) := by
  refine spec_of (μ := mu_V_spreadBack) (k := 4) (L0 := [some (vR g 255), some (vI x1), some (vI x2), some (vI x3), none, none, none, none]) rfl mw_V_spreadBack rfl rfl (Nat.le_refl _) (fun φ hb hE => ?_)
  refine z_aload_n dX2_spreadBack_0 rfl ?_
  refine y_getR dX2_spreadBack_1 cl2 sh_255 (by decide) (Nat.le_trans (by decide) hz) 10 rfl rfl (fl_V_38) (ly_255_10 hG) (by decide) ?_
  refine z_bipush dX2_spreadBack_4 (by decide +kernel) ?_
  refine z_callS (As := [vR g 272, vI (-3)]) (rest := []) (s_fill sh_272 (by decide) (Nat.le_trans (by decide) hz) (inRd (x := (-3)) (by decide)) (by decide)) dX2_spreadBack_6 mw_fill (tin5 5 (by decide +kernel) rfl) st_fill rfl rfl rfl rfl (Nat.le_refl _) (Nat.le_of_eq hb.symm) (fun _ => ?_)
  show Zt _ _ _ _ 9 _ [] (z, (fillA I 272 8 (-3)), J, G)
  refine z_aload_n dX2_spreadBack_9 rfl ?_
  refine y_getR dX2_spreadBack_10 cl2 sh_255 (by decide) (Nat.le_trans (by decide) hz) 10 rfl rfl (fl_V_38) (ly_255_10 hG) (by decide) ?_
  refine z_iload_n dX2_spreadBack_13 rfl ?_
  refine z_bipush dX2_spreadBack_14 (by decide +kernel) ?_
  obtain ⟨hg1, h⟩ := guardE h
  refine y_iast dX2_spreadBack_16 sh_272 (by decide) (Nat.le_trans (by decide) hz) hx1 hg1 (inRd (x := (-2)) (by decide)) ?_
  refine z_aload_n dX2_spreadBack_17 rfl ?_
  refine y_getR dX2_spreadBack_18 cl2 sh_255 (by decide) (Nat.le_trans (by decide) hz) 12 rfl rfl (fl_V_44) (ly_255_12 hG) (by decide) ?_
  refine z_iconst dX2_spreadBack_21 ?_
  refine z_iload_n dX2_spreadBack_22 rfl ?_
  refine y_iast dX2_spreadBack_23 sh_274 (by decide) (Nat.le_trans (by decide) hz) (inRd (x := 0) (by decide)) (by decide) hx1 ?_
  refine z_iconst dX2_spreadBack_24 ?_
  refine z_istore (L' := [some (vR g 255), some (vI x1), some (vI x2), some (vI x3), some (vI 1), none, none, none]) dX2_spreadBack_25 rfl rfl rfl ?_
  refine z_iconst dX2_spreadBack_27 ?_
  refine z_istore (L' := [some (vR g 255), some (vI x1), some (vI x2), some (vI x3), some (vI 1), some (vI 0), none, none]) dX2_spreadBack_28 rfl rfl rfl ?_
  refine z_weak (L' := [some (vR g 255), none, some (vI x2), some (vI x3), some (vI 1), some (vI 0), none, none]) (lsS (lsN (lsS (lsS (lsS (lsS (lsN (lsN ls0)))))))) ?_
  obtain ⟨e19, h20, h⟩ := bindE h
  refine l_V_spreadBack_L30 hb hz hG hx2 hx3 _ _ _ h20 ⟨(inRd (x := 1) (by decide)), (inRd (x := 0) (by decide))⟩ ?_
  refine fun h21 => ?_
  obtain rfl := someE h
  exact z_vret dX2_spreadBack_145 hE trivial rfl
set_option maxHeartbeats 1000000 in
theorem t_V_giveInstead_L101 {l : Launch} {g : GX} {φ : CX} {z : Nat} {G : Nat → Nat → Nat} {F : Nat} (hb : cb φ = z) (hz : 295 ≤ z) (hG : lyX G) {x1 : Int} {x3 : Int} {x4 : Int} {x5 : Int} {I J : Nat → Nat → Int} (hx1 : inR x1) (hx3 : inR x3) (hx4 : inR x4) (hx5 : inR x5) {res : ((Int) ⊕ (Unit)) ⊕ (Int)} (h : f_V_giveInstead_L101 F x1 x3 x4 x5 I = some res) (kE : ∀ e : (Int) ⊕ (Unit), res = .inl e → ((fun w : (Int) ⊕ (Unit) => (match w with | .inl e0 => ((inR e0) → Zt l g φ mu_V_giveInstead 142 [some (vR g 255), some (vI x1), none, some (vI x3), some (vI x4), some (vI e0)] [] (z, I, J, G)) | .inr o0 => ((True) → Zt l g φ mu_V_giveInstead 192 [some (vR g 255), some (vI x1), none, some (vI x3), some (vI x4), none] [] (z, I, J, G)))) e)) (kS : ∀ s : Int, res = .inr s → (inR s) → Zt l g φ mu_V_giveInstead 101 [some (vR g 255), some (vI x1), none, some (vI x3), some (vI x4), some (vI s)] [] (z, I, J, G)) : Zt l g φ mu_V_giveInstead 101 [some (vR g 255), some (vI x1), none, some (vI x3), some (vI x4), some (vI x5)] [] (z, I, J, G) := by
  refine z_iload dX2_giveInstead_101 rfl ?_
  refine z_aload_n dX2_giveInstead_103 rfl ?_
  refine z_nm (fun hN18 => ?_)
  refine y_getI dX2_giveInstead_104 cl2 sh_255 (by decide) (Nat.le_trans (by decide) hz) 0 rfl rfl (fl_V_59) ?_
  refine z_icmp_ge (tgt := 192) dX2_giveInstead_107 (by decide) hx5 (hN18.1 255 0) (fun hc19 => ?_) (fun hc19 => ?_)
  · replace h := ifT hc19 h
    refine z_weak (L' := [some (vR g 255), some (vI x1), none, some (vI x3), some (vI x4), none]) (lsS (lsS (lsN (lsS (lsS (lsN ls0)))))) ?_
    exact kE _ (someE h).symm trivial
  replace h := ifF hc19 h
  refine z_aload_n dX2_giveInstead_110 rfl ?_
  refine y_getR dX2_giveInstead_111 cl2 sh_255 (by decide) (Nat.le_trans (by decide) hz) 10 rfl rfl (fl_V_38) (ly_255_10 hG) (by decide) ?_
  refine z_iload dX2_giveInstead_114 rfl ?_
  obtain ⟨hg20, h⟩ := guardE h
  refine y_iald dX2_giveInstead_116 sh_272 (by decide) (Nat.le_trans (by decide) hz) hx5 hg20 ?_
  refine z_bipush dX2_giveInstead_117 (by decide +kernel) ?_
  refine z_icmp_eq (tgt := 186) dX2_giveInstead_119 (by decide) (hN18.1 272 (x5).toNat) (inRd (x := (-3)) (by decide)) (fun hc21 => ?_) (fun hc21 => ?_)
  · replace h := ifT hc21 h
    refine z_iinc (L' := [some (vR g 255), some (vI x1), none, some (vI x3), some (vI x4), some (vI (w32 (x5 + 1)))]) dX2_giveInstead_186 rfl rfl rfl rfl ?_
    refine z_goto (tgt := 101) dX2_giveInstead_189 (by decide) ?_
    exact kS _ (someE h).symm (inR_w32 _)
  replace h := ifF hc21 h
  refine z_aload_n dX2_giveInstead_122 rfl ?_
  refine y_getR dX2_giveInstead_123 cl2 sh_255 (by decide) (Nat.le_trans (by decide) hz) 1 rfl rfl (fl_V_9) (ly_255_1 hG) (by decide) ?_
  refine z_iload dX2_giveInstead_126 rfl ?_
  refine y_iald dX2_giveInstead_128 sh_256 (by decide) (Nat.le_trans (by decide) hz) hx5 hg20 ?_
  refine z_aload_n dX2_giveInstead_129 rfl ?_
  refine y_getR dX2_giveInstead_130 cl2 sh_255 (by decide) (Nat.le_trans (by decide) hz) 1 rfl rfl (fl_V_9) (ly_255_1 hG) (by decide) ?_
  refine z_iload dX2_giveInstead_133 rfl ?_
  obtain ⟨hg22, h⟩ := guardE h
  refine y_iald dX2_giveInstead_135 sh_256 (by decide) (Nat.le_trans (by decide) hz) hx4 hg22 ?_
  refine z_icmp_eq (tgt := 142) dX2_giveInstead_136 (by decide) (hN18.1 256 (x5).toNat) (hN18.1 256 (x4).toNat) (fun hc23 => ?_) (fun hc23 => ?_)
  · replace h := ifT hc23 h
    exact kE _ (someE h).symm hx5
  replace h := ifF hc23 h
  refine z_goto (tgt := 186) dX2_giveInstead_139 (by decide) ?_
  refine z_iinc (L' := [some (vR g 255), some (vI x1), none, some (vI x3), some (vI x4), some (vI (w32 (x5 + 1)))]) dX2_giveInstead_186 rfl rfl rfl rfl ?_
  refine z_goto (tgt := 101) dX2_giveInstead_189 (by decide) ?_
  exact kS _ (someE h).symm (inR_w32 _)
theorem l_V_giveInstead_L101 {l : Launch} {g : GX} {φ : CX} {z : Nat} {G : Nat → Nat → Nat} {F : Nat} (hb : cb φ = z) (hz : 295 ≤ z) (hG : lyX G) {x1 : Int} {x3 : Int} {x4 : Int} {I : Nat → Nat → Int} {J : Nat → Nat → Int} (hx1 : inR x1) (hx3 : inR x3) (hx4 : inR x4) (n : Nat) (s : Int) (e : (Int) ⊕ (Unit)) (h : iter (fun s : Int => f_V_giveInstead_L101 F x1 x3 x4 s I) n s = some e) (hs : inR s) (k : ((fun w : (Int) ⊕ (Unit) => (match w with | .inl e0 => ((inR e0) → Zt l g φ mu_V_giveInstead 142 [some (vR g 255), some (vI x1), none, some (vI x3), some (vI x4), some (vI e0)] [] (z, I, J, G)) | .inr o0 => ((True) → Zt l g φ mu_V_giveInstead 192 [some (vR g 255), some (vI x1), none, some (vI x3), some (vI x4), none] [] (z, I, J, G)))) e)) : Zt l g φ mu_V_giveInstead 101 [some (vR g 255), some (vI x1), none, some (vI x3), some (vI x4), some (vI s)] [] (z, I, J, G) := by
  refine iter_ind (Z := fun s : Int => Zt l g φ mu_V_giveInstead 101 [some (vR g 255), some (vI x1), none, some (vI x3), some (vI x4), some (vI s)] [] (z, I, J, G)) (ZE := fun e : (Int) ⊕ (Unit) => ((fun w : (Int) ⊕ (Unit) => (match w with | .inl e0 => ((inR e0) → Zt l g φ mu_V_giveInstead 142 [some (vR g 255), some (vI x1), none, some (vI x3), some (vI x4), some (vI e0)] [] (z, I, J, G)) | .inr o0 => ((True) → Zt l g φ mu_V_giveInstead 192 [some (vR g 255), some (vI x1), none, some (vI x3), some (vI x4), none] [] (z, I, J, G)))) e)) (Rg := fun s : Int => inR s) ?_ n s e h hs k
  intro s r hr hst kE kS
  exact t_V_giveInstead_L101 hb hz hG hx1 hx3 hx4 hr hst kE kS
set_option maxHeartbeats 1000000 in
theorem t_V_giveInstead_L77 {l : Launch} {g : GX} {φ : CX} {z : Nat} {G : Nat → Nat → Nat} {F : Nat} (hb : cb φ = z) (hz : 295 ≤ z) (hG : lyX G) {x1 : Int} {x3 : Int} {x4 : Int} {I J : Nat → Nat → Int} (hx1 : inR x1) (hx3 : inR x3) (hx4 : inR x4) {res : ((Int × Int) ⊕ (Unit)) ⊕ (Int)} (h : f_V_giveInstead_L77 F x1 x3 x4 I = some res) (kE : ∀ e : (Int × Int) ⊕ (Unit), res = .inl e → ((fun w : (Int × Int) ⊕ (Unit) => (match w with | .inl e0 => ((inR e0.1 ∧ inR e0.2) → Zt l g φ mu_V_giveInstead 142 [some (vR g 255), some (vI x1), none, some (vI x3), some (vI e0.1), some (vI e0.2)] [] (z, I, J, G)) | .inr o0 => ((True) → Zt l g φ mu_V_giveInstead 198 [none, none, none, none, none, none] [] (z, I, J, G)))) e)) (kS : ∀ s : Int, res = .inr s → (inR s) → Zt l g φ mu_V_giveInstead 77 [some (vR g 255), some (vI x1), none, some (vI x3), some (vI s), none] [] (z, I, J, G)) : Zt l g φ mu_V_giveInstead 77 [some (vR g 255), some (vI x1), none, some (vI x3), some (vI x4), none] [] (z, I, J, G) := by
  refine z_iload dX2_giveInstead_77 rfl ?_
  refine z_aload_n dX2_giveInstead_79 rfl ?_
  refine z_nm (fun hN12 => ?_)
  refine y_getI dX2_giveInstead_80 cl2 sh_255 (by decide) (Nat.le_trans (by decide) hz) 0 rfl rfl (fl_V_59) ?_
  refine z_icmp_ge (tgt := 198) dX2_giveInstead_83 (by decide) hx4 (hN12.1 255 0) (fun hc13 => ?_) (fun hc13 => ?_)
  · replace h := ifT hc13 h
    refine z_weak (L' := [none, none, none, none, none, none]) (lsN (lsN (lsN (lsN (lsN (lsN ls0)))))) ?_
    exact kE _ (someE h).symm trivial
  replace h := ifF hc13 h
  refine z_aload_n dX2_giveInstead_86 rfl ?_
  refine z_iload dX2_giveInstead_87 rfl ?_
  obtain ⟨q14, hq15, h⟩ := bindE h
  refine z_callV (As := [vI x4]) (rest := []) (s_V_isFree hz hG hx4 hq15) dX2_giveInstead_89 mw_V_isFree cl2 sh_255 (by decide) (Nat.le_trans (by decide) hz) ml_V_119 im_V_isFree se_V_isFree rfl rfl rfl rfl (Nat.le_refl _) (Nat.le_of_eq hb.symm) (fun hp16 => ?_)
  show Zt _ _ _ _ 92 _ [vI q14] (z, I, J, G)
  refine z_if_ne (tgt := 98) dX2_giveInstead_92 (by decide) (inR_bool hp16) (fun hc17 => ?_) (fun hc17 => ?_)
  · replace h := ifT hc17 h
    refine z_iconst dX2_giveInstead_98 ?_
    refine z_istore (L' := [some (vR g 255), some (vI x1), none, some (vI x3), some (vI x4), some (vI 0)]) dX2_giveInstead_99 rfl rfl rfl ?_
    obtain ⟨e24, h25, h⟩ := bindE h
    rcases e24 with e26 | o27
    · refine l_V_giveInstead_L101 hb hz hG hx1 hx3 hx4 _ _ _ h25 (inRd (x := 0) (by decide)) ?_
      refine fun h28 => ?_
      exact kE _ (someE h).symm ⟨hx4, h28⟩
    refine l_V_giveInstead_L101 hb hz hG hx1 hx3 hx4 _ _ _ h25 (inRd (x := 0) (by decide)) ?_
    refine fun h29 => ?_
    refine z_iinc (L' := [some (vR g 255), some (vI x1), none, some (vI x3), some (vI (w32 (x4 + 1))), none]) dX2_giveInstead_192 rfl rfl rfl rfl ?_
    refine z_goto (tgt := 77) dX2_giveInstead_195 (by decide) ?_
    exact kS _ (someE h).symm (inR_w32 _)
  replace h := ifF (fun q => q hc17) h
  refine z_goto (tgt := 192) dX2_giveInstead_95 (by decide) ?_
  refine z_iinc (L' := [some (vR g 255), some (vI x1), none, some (vI x3), some (vI (w32 (x4 + 1))), none]) dX2_giveInstead_192 rfl rfl rfl rfl ?_
  refine z_goto (tgt := 77) dX2_giveInstead_195 (by decide) ?_
  exact kS _ (someE h).symm (inR_w32 _)
theorem l_V_giveInstead_L77 {l : Launch} {g : GX} {φ : CX} {z : Nat} {G : Nat → Nat → Nat} {F : Nat} (hb : cb φ = z) (hz : 295 ≤ z) (hG : lyX G) {x1 : Int} {x3 : Int} {I : Nat → Nat → Int} {J : Nat → Nat → Int} (hx1 : inR x1) (hx3 : inR x3) (n : Nat) (s : Int) (e : (Int × Int) ⊕ (Unit)) (h : iter (fun s : Int => f_V_giveInstead_L77 F x1 x3 s I) n s = some e) (hs : inR s) (k : ((fun w : (Int × Int) ⊕ (Unit) => (match w with | .inl e0 => ((inR e0.1 ∧ inR e0.2) → Zt l g φ mu_V_giveInstead 142 [some (vR g 255), some (vI x1), none, some (vI x3), some (vI e0.1), some (vI e0.2)] [] (z, I, J, G)) | .inr o0 => ((True) → Zt l g φ mu_V_giveInstead 198 [none, none, none, none, none, none] [] (z, I, J, G)))) e)) : Zt l g φ mu_V_giveInstead 77 [some (vR g 255), some (vI x1), none, some (vI x3), some (vI s), none] [] (z, I, J, G) := by
  refine iter_ind (Z := fun s : Int => Zt l g φ mu_V_giveInstead 77 [some (vR g 255), some (vI x1), none, some (vI x3), some (vI s), none] [] (z, I, J, G)) (ZE := fun e : (Int × Int) ⊕ (Unit) => ((fun w : (Int × Int) ⊕ (Unit) => (match w with | .inl e0 => ((inR e0.1 ∧ inR e0.2) → Zt l g φ mu_V_giveInstead 142 [some (vR g 255), some (vI x1), none, some (vI x3), some (vI e0.1), some (vI e0.2)] [] (z, I, J, G)) | .inr o0 => ((True) → Zt l g φ mu_V_giveInstead 198 [none, none, none, none, none, none] [] (z, I, J, G)))) e)) (Rg := fun s : Int => inR s) ?_ n s e h hs k
  intro s r hr hst kE kS
  exact t_V_giveInstead_L77 hb hz hG hx1 hx3 hr hst kE kS
set_option maxHeartbeats 1000000 in
theorem s_V_giveInstead {l : Launch} {g : GX} {z : Nat} {G : Nat → Nat → Nat} {F : Nat} (hz : 295 ≤ z) (hG : lyX G) {x1 : Int} {x2 : Int} {x3 : Int} {I J : Nat → Nat → Int} (hx1 : inR x1) (hx2 : inR x2) (hx3 : inR x3) {res : Int × MI} (h : f_V_giveInstead F x1 x2 x3 I = some res) : Spec l g 15 yX2_giveInstead cX2_giveInstead 6 (some .boolean) [vR g 255, vI x1, vI x2, vI x3] (z, I, J, G) (some (vI res.1)) (res.1 = 0 ∨ res.1 = 1) (z, res.2, J, G) := by
  refine spec_of (μ := mu_V_giveInstead) (k := 2) (L0 := [some (vR g 255), some (vI x1), some (vI x2), some (vI x3), none, none]) rfl mw_V_giveInstead rfl rfl (Nat.le_refl _) (fun φ hb hE => ?_)
  refine z_aload_n dX2_giveInstead_0 rfl ?_
  refine y_getR dX2_giveInstead_1 cl2 sh_255 (by decide) (Nat.le_trans (by decide) hz) 8 rfl rfl (fl_V_32) (ly_255_8 hG) (by decide) ?_
  refine z_bipush dX2_giveInstead_4 (by decide +kernel) ?_
  refine z_callS (As := [vR g 270, vI (-3)]) (rest := []) (s_fill sh_270 (by decide) (Nat.le_trans (by decide) hz) (inRd (x := (-3)) (by decide)) (by decide)) dX2_giveInstead_6 mw_fill (tin5 5 (by decide +kernel) rfl) st_fill rfl rfl rfl rfl (Nat.le_refl _) (Nat.le_of_eq hb.symm) (fun _ => ?_)
  show Zt _ _ _ _ 9 _ [] (z, (fillA I 270 8 (-3)), J, G)
  refine z_aload_n dX2_giveInstead_9 rfl ?_
  refine y_getR dX2_giveInstead_10 cl2 sh_255 (by decide) (Nat.le_trans (by decide) hz) 8 rfl rfl (fl_V_32) (ly_255_8 hG) (by decide) ?_
  refine z_iload_n dX2_giveInstead_13 rfl ?_
  refine z_bipush dX2_giveInstead_14 (by decide +kernel) ?_
  obtain ⟨hg1, h⟩ := guardE h
  refine y_iast dX2_giveInstead_16 sh_270 (by decide) (Nat.le_trans (by decide) hz) hx3 hg1 (inRd (x := (-2)) (by decide)) ?_
  refine z_aload_n dX2_giveInstead_17 rfl ?_
  refine y_getR dX2_giveInstead_18 cl2 sh_255 (by decide) (Nat.le_trans (by decide) hz) 12 rfl rfl (fl_V_44) (ly_255_12 hG) (by decide) ?_
  refine z_iconst dX2_giveInstead_21 ?_
  refine z_iload_n dX2_giveInstead_22 rfl ?_
  refine y_iast dX2_giveInstead_23 sh_274 (by decide) (Nat.le_trans (by decide) hz) (inRd (x := 0) (by decide)) (by decide) hx3 ?_
  refine z_aload_n dX2_giveInstead_24 rfl ?_
  refine z_iconst dX2_giveInstead_25 ?_
  refine z_iload_n dX2_giveInstead_26 rfl ?_
  refine z_iconst dX2_giveInstead_27 ?_
  refine z_iadd dX2_giveInstead_28 ?_
  refine z_aload_n dX2_giveInstead_29 rfl ?_
  refine z_nm (fun hN2 => ?_)
  refine y_getI dX2_giveInstead_30 cl2 sh_255 (by decide) (Nat.le_trans (by decide) hz) 5 rfl rfl (fl_V_78) ?_
  obtain ⟨q3, hq4, h⟩ := bindE h
  refine z_callV (As := [vI 1, vI (w32 (x1 + 1)), vI ((up2 (up2 (fillA I 270 8 (-3)) 270 (x3).toNat (-2)) 274 0 x3) 255 5)]) (rest := []) (s_V_spread hz hG (inRd (x := 1) (by decide)) (inR_w32 _) (hN2.1 255 5) hq4) dX2_giveInstead_33 mw_V_spread cl2 sh_255 (by decide) (Nat.le_trans (by decide) hz) ml_V_108 im_V_spread se_V_spread rfl rfl rfl rfl (Nat.le_refl _) (Nat.le_of_eq hb.symm) (fun hp5 => ?_)
  show Zt _ _ _ _ 36 _ [] (z, q3, J, G)
  refine z_aload_n dX2_giveInstead_36 rfl ?_
  refine y_getR dX2_giveInstead_37 cl2 sh_255 (by decide) (Nat.le_trans (by decide) hz) 8 rfl rfl (fl_V_32) (ly_255_8 hG) (by decide) ?_
  refine z_iload_n dX2_giveInstead_40 rfl ?_
  obtain ⟨hg6, h⟩ := guardE h
  refine z_nm (fun hN7 => ?_)
  refine y_iald dX2_giveInstead_41 sh_270 (by decide) (Nat.le_trans (by decide) hz) hx2 hg6 ?_
  refine z_bipush dX2_giveInstead_42 (by decide +kernel) ?_
  refine z_icmp_eq (tgt := 62) dX2_giveInstead_44 (by decide) (hN7.1 270 (x2).toNat) (inRd (x := (-3)) (by decide)) (fun hc8 => ?_) (fun hc8 => ?_)
  · replace h := ifT hc8 h
    refine z_aload_n dX2_giveInstead_62 rfl ?_
    refine z_iload_n dX2_giveInstead_63 rfl ?_
    refine z_iload_n dX2_giveInstead_64 rfl ?_
    refine z_iconst dX2_giveInstead_65 ?_
    refine z_iadd dX2_giveInstead_66 ?_
    refine z_aload_n dX2_giveInstead_67 rfl ?_
    refine y_getI dX2_giveInstead_68 cl2 sh_255 (by decide) (Nat.le_trans (by decide) hz) 5 rfl rfl (fl_V_78) ?_
    obtain ⟨q9, hq10, h⟩ := bindE h
    refine z_callV (As := [vI x2, vI (w32 (x1 + 1)), vI (q3 255 5)]) (rest := []) (s_V_spreadBack hz hG hx2 (inR_w32 _) (hN7.1 255 5) hq10) dX2_giveInstead_71 mw_V_spreadBack cl2 sh_255 (by decide) (Nat.le_trans (by decide) hz) ml_V_126 im_V_spreadBack se_V_spreadBack rfl rfl rfl rfl (Nat.le_refl _) (Nat.le_of_eq hb.symm) (fun hp11 => ?_)
    show Zt _ _ _ _ 74 _ [] (z, q9, J, G)
    refine z_iconst dX2_giveInstead_74 ?_
    refine z_istore (L' := [some (vR g 255), some (vI x1), some (vI x2), some (vI x3), some (vI 0), none]) dX2_giveInstead_75 rfl rfl rfl ?_
    refine z_weak (L' := [some (vR g 255), some (vI x1), none, some (vI x3), some (vI 0), none]) (lsS (lsS (lsN (lsS (lsS (lsN ls0)))))) ?_
    obtain ⟨e30, h31, h⟩ := bindE h
    rcases e30 with e32 | o33
    · refine l_V_giveInstead_L77 hb hz hG hx1 hx3 _ _ _ h31 (inRd (x := 0) (by decide)) ?_
      refine fun h34 => ?_
      refine z_aload_n dX2_giveInstead_142 rfl ?_
      refine z_iload dX2_giveInstead_143 rfl ?_
      obtain ⟨q35, hq36, h⟩ := bindE h
      refine z_callV (As := [vI e32.1]) (rest := []) (s_V_passOn hz hG h34.1 hq36) dX2_giveInstead_145 mw_V_passOn cl2 sh_255 (by decide) (Nat.le_trans (by decide) hz) ml_V_115 im_V_passOn se_V_passOn rfl rfl rfl rfl (Nat.le_refl _) (Nat.le_of_eq hb.symm) (fun hp37 => ?_)
      show Zt _ _ _ _ 148 _ [vI q35.1] (z, q35.2, J, G)
      refine z_pop dX2_giveInstead_148 rfl ?_
      refine z_aload_n dX2_giveInstead_149 rfl ?_
      refine z_iload dX2_giveInstead_150 rfl ?_
      obtain ⟨q38, hq39, h⟩ := bindE h
      refine z_callV (As := [vI e32.2]) (rest := []) (s_V_handOn hz hG h34.2 hq39) dX2_giveInstead_152 mw_V_handOn cl2 sh_255 (by decide) (Nat.le_trans (by decide) hz) ml_V_129 im_V_handOn se_V_handOn rfl rfl rfl rfl (Nat.le_refl _) (Nat.le_of_eq hb.symm) (fun hp40 => ?_)
      show Zt _ _ _ _ 155 _ [] (z, q38, J, G)
      refine z_aload_n dX2_giveInstead_155 rfl ?_
      refine y_getR dX2_giveInstead_156 cl2 sh_255 (by decide) (Nat.le_trans (by decide) hz) 4 rfl rfl (fl_V_23) (ly_255_4 hG) (by decide) ?_
      refine z_iload_n dX2_giveInstead_159 rfl ?_
      refine z_iload_n dX2_giveInstead_160 rfl ?_
      obtain ⟨hg41, h⟩ := guardE h
      refine y_iast dX2_giveInstead_161 sh_267 (by decide) (Nat.le_trans (by decide) hz) hx1 hg41 hx3 ?_
      refine z_aload_n dX2_giveInstead_162 rfl ?_
      refine y_getR dX2_giveInstead_163 cl2 sh_255 (by decide) (Nat.le_trans (by decide) hz) 7 rfl rfl (fl_V_29) (ly_255_7 hG) (by decide) ?_
      refine z_iload dX2_giveInstead_166 rfl ?_
      refine z_dup2 dX2_giveInstead_168 rfl rfl ?_
      obtain ⟨hg42, h⟩ := guardE h
      refine z_nm (fun hN43 => ?_)
      refine y_iald dX2_giveInstead_169 sh_269 (by decide) (Nat.le_trans (by decide) hz) h34.1 hg42 ?_
      refine z_iconst dX2_giveInstead_170 ?_
      refine z_iadd dX2_giveInstead_171 ?_
      refine y_iast dX2_giveInstead_172 sh_269 (by decide) (Nat.le_trans (by decide) hz) h34.1 hg42 (inR_w32 _) ?_
      refine z_aload_n dX2_giveInstead_173 rfl ?_
      refine y_getR dX2_giveInstead_174 cl2 sh_255 (by decide) (Nat.le_trans (by decide) hz) 7 rfl rfl (fl_V_29) (ly_255_7 hG) (by decide) ?_
      refine z_iload dX2_giveInstead_177 rfl ?_
      refine z_dup2 dX2_giveInstead_179 rfl rfl ?_
      obtain ⟨hg44, h⟩ := guardE h
      refine z_nm (fun hN45 => ?_)
      refine y_iald dX2_giveInstead_180 sh_269 (by decide) (Nat.le_trans (by decide) hz) h34.2 hg44 ?_
      refine z_iconst dX2_giveInstead_181 ?_
      refine z_isub dX2_giveInstead_182 ?_
      refine y_iast dX2_giveInstead_183 sh_269 (by decide) (Nat.le_trans (by decide) hz) h34.2 hg44 (inR_w32 _) ?_
      refine z_iconst dX2_giveInstead_184 ?_
      obtain rfl := someE h
      exact z_zret dX2_giveInstead_185 hE b01_1 b01_1 rfl
    refine l_V_giveInstead_L77 hb hz hG hx1 hx3 _ _ _ h31 (inRd (x := 0) (by decide)) ?_
    refine fun h46 => ?_
    refine z_iconst dX2_giveInstead_198 ?_
    obtain rfl := someE h
    exact z_zret dX2_giveInstead_199 hE b01_0 b01_0 rfl
  replace h := ifF hc8 h
  refine z_aload_n dX2_giveInstead_47 rfl ?_
  refine z_iload_n dX2_giveInstead_48 rfl ?_
  obtain ⟨q47, hq48, h⟩ := bindE h
  refine z_callV (As := [vI x2]) (rest := []) (s_V_passOn hz hG hx2 hq48) dX2_giveInstead_49 mw_V_passOn cl2 sh_255 (by decide) (Nat.le_trans (by decide) hz) ml_V_115 im_V_passOn se_V_passOn rfl rfl rfl rfl (Nat.le_refl _) (Nat.le_of_eq hb.symm) (fun hp49 => ?_)
  show Zt _ _ _ _ 52 _ [vI q47.1] (z, q47.2, J, G)
  refine z_pop dX2_giveInstead_52 rfl ?_
  refine z_aload_n dX2_giveInstead_53 rfl ?_
  refine y_getR dX2_giveInstead_54 cl2 sh_255 (by decide) (Nat.le_trans (by decide) hz) 4 rfl rfl (fl_V_23) (ly_255_4 hG) (by decide) ?_
  refine z_iload_n dX2_giveInstead_57 rfl ?_
  refine z_iload_n dX2_giveInstead_58 rfl ?_
  obtain ⟨hg50, h⟩ := guardE h
  refine y_iast dX2_giveInstead_59 sh_267 (by decide) (Nat.le_trans (by decide) hz) hx1 hg50 hx3 ?_
  refine z_iconst dX2_giveInstead_60 ?_
  obtain rfl := someE h
  exact z_zret dX2_giveInstead_61 hE b01_1 b01_1 rfl
set_option maxHeartbeats 1000000 in
theorem t_V_giveByFirst_L9 {l : Launch} {g : GX} {φ : CX} {z : Nat} {G : Nat → Nat → Nat} {F : Nat} (hb : cb φ = z) (hz : 295 ≤ z) (hG : lyX G) {x1 : Int} {x2 : Int} {x3 : Int} {I J : Nat → Nat → Int} (hx1 : inR x1) (hx2 : inR x2) (hx3 : inR x3) {res : ((MI) ⊕ (MI)) ⊕ (Int × MI)} (h : f_V_giveByFirst_L9 F x1 x2 x3 I = some res) (kE : ∀ e : (MI) ⊕ (MI), res = .inl e → ((fun w : (MI) ⊕ (MI) => (match w with | .inl e0 => ((True) → Zt l g φ mu_V_giveByFirst 33 [none, none, none, none] [] (z, e0, J, G)) | .inr o0 => ((True) → Zt l g φ mu_V_giveByFirst 40 [none, none, none, none] [] (z, o0, J, G)))) e)) (kS : ∀ s : Int × MI, res = .inr s → (inR s.1) → Zt l g φ mu_V_giveByFirst 9 [some (vR g 255), some (vI x1), some (vI x2), some (vI s.1)] [] (z, s.2, J, G)) : Zt l g φ mu_V_giveByFirst 9 [some (vR g 255), some (vI x1), some (vI x2), some (vI x3)] [] (z, I, J, G) := by
  refine z_iload_n dX2_giveByFirst_9 rfl ?_
  refine z_iload_n dX2_giveByFirst_10 rfl ?_
  refine z_icmp_ge (tgt := 40) dX2_giveByFirst_11 (by decide) hx3 hx2 (fun hc3 => ?_) (fun hc3 => ?_)
  · replace h := ifT hc3 h
    refine z_weak (L' := [none, none, none, none]) (lsN (lsN (lsN (lsN ls0)))) ?_
    exact kE _ (someE h).symm trivial
  replace h := ifF hc3 h
  refine z_aload_n dX2_giveByFirst_14 rfl ?_
  refine z_iload_n dX2_giveByFirst_15 rfl ?_
  refine z_iload_n dX2_giveByFirst_16 rfl ?_
  obtain ⟨q4, hq5, h⟩ := bindE h
  refine z_callV (As := [vI x1, vI x3]) (rest := []) (s_V_canGive hz hG hx1 hx3 hq5) dX2_giveByFirst_17 mw_V_canGive cl2 sh_255 (by decide) (Nat.le_trans (by decide) hz) ml_V_104 im_V_canGive se_V_canGive rfl rfl rfl rfl (Nat.le_refl _) (Nat.le_of_eq hb.symm) (fun hp6 => ?_)
  show Zt _ _ _ _ 20 _ [vI q4] (z, I, J, G)
  refine z_if_eq (tgt := 34) dX2_giveByFirst_20 (by decide) (inR_bool hp6) (fun hc7 => ?_) (fun hc7 => ?_)
  · replace h := ifT hc7 h
    refine z_iinc (L' := [some (vR g 255), some (vI x1), some (vI x2), some (vI (w32 (x3 + 1)))]) dX2_giveByFirst_34 rfl rfl rfl rfl ?_
    refine z_goto (tgt := 9) dX2_giveByFirst_37 (by decide) ?_
    exact kS _ (someE h).symm (inR_w32 _)
  replace h := ifF hc7 h
  refine z_aload_n dX2_giveByFirst_23 rfl ?_
  refine z_iload_n dX2_giveByFirst_24 rfl ?_
  refine z_iload_n dX2_giveByFirst_25 rfl ?_
  refine z_iload_n dX2_giveByFirst_26 rfl ?_
  obtain ⟨q8, hq9, h⟩ := bindE h
  refine z_callV (As := [vI x1, vI x2, vI x3]) (rest := []) (s_V_giveInstead hz hG hx1 hx2 hx3 hq9) dX2_giveByFirst_27 mw_V_giveInstead cl2 sh_255 (by decide) (Nat.le_trans (by decide) hz) ml_V_122 im_V_giveInstead se_V_giveInstead rfl rfl rfl rfl (Nat.le_refl _) (Nat.le_of_eq hb.symm) (fun hp10 => ?_)
  show Zt _ _ _ _ 30 _ [vI q8.1] (z, q8.2, J, G)
  refine z_if_eq (tgt := 34) dX2_giveByFirst_30 (by decide) (inR_bool hp10) (fun hc11 => ?_) (fun hc11 => ?_)
  · replace h := ifT hc11 h
    refine z_iinc (L' := [some (vR g 255), some (vI x1), some (vI x2), some (vI (w32 (x3 + 1)))]) dX2_giveByFirst_34 rfl rfl rfl rfl ?_
    refine z_goto (tgt := 9) dX2_giveByFirst_37 (by decide) ?_
    exact kS _ (someE h).symm (inR_w32 _)
  replace h := ifF hc11 h
  refine z_weak (L' := [none, none, none, none]) (lsN (lsN (lsN (lsN ls0)))) ?_
  exact kE _ (someE h).symm trivial
theorem l_V_giveByFirst_L9 {l : Launch} {g : GX} {φ : CX} {z : Nat} {G : Nat → Nat → Nat} {F : Nat} (hb : cb φ = z) (hz : 295 ≤ z) (hG : lyX G) {x1 : Int} {x2 : Int} {J : Nat → Nat → Int} (hx1 : inR x1) (hx2 : inR x2) (n : Nat) (s : Int × MI) (e : (MI) ⊕ (MI)) (h : iter (fun s : Int × MI => f_V_giveByFirst_L9 F x1 x2 s.1 s.2) n s = some e) (hs : inR s.1) (k : ((fun w : (MI) ⊕ (MI) => (match w with | .inl e0 => ((True) → Zt l g φ mu_V_giveByFirst 33 [none, none, none, none] [] (z, e0, J, G)) | .inr o0 => ((True) → Zt l g φ mu_V_giveByFirst 40 [none, none, none, none] [] (z, o0, J, G)))) e)) : Zt l g φ mu_V_giveByFirst 9 [some (vR g 255), some (vI x1), some (vI x2), some (vI s.1)] [] (z, s.2, J, G) := by
  refine iter_ind (Z := fun s : Int × MI => Zt l g φ mu_V_giveByFirst 9 [some (vR g 255), some (vI x1), some (vI x2), some (vI s.1)] [] (z, s.2, J, G)) (ZE := fun e : (MI) ⊕ (MI) => ((fun w : (MI) ⊕ (MI) => (match w with | .inl e0 => ((True) → Zt l g φ mu_V_giveByFirst 33 [none, none, none, none] [] (z, e0, J, G)) | .inr o0 => ((True) → Zt l g φ mu_V_giveByFirst 40 [none, none, none, none] [] (z, o0, J, G)))) e)) (Rg := fun s : Int × MI => inR s.1) ?_ n s e h hs k
  intro s r hr hst kE kS
  exact t_V_giveByFirst_L9 hb hz hG hx1 hx2 hr hst kE kS
set_option maxHeartbeats 1000000 in
theorem s_V_giveByFirst {l : Launch} {g : GX} {z : Nat} {G : Nat → Nat → Nat} {F : Nat} (hz : 295 ≤ z) (hG : lyX G) {x1 : Int} {I J : Nat → Nat → Int} (hx1 : inR x1) {res : MI} (h : f_V_giveByFirst F x1 I = some res) : Spec l g 16 yX2_giveByFirst cX2_giveByFirst 4 none [vR g 255, vI x1] (z, I, J, G) none True (z, res, J, G) := by
  refine spec_of (μ := mu_V_giveByFirst) (k := 2) (L0 := [some (vR g 255), some (vI x1), none, none]) rfl mw_V_giveByFirst rfl rfl (Nat.le_refl _) (fun φ hb hE => ?_)
  refine z_aload_n dX2_giveByFirst_0 rfl ?_
  refine y_getR dX2_giveByFirst_1 cl2 sh_255 (by decide) (Nat.le_trans (by decide) hz) 4 rfl rfl (fl_V_23) (ly_255_4 hG) (by decide) ?_
  refine z_iload_n dX2_giveByFirst_4 rfl ?_
  obtain ⟨hg1, h⟩ := guardE h
  refine z_nm (fun hN2 => ?_)
  refine y_iald dX2_giveByFirst_5 sh_267 (by decide) (Nat.le_trans (by decide) hz) hx1 hg1 ?_
  refine z_istore_n (L' := [some (vR g 255), some (vI x1), some (vI (I 267 (x1).toNat)), none]) dX2_giveByFirst_6 rfl rfl rfl ?_
  refine z_iconst dX2_giveByFirst_7 ?_
  refine z_istore_n (L' := [some (vR g 255), some (vI x1), some (vI (I 267 (x1).toNat)), some (vI 0)]) dX2_giveByFirst_8 rfl rfl rfl ?_
  obtain ⟨e12, h13, h⟩ := bindE h
  rcases e12 with e14 | o15
  · refine l_V_giveByFirst_L9 hb hz hG hx1 (hN2.1 267 (x1).toNat) _ _ _ h13 (inRd (x := 0) (by decide)) ?_
    refine fun h16 => ?_
    obtain rfl := someE h
    exact z_vret dX2_giveByFirst_33 hE trivial rfl
  refine l_V_giveByFirst_L9 hb hz hG hx1 (hN2.1 267 (x1).toNat) _ _ _ h13 (inRd (x := 0) (by decide)) ?_
  refine fun h17 => ?_
  obtain rfl := someE h
  exact z_vret dX2_giveByFirst_40 hE trivial rfl
set_option maxHeartbeats 1000000 in
theorem t_V_listNeeds_L25 {l : Launch} {g : GX} {φ : CX} {z : Nat} {G : Nat → Nat → Nat} {F : Nat} (hb : cb φ = z) (hz : 295 ≤ z) (hG : lyX G) {x2 : Int} {x3 : Int} {x4 : Int} {I J : Nat → Nat → Int} (hx2 : inR x2) (hx3 : inR x3) (hx4 : inR x4) {res : (MI) ⊕ (Int × MI)} (h : f_V_listNeeds_L25 F x2 x3 x4 I = some res) (kE : ∀ e : MI, res = .inl e → ((True) → Zt l g φ mu_V_listNeeds 81 [some (vR g 255), some (vR g 244), some (vI x2), none, none] [] (z, e, J, G))) (kS : ∀ s : Int × MI, res = .inr s → (inR s.1) → Zt l g φ mu_V_listNeeds 25 [some (vR g 255), some (vR g 244), some (vI x2), some (vI x3), some (vI s.1)] [] (z, s.2, J, G)) : Zt l g φ mu_V_listNeeds 25 [some (vR g 255), some (vR g 244), some (vI x2), some (vI x3), some (vI x4)] [] (z, I, J, G) := by
  refine z_iload dX2_listNeeds_25 rfl ?_
  refine z_aload_n dX2_listNeeds_27 rfl ?_
  refine y_getNR (host := "FarewellStones") dX2_listNeeds_28 cl9 sh_244 (by decide) (Nat.le_trans (by decide) hz) 0 rfl rfl (flN_V_95) (ly_244_0 hG) (by decide) ?_
  refine z_iload_n dX2_listNeeds_31 rfl ?_
  obtain ⟨hg4, h⟩ := guardE h
  refine z_nm (fun hN5 => ?_)
  refine y_iald dX2_listNeeds_32 sh_245 (by decide) (Nat.le_trans (by decide) hz) hx3 hg4 ?_
  refine z_icmp_ge (tgt := 81) dX2_listNeeds_33 (by decide) hx4 (hN5.1 245 (x3).toNat) (fun hc6 => ?_) (fun hc6 => ?_)
  · replace h := ifT hc6 h
    refine z_weak (L' := [some (vR g 255), some (vR g 244), some (vI x2), none, none]) (lsS (lsS (lsS (lsN (lsN ls0))))) ?_
    exact kE _ (someE h).symm trivial
  replace h := ifF hc6 h
  refine z_aload_n dX2_listNeeds_36 rfl ?_
  refine y_getI dX2_listNeeds_37 cl2 sh_255 (by decide) (Nat.le_trans (by decide) hz) 5 rfl rfl (fl_V_78) ?_
  refine z_bipush dX2_listNeeds_40 (by decide +kernel) ?_
  refine z_icmp_ge (tgt := 81) dX2_listNeeds_42 (by decide) (hN5.1 255 5) (inRd (x := 72) (by decide)) (fun hc7 => ?_) (fun hc7 => ?_)
  · replace h := ifT hc7 h
    refine z_weak (L' := [some (vR g 255), some (vR g 244), some (vI x2), none, none]) (lsS (lsS (lsS (lsN (lsN ls0))))) ?_
    exact kE _ (someE h).symm trivial
  replace h := ifF hc7 h
  refine z_aload_n dX2_listNeeds_45 rfl ?_
  refine y_getR dX2_listNeeds_46 cl2 sh_255 (by decide) (Nat.le_trans (by decide) hz) 3 rfl rfl (fl_V_20) (ly_255_3 hG) (by decide) ?_
  refine z_aload_n dX2_listNeeds_49 rfl ?_
  refine y_getI dX2_listNeeds_50 cl2 sh_255 (by decide) (Nat.le_trans (by decide) hz) 5 rfl rfl (fl_V_78) ?_
  refine z_iload_n dX2_listNeeds_53 rfl ?_
  obtain ⟨hg8, h⟩ := guardE h
  refine y_iast dX2_listNeeds_54 sh_266 (by decide) (Nat.le_trans (by decide) hz) (hN5.1 255 5) hg8 hx3 ?_
  refine z_aload_n dX2_listNeeds_55 rfl ?_
  refine y_getR dX2_listNeeds_56 cl2 sh_255 (by decide) (Nat.le_trans (by decide) hz) 4 rfl rfl (fl_V_23) (ly_255_4 hG) (by decide) ?_
  refine z_aload_n dX2_listNeeds_59 rfl ?_
  refine z_nm (fun hN9 => ?_)
  refine y_getI dX2_listNeeds_60 cl2 sh_255 (by decide) (Nat.le_trans (by decide) hz) 5 rfl rfl (fl_V_78) ?_
  refine z_iconst dX2_listNeeds_63 ?_
  obtain ⟨hg10, h⟩ := guardE h
  refine y_iast dX2_listNeeds_64 sh_267 (by decide) (Nat.le_trans (by decide) hz) (hN9.1 255 5) hg10 (inRd (x := (-1)) (by decide)) ?_
  refine z_aload_n dX2_listNeeds_65 rfl ?_
  refine z_dup dX2_listNeeds_66 rfl ?_
  refine z_nm (fun hN11 => ?_)
  refine y_getI dX2_listNeeds_67 cl2 sh_255 (by decide) (Nat.le_trans (by decide) hz) 5 rfl rfl (fl_V_78) ?_
  refine z_iconst dX2_listNeeds_70 ?_
  refine z_iadd dX2_listNeeds_71 ?_
  refine y_putI dX2_listNeeds_72 cl2 sh_255 (by decide) (Nat.le_trans (by decide) hz) 5 rfl rfl rfl (fl_V_78) rfl rfl (inR_w32 _) ?_
  refine z_iinc (L' := [some (vR g 255), some (vR g 244), some (vI x2), some (vI x3), some (vI (w32 (x4 + 1)))]) dX2_listNeeds_75 rfl rfl rfl rfl ?_
  refine z_goto (tgt := 25) dX2_listNeeds_78 (by decide) ?_
  exact kS _ (someE h).symm (inR_w32 _)
theorem l_V_listNeeds_L25 {l : Launch} {g : GX} {φ : CX} {z : Nat} {G : Nat → Nat → Nat} {F : Nat} (hb : cb φ = z) (hz : 295 ≤ z) (hG : lyX G) {x2 : Int} {x3 : Int} {J : Nat → Nat → Int} (hx2 : inR x2) (hx3 : inR x3) (n : Nat) (s : Int × MI) (e : MI) (h : iter (fun s : Int × MI => f_V_listNeeds_L25 F x2 x3 s.1 s.2) n s = some e) (hs : inR s.1) (k : ((True) → Zt l g φ mu_V_listNeeds 81 [some (vR g 255), some (vR g 244), some (vI x2), none, none] [] (z, e, J, G))) : Zt l g φ mu_V_listNeeds 25 [some (vR g 255), some (vR g 244), some (vI x2), some (vI x3), some (vI s.1)] [] (z, s.2, J, G) := by
  refine iter_ind (Z := fun s : Int × MI => Zt l g φ mu_V_listNeeds 25 [some (vR g 255), some (vR g 244), some (vI x2), some (vI x3), some (vI s.1)] [] (z, s.2, J, G)) (ZE := fun e : MI => ((True) → Zt l g φ mu_V_listNeeds 81 [some (vR g 255), some (vR g 244), some (vI x2), none, none] [] (z, e, J, G))) (Rg := fun s : Int × MI => inR s.1) ?_ n s e h hs k
  intro s r hr hst kE kS
  exact t_V_listNeeds_L25 hb hz hG hx2 hx3 hr hst kE kS
set_option maxHeartbeats 1000000 in
theorem t_V_listNeeds_L7 {l : Launch} {g : GX} {φ : CX} {z : Nat} {G : Nat → Nat → Nat} {F : Nat} (hb : cb φ = z) (hz : 295 ≤ z) (hG : lyX G) {x2 : Int} {I J : Nat → Nat → Int} (hx2 : inR x2) {res : (MI) ⊕ (Int × MI)} (h : f_V_listNeeds_L7 F x2 I = some res) (kE : ∀ e : MI, res = .inl e → ((True) → Zt l g φ mu_V_listNeeds 87 [none, none, none, none, none] [] (z, e, J, G))) (kS : ∀ s : Int × MI, res = .inr s → (inR s.1) → Zt l g φ mu_V_listNeeds 7 [some (vR g 255), some (vR g 244), some (vI s.1), none, none] [] (z, s.2, J, G)) : Zt l g φ mu_V_listNeeds 7 [some (vR g 255), some (vR g 244), some (vI x2), none, none] [] (z, I, J, G) := by
  refine z_iload_n dX2_listNeeds_7 rfl ?_
  refine z_aload_n dX2_listNeeds_8 rfl ?_
  refine z_nm (fun hN1 => ?_)
  refine y_getNI (host := "FarewellStones") dX2_listNeeds_9 cl9 sh_244 (by decide) (Nat.le_trans (by decide) hz) 2 rfl rfl (flN_V_89) ?_
  refine z_icmp_ge (tgt := 87) dX2_listNeeds_12 (by decide) hx2 (hN1.1 244 2) (fun hc2 => ?_) (fun hc2 => ?_)
  · replace h := ifT hc2 h
    refine z_weak (L' := [none, none, none, none, none]) (lsN (lsN (lsN (lsN (lsN ls0))))) ?_
    exact kE _ (someE h).symm trivial
  replace h := ifF hc2 h
  refine z_aload_n dX2_listNeeds_15 rfl ?_
  refine y_getNR (host := "FarewellStones") dX2_listNeeds_16 cl9 sh_244 (by decide) (Nat.le_trans (by decide) hz) 1 rfl rfl (flN_V_92) (ly_244_1 hG) (by decide) ?_
  refine z_iload_n dX2_listNeeds_19 rfl ?_
  obtain ⟨hg3, h⟩ := guardE h
  refine y_iald dX2_listNeeds_20 sh_246 (by decide) (Nat.le_trans (by decide) hz) hx2 hg3 ?_
  refine z_istore_n (L' := [some (vR g 255), some (vR g 244), some (vI x2), some (vI (I 246 (x2).toNat)), none]) dX2_listNeeds_21 rfl rfl rfl ?_
  refine z_iconst dX2_listNeeds_22 ?_
  refine z_istore (L' := [some (vR g 255), some (vR g 244), some (vI x2), some (vI (I 246 (x2).toNat)), some (vI 0)]) dX2_listNeeds_23 rfl rfl rfl ?_
  obtain ⟨e12, h13, h⟩ := bindE h
  refine l_V_listNeeds_L25 hb hz hG hx2 (hN1.1 246 (x2).toNat) _ _ _ h13 (inRd (x := 0) (by decide)) ?_
  refine fun h14 => ?_
  refine z_iinc (L' := [some (vR g 255), some (vR g 244), some (vI (w32 (x2 + 1))), none, none]) dX2_listNeeds_81 rfl rfl rfl rfl ?_
  refine z_goto (tgt := 7) dX2_listNeeds_84 (by decide) ?_
  exact kS _ (someE h).symm (inR_w32 _)
theorem l_V_listNeeds_L7 {l : Launch} {g : GX} {φ : CX} {z : Nat} {G : Nat → Nat → Nat} {F : Nat} (hb : cb φ = z) (hz : 295 ≤ z) (hG : lyX G) {J : Nat → Nat → Int} (n : Nat) (s : Int × MI) (e : MI) (h : iter (fun s : Int × MI => f_V_listNeeds_L7 F s.1 s.2) n s = some e) (hs : inR s.1) (k : ((True) → Zt l g φ mu_V_listNeeds 87 [none, none, none, none, none] [] (z, e, J, G))) : Zt l g φ mu_V_listNeeds 7 [some (vR g 255), some (vR g 244), some (vI s.1), none, none] [] (z, s.2, J, G) := by
  refine iter_ind (Z := fun s : Int × MI => Zt l g φ mu_V_listNeeds 7 [some (vR g 255), some (vR g 244), some (vI s.1), none, none] [] (z, s.2, J, G)) (ZE := fun e : MI => ((True) → Zt l g φ mu_V_listNeeds 87 [none, none, none, none, none] [] (z, e, J, G))) (Rg := fun s : Int × MI => inR s.1) ?_ n s e h hs k
  intro s r hr hst kE kS
  exact t_V_listNeeds_L7 hb hz hG hr hst kE kS
set_option maxHeartbeats 1000000 in
theorem s_V_listNeeds {l : Launch} {g : GX} {z : Nat} {G : Nat → Nat → Nat} {F : Nat} (hz : 295 ≤ z) (hG : lyX G) {I J : Nat → Nat → Int} {res : MI} (h : f_V_listNeeds F I = some res) : Spec l g 0 yX2_listNeeds cX2_listNeeds 5 none [vR g 255, vR g 244] (z, I, J, G) none True (z, res, J, G) := by
  refine spec_of (μ := mu_V_listNeeds) (k := 3) (L0 := [some (vR g 255), some (vR g 244), none, none, none]) rfl mw_V_listNeeds rfl rfl (Nat.le_refl _) (fun φ hb hE => ?_)
  refine z_aload_n dX2_listNeeds_0 rfl ?_
  refine z_iconst dX2_listNeeds_1 ?_
  refine y_putI dX2_listNeeds_2 cl2 sh_255 (by decide) (Nat.le_trans (by decide) hz) 5 rfl rfl rfl (fl_V_78) rfl rfl (inRd (x := 0) (by decide)) ?_
  refine z_iconst dX2_listNeeds_5 ?_
  refine z_istore_n (L' := [some (vR g 255), some (vR g 244), some (vI 0), none, none]) dX2_listNeeds_6 rfl rfl rfl ?_
  obtain ⟨e15, h16, h⟩ := bindE h
  refine l_V_listNeeds_L7 hb hz hG  _ _ _ h16 (inRd (x := 0) (by decide)) ?_
  refine fun h17 => ?_
  obtain rfl := someE h
  exact z_vret dX2_listNeeds_87 hE trivial rfl
set_option maxHeartbeats 1000000 in
theorem t_Y_sum_L4 {l : Launch} {g : GX} {φ : CX} {z : Nat} {G : Nat → Nat → Nat} {F : Nat} (hb : cb φ = z) (hz : 295 ≤ z) (hG : lyX G) {x1 : Int} {x2 : Int} {I J : Nat → Nat → Int} (hx1 : inR x1) (hx2 : inR x2) {res : (Int) ⊕ (Int × Int)} (h : f_Y_sum_L4 F x1 x2 I = some res) (kE : ∀ e : Int, res = .inl e → ((inR e) → Zt l g φ mu_Y_sum 32 [none, some (vI e), none] [] (z, I, J, G))) (kS : ∀ s : Int × Int, res = .inr s → (inR s.1 ∧ inR s.2) → Zt l g φ mu_Y_sum 4 [some (vR g 244), some (vI s.1), some (vI s.2)] [] (z, I, J, G)) : Zt l g φ mu_Y_sum 4 [some (vR g 244), some (vI x1), some (vI x2)] [] (z, I, J, G) := by
  refine z_iload_n dX9_sum_4 rfl ?_
  refine z_aload_n dX9_sum_5 rfl ?_
  refine z_nm (fun hN1 => ?_)
  refine y_getI dX9_sum_6 cl9 sh_244 (by decide) (Nat.le_trans (by decide) hz) 2 rfl rfl (fl_Y_28) ?_
  refine z_icmp_ge (tgt := 32) dX9_sum_9 (by decide) hx2 (hN1.1 244 2) (fun hc2 => ?_) (fun hc2 => ?_)
  · replace h := ifT hc2 h
    refine z_weak (L' := [none, some (vI x1), none]) (lsN (lsS (lsN ls0))) ?_
    exact kE _ (someE h).symm hx1
  replace h := ifF hc2 h
  refine z_iload_n dX9_sum_12 rfl ?_
  refine z_aload_n dX9_sum_13 rfl ?_
  refine y_getR dX9_sum_14 cl9 sh_244 (by decide) (Nat.le_trans (by decide) hz) 0 rfl rfl (fl_Y_9) (ly_244_0 hG) (by decide) ?_
  refine z_aload_n dX9_sum_17 rfl ?_
  refine y_getR dX9_sum_18 cl9 sh_244 (by decide) (Nat.le_trans (by decide) hz) 1 rfl rfl (fl_Y_15) (ly_244_1 hG) (by decide) ?_
  refine z_iload_n dX9_sum_21 rfl ?_
  obtain ⟨hg3, h⟩ := guardE h
  refine y_iald dX9_sum_22 sh_246 (by decide) (Nat.le_trans (by decide) hz) hx2 hg3 ?_
  obtain ⟨hg4, h⟩ := guardE h
  refine y_iald dX9_sum_23 sh_245 (by decide) (Nat.le_trans (by decide) hz) (hN1.1 246 (x2).toNat) hg4 ?_
  refine z_iadd dX9_sum_24 ?_
  refine z_istore_n (L' := [some (vR g 244), some (vI (w32 (x1 + (I 245 ((I 246 (x2).toNat)).toNat)))), some (vI x2)]) dX9_sum_25 rfl rfl rfl ?_
  refine z_iinc (L' := [some (vR g 244), some (vI (w32 (x1 + (I 245 ((I 246 (x2).toNat)).toNat)))), some (vI (w32 (x2 + 1)))]) dX9_sum_26 rfl rfl rfl rfl ?_
  refine z_goto (tgt := 4) dX9_sum_29 (by decide) ?_
  exact kS _ (someE h).symm ⟨(inR_w32 _), (inR_w32 _)⟩
theorem l_Y_sum_L4 {l : Launch} {g : GX} {φ : CX} {z : Nat} {G : Nat → Nat → Nat} {F : Nat} (hb : cb φ = z) (hz : 295 ≤ z) (hG : lyX G) {I : Nat → Nat → Int} {J : Nat → Nat → Int} (n : Nat) (s : Int × Int) (e : Int) (h : iter (fun s : Int × Int => f_Y_sum_L4 F s.1 s.2 I) n s = some e) (hs : inR s.1 ∧ inR s.2) (k : ((inR e) → Zt l g φ mu_Y_sum 32 [none, some (vI e), none] [] (z, I, J, G))) : Zt l g φ mu_Y_sum 4 [some (vR g 244), some (vI s.1), some (vI s.2)] [] (z, I, J, G) := by
  refine iter_ind (Z := fun s : Int × Int => Zt l g φ mu_Y_sum 4 [some (vR g 244), some (vI s.1), some (vI s.2)] [] (z, I, J, G)) (ZE := fun e : Int => ((inR e) → Zt l g φ mu_Y_sum 32 [none, some (vI e), none] [] (z, I, J, G))) (Rg := fun s : Int × Int => inR s.1 ∧ inR s.2) ?_ n s e h hs k
  intro s r hr hst kE kS
  exact t_Y_sum_L4 hb hz hG hr.1 hr.2 hst kE kS
set_option maxHeartbeats 1000000 in
theorem s_Y_sum {l : Launch} {g : GX} {z : Nat} {G : Nat → Nat → Nat} {F : Nat} (hz : 295 ≤ z) (hG : lyX G) {I J : Nat → Nat → Int} {res : Int} (h : f_Y_sum F I = some res) : Spec l g 0 yX9_sum cX9_sum 3 (some .int) [vR g 244] (z, I, J, G) (some (vI res)) (inR res) (z, I, J, G) := by
  refine spec_of (μ := mu_Y_sum) (k := 2) (L0 := [some (vR g 244), none, none]) rfl mw_Y_sum rfl rfl (Nat.le_refl _) (fun φ hb hE => ?_)
  refine z_iconst dX9_sum_0 ?_
  refine z_istore_n (L' := [some (vR g 244), some (vI 0), none]) dX9_sum_1 rfl rfl rfl ?_
  refine z_iconst dX9_sum_2 ?_
  refine z_istore_n (L' := [some (vR g 244), some (vI 0), some (vI 0)]) dX9_sum_3 rfl rfl rfl ?_
  obtain ⟨e5, h6, h⟩ := bindE h
  refine l_Y_sum_L4 hb hz hG  _ _ _ h6 ⟨(inRd (x := 0) (by decide)), (inRd (x := 0) (by decide))⟩ ?_
  refine fun h7 => ?_
  refine z_iload_n dX9_sum_32 rfl ?_
  obtain rfl := someE h
  exact z_iret dX9_sum_33 hE h7 rfl
set_option maxHeartbeats 1000000 in
theorem t_V_settle_L84 {l : Launch} {g : GX} {φ : CX} {z : Nat} {G : Nat → Nat → Nat} {F : Nat} (hb : cb φ = z) (hz : 295 ≤ z) (hG : lyX G) {r1 : Nat} {r2 : Nat} {x4 : Int} {x5 : Int} {I J : Nat → Nat → Int} (hr1 : isRiv r1) (hr2 : isBed r2) (hx4 : inR x4) (hx5 : inR x5) {res : (MI) ⊕ (Int × MI)} (h : f_V_settle_L84 F r1 r2 x4 x5 I = some res) (kE : ∀ e : MI, res = .inl e → ((True) → Zt l g φ mu_V_settle 115 [some (vR g 255), some (vR g r1), some (vR g r2), some (vR g 244), some (vI x4), none] [] (z, e, J, G))) (kS : ∀ s : Int × MI, res = .inr s → (inR s.1) → Zt l g φ mu_V_settle 84 [some (vR g 255), some (vR g r1), some (vR g r2), some (vR g 244), some (vI x4), some (vI s.1)] [] (z, s.2, J, G)) : Zt l g φ mu_V_settle 84 [some (vR g 255), some (vR g r1), some (vR g r2), some (vR g 244), some (vI x4), some (vI x5)] [] (z, I, J, G) := by
  refine z_iload dX2_settle_84 rfl ?_
  refine z_bipush dX2_settle_86 (by decide +kernel) ?_
  refine z_icmp_ge (tgt := 115) dX2_settle_88 (by decide) hx5 (inRd (x := 8) (by decide)) (fun hc15 => ?_) (fun hc15 => ?_)
  · replace h := ifT hc15 h
    refine z_weak (L' := [some (vR g 255), some (vR g r1), some (vR g r2), some (vR g 244), some (vI x4), none]) (lsS (lsS (lsS (lsS (lsS (lsN ls0)))))) ?_
    exact kE _ (someE h).symm trivial
  replace h := ifF hc15 h
  refine z_aload_n dX2_settle_91 rfl ?_
  refine y_getR dX2_settle_92 cl2 sh_255 (by decide) (Nat.le_trans (by decide) hz) 2 rfl rfl (fl_V_17) (ly_255_2 hG) (by decide) ?_
  refine z_iload dX2_settle_95 rfl ?_
  obtain ⟨hg16, h⟩ := guardE h
  refine y_aald2 dX2_settle_97 sh_257 (by decide) (Nat.le_trans (by decide) hz) hx4 hg16 (ly_dr hG hg16) (dr_pos hg16) ?_
  refine z_iload dX2_settle_98 rfl ?_
  refine z_aload_n dX2_settle_100 rfl ?_
  refine z_iload dX2_settle_101 rfl ?_
  refine z_iload dX2_settle_103 rfl ?_
  obtain ⟨q17, hq18, h⟩ := bindE h
  refine z_callV (As := [vI x4, vI x5]) (rest := [vI x5, vR g (258 + (x4).toNat)]) (s_R_drift hz hG hr1 hx4 hx5 hq18) dX2_settle_105 mw_R_drift cl6 (riv_sh hr1) (riv_pos hr1) (Nat.le_trans (riv_le hr1) hz) ml_V_70 im_R_drift se_R_drift rfl rfl rfl rfl (Nat.le_refl _) (Nat.le_of_eq hb.symm) (fun hp19 => ?_)
  show Zt _ _ _ _ 108 _ [vI q17, vI x5, vR g (258 + (x4).toNat)] (z, I, J, G)
  obtain ⟨hg20, h⟩ := guardE h
  refine y_iast dX2_settle_108 (dr_sh hg16) (dr_pos hg16) (Nat.le_trans (dr_le hg16) hz) hx5 hg20 hp19 ?_
  refine z_iinc (L' := [some (vR g 255), some (vR g r1), some (vR g r2), some (vR g 244), some (vI x4), some (vI (w32 (x5 + 1)))]) dX2_settle_109 rfl rfl rfl rfl ?_
  refine z_goto (tgt := 84) dX2_settle_112 (by decide) ?_
  exact kS _ (someE h).symm (inR_w32 _)
theorem l_V_settle_L84 {l : Launch} {g : GX} {φ : CX} {z : Nat} {G : Nat → Nat → Nat} {F : Nat} (hb : cb φ = z) (hz : 295 ≤ z) (hG : lyX G) {r1 : Nat} {r2 : Nat} {x4 : Int} {J : Nat → Nat → Int} (hr1 : isRiv r1) (hr2 : isBed r2) (hx4 : inR x4) (n : Nat) (s : Int × MI) (e : MI) (h : iter (fun s : Int × MI => f_V_settle_L84 F r1 r2 x4 s.1 s.2) n s = some e) (hs : inR s.1) (k : ((True) → Zt l g φ mu_V_settle 115 [some (vR g 255), some (vR g r1), some (vR g r2), some (vR g 244), some (vI x4), none] [] (z, e, J, G))) : Zt l g φ mu_V_settle 84 [some (vR g 255), some (vR g r1), some (vR g r2), some (vR g 244), some (vI x4), some (vI s.1)] [] (z, s.2, J, G) := by
  refine iter_ind (Z := fun s : Int × MI => Zt l g φ mu_V_settle 84 [some (vR g 255), some (vR g r1), some (vR g r2), some (vR g 244), some (vI x4), some (vI s.1)] [] (z, s.2, J, G)) (ZE := fun e : MI => ((True) → Zt l g φ mu_V_settle 115 [some (vR g 255), some (vR g r1), some (vR g r2), some (vR g 244), some (vI x4), none] [] (z, e, J, G))) (Rg := fun s : Int × MI => inR s.1) ?_ n s e h hs k
  intro s r hr hst kE kS
  exact t_V_settle_L84 hb hz hG hr1 hr2 hx4 hr hst kE kS
set_option maxHeartbeats 1000000 in
theorem t_V_settle_b58in22 {l : Launch} {g : GX} {φ : CX} {z : Nat} {G : Nat → Nat → Nat} {F : Nat} (hb : cb φ = z) (hz : 295 ≤ z) (hG : lyX G) {r1 : Nat} {r2 : Nat} {x4 : Int} {s1 : Int} {s2 : Int} {I J : Nat → Nat → Int} (hr1 : isRiv r1) (hr2 : isBed r2) (hx4 : inR x4) (hs1 : inR s1) (hs2 : inR s2) {res : (MI) ⊕ (Int × MI)} (h : f_V_settle_b58in22 F r1 r2 x4 s1 s2 I = some res) (kE : ∀ e : MI, res = .inl e → ((True) → Zt l g φ mu_V_settle 121 [some (vR g 255), none, none, some (vR g 244), none, none] [] (z, e, J, G))) (kS : ∀ s : Int × MI, res = .inr s → (inR s.1) → Zt l g φ mu_V_settle 22 [some (vR g 255), some (vR g r1), some (vR g r2), some (vR g 244), some (vI s.1), none] [] (z, s.2, J, G)) : Zt l g φ mu_V_settle 58 [some (vR g 255), some (vR g r1), some (vR g r2), some (vR g 244), some (vI x4), none] [vI s2, vI s1, vR g 268] (z, I, J, G) := by
  obtain ⟨hg12, h⟩ := guardE h
  refine y_iast dX2_settle_58 sh_268 (by decide) (Nat.le_trans (by decide) hz) hs1 hg12 hs2 ?_
  refine z_aload_n dX2_settle_59 rfl ?_
  refine y_getR dX2_settle_60 cl2 sh_255 (by decide) (Nat.le_trans (by decide) hz) 7 rfl rfl (fl_V_29) (ly_255_7 hG) (by decide) ?_
  refine z_iload dX2_settle_63 rfl ?_
  refine z_iconst dX2_settle_65 ?_
  obtain ⟨hg13, h⟩ := guardE h
  refine y_iast dX2_settle_66 sh_269 (by decide) (Nat.le_trans (by decide) hz) hx4 hg13 (inRd (x := 0) (by decide)) ?_
  refine z_aload_n dX2_settle_67 rfl ?_
  refine y_getR dX2_settle_68 cl2 sh_255 (by decide) (Nat.le_trans (by decide) hz) 1 rfl rfl (fl_V_9) (ly_255_1 hG) (by decide) ?_
  refine z_iload dX2_settle_71 rfl ?_
  refine z_aload_n dX2_settle_73 rfl ?_
  refine y_getNR (host := "FarewellStones") dX2_settle_74 cl6 (riv_sh hr1) (riv_pos hr1) (Nat.le_trans (riv_le hr1) hz) 9 rfl rfl (flN_V_69) (riv_g9 hG hr1) (Nat.succ_pos _) ?_
  refine z_iload dX2_settle_77 rfl ?_
  refine z_nm (fun hN14 => ?_)
  refine y_iald dX2_settle_79 (riv_sh9 hr1) (Nat.succ_pos _) (Nat.le_trans (riv_le9 hr1) hz) hx4 hg13 ?_
  refine y_iast dX2_settle_80 sh_256 (by decide) (Nat.le_trans (by decide) hz) hx4 hg13 (hN14.1 (r1 + 6) (x4).toNat) ?_
  refine z_iconst dX2_settle_81 ?_
  refine z_istore (L' := [some (vR g 255), some (vR g r1), some (vR g r2), some (vR g 244), some (vI x4), some (vI 0)]) dX2_settle_82 rfl rfl rfl ?_
  obtain ⟨e21, h22, h⟩ := bindE h
  refine l_V_settle_L84 hb hz hG hr1 hr2 hx4 _ _ _ h22 (inRd (x := 0) (by decide)) ?_
  refine fun h23 => ?_
  refine z_iinc (L' := [some (vR g 255), some (vR g r1), some (vR g r2), some (vR g 244), some (vI (w32 (x4 + 1))), none]) dX2_settle_115 rfl rfl rfl rfl ?_
  refine z_goto (tgt := 22) dX2_settle_118 (by decide) ?_
  exact kS _ (someE h).symm (inR_w32 _)
set_option maxHeartbeats 1000000 in
theorem t_V_settle_L22 {l : Launch} {g : GX} {φ : CX} {z : Nat} {G : Nat → Nat → Nat} {F : Nat} (hb : cb φ = z) (hz : 295 ≤ z) (hG : lyX G) {r1 : Nat} {r2 : Nat} {x4 : Int} {I J : Nat → Nat → Int} (hr1 : isRiv r1) (hr2 : isBed r2) (hx4 : inR x4) {res : (MI) ⊕ (Int × MI)} (h : f_V_settle_L22 F r1 r2 x4 I = some res) (kE : ∀ e : MI, res = .inl e → ((True) → Zt l g φ mu_V_settle 121 [some (vR g 255), none, none, some (vR g 244), none, none] [] (z, e, J, G))) (kS : ∀ s : Int × MI, res = .inr s → (inR s.1) → Zt l g φ mu_V_settle 22 [some (vR g 255), some (vR g r1), some (vR g r2), some (vR g 244), some (vI s.1), none] [] (z, s.2, J, G)) : Zt l g φ mu_V_settle 22 [some (vR g 255), some (vR g r1), some (vR g r2), some (vR g 244), some (vI x4), none] [] (z, I, J, G) := by
  refine z_iload dX2_settle_22 rfl ?_
  refine z_aload_n dX2_settle_24 rfl ?_
  refine z_nm (fun hN6 => ?_)
  refine y_getI dX2_settle_25 cl2 sh_255 (by decide) (Nat.le_trans (by decide) hz) 0 rfl rfl (fl_V_59) ?_
  refine z_icmp_ge (tgt := 121) dX2_settle_28 (by decide) hx4 (hN6.1 255 0) (fun hc7 => ?_) (fun hc7 => ?_)
  · replace h := ifT hc7 h
    refine z_weak (L' := [some (vR g 255), none, none, some (vR g 244), none, none]) (lsS (lsN (lsN (lsS (lsN (lsN ls0)))))) ?_
    exact kE _ (someE h).symm trivial
  replace h := ifF hc7 h
  refine z_aload_n dX2_settle_31 rfl ?_
  refine y_getR dX2_settle_32 cl2 sh_255 (by decide) (Nat.le_trans (by decide) hz) 6 rfl rfl (fl_V_26) (ly_255_6 hG) (by decide) ?_
  refine z_iload dX2_settle_35 rfl ?_
  refine z_aload_n dX2_settle_37 rfl ?_
  refine z_aload_n dX2_settle_38 rfl ?_
  refine z_iload dX2_settle_39 rfl ?_
  obtain ⟨q8, hq9, h⟩ := bindE h
  refine z_callV (As := [vR g r1, vI x4]) (rest := [vI x4, vR g 268]) (s_B_mayThrow hz hG hr2 hr1 hx4 hq9) dX2_settle_41 mw_B_mayThrow cl0 (bed_sh hr2) (bed_pos hr2) (Nat.le_trans (bed_le hr2) hz) ml_V_60 im_B_mayThrow se_B_mayThrow rfl rfl rfl rfl (Nat.le_refl _) (Nat.le_of_eq hb.symm) (fun hp10 => ?_)
  show Zt _ _ _ _ 44 _ [vI q8, vI x4, vR g 268] (z, I, J, G)
  refine z_if_eq (tgt := 57) dX2_settle_44 (by decide) (inR_bool hp10) (fun hc11 => ?_) (fun hc11 => ?_)
  · replace h := ifT hc11 h
    refine z_iconst dX2_settle_57 ?_
    exact t_V_settle_b58in22 hb hz hG hr1 hr2 hx4 hx4 (inRd (x := 0) (by decide)) h kE kS
  replace h := ifF hc11 h
  refine z_aload_n dX2_settle_47 rfl ?_
  refine z_aload_n dX2_settle_48 rfl ?_
  refine z_iload dX2_settle_49 rfl ?_
  obtain ⟨q24, hq25, h⟩ := bindE h
  refine z_callV (As := [vR g r1, vI x4]) (rest := [vI x4, vR g 268]) (s_B_left hz hG hr2 hr1 hx4 hq25) dX2_settle_51 mw_B_left cl0 (bed_sh hr2) (bed_pos hr2) (Nat.le_trans (bed_le hr2) hz) ml_V_66 im_B_left se_B_left rfl rfl rfl rfl (Nat.le_refl _) (Nat.le_of_eq hb.symm) (fun hp26 => ?_)
  show Zt _ _ _ _ 54 _ [vI q24, vI x4, vR g 268] (z, I, J, G)
  refine z_goto (tgt := 58) dX2_settle_54 (by decide) ?_
  exact t_V_settle_b58in22 hb hz hG hr1 hr2 hx4 hx4 hp26 h kE kS
theorem l_V_settle_L22 {l : Launch} {g : GX} {φ : CX} {z : Nat} {G : Nat → Nat → Nat} {F : Nat} (hb : cb φ = z) (hz : 295 ≤ z) (hG : lyX G) {r1 : Nat} {r2 : Nat} {J : Nat → Nat → Int} (hr1 : isRiv r1) (hr2 : isBed r2) (n : Nat) (s : Int × MI) (e : MI) (h : iter (fun s : Int × MI => f_V_settle_L22 F r1 r2 s.1 s.2) n s = some e) (hs : inR s.1) (k : ((True) → Zt l g φ mu_V_settle 121 [some (vR g 255), none, none, some (vR g 244), none, none] [] (z, e, J, G))) : Zt l g φ mu_V_settle 22 [some (vR g 255), some (vR g r1), some (vR g r2), some (vR g 244), some (vI s.1), none] [] (z, s.2, J, G) := by
  refine iter_ind (Z := fun s : Int × MI => Zt l g φ mu_V_settle 22 [some (vR g 255), some (vR g r1), some (vR g r2), some (vR g 244), some (vI s.1), none] [] (z, s.2, J, G)) (ZE := fun e : MI => ((True) → Zt l g φ mu_V_settle 121 [some (vR g 255), none, none, some (vR g 244), none, none] [] (z, e, J, G))) (Rg := fun s : Int × MI => inR s.1) ?_ n s e h hs k
  intro s r hr hst kE kS
  exact t_V_settle_L22 hb hz hG hr1 hr2 hr hst kE kS
set_option maxHeartbeats 1000000 in
theorem t_V_settle_L129 {l : Launch} {g : GX} {φ : CX} {z : Nat} {G : Nat → Nat → Nat} {F : Nat} (hb : cb φ = z) (hz : 295 ≤ z) (hG : lyX G) {x4 : Int} {I J : Nat → Nat → Int} (hx4 : inR x4) {res : ((MI) ⊕ (MI)) ⊕ (Int × MI)} (h : f_V_settle_L129 F x4 I = some res) (kE : ∀ e : (MI) ⊕ (MI), res = .inl e → ((fun w : (MI) ⊕ (MI) => (match w with | .inl e0 => ((True) → Zt l g φ mu_V_settle 147 [none, none, none, none, none, none] [] (z, e0, J, G)) | .inr o0 => ((True) → Zt l g φ mu_V_settle 155 [some (vR g 255), none, none, none, none, none] [] (z, o0, J, G)))) e)) (kS : ∀ s : Int × MI, res = .inr s → (inR s.1) → Zt l g φ mu_V_settle 129 [some (vR g 255), none, none, none, some (vI s.1), none] [] (z, s.2, J, G)) : Zt l g φ mu_V_settle 129 [some (vR g 255), none, none, none, some (vI x4), none] [] (z, I, J, G) := by
  refine z_iload dX2_settle_129 rfl ?_
  refine z_aload_n dX2_settle_131 rfl ?_
  refine z_nm (fun hN33 => ?_)
  refine y_getI dX2_settle_132 cl2 sh_255 (by decide) (Nat.le_trans (by decide) hz) 5 rfl rfl (fl_V_78) ?_
  refine z_icmp_ge (tgt := 155) dX2_settle_135 (by decide) hx4 (hN33.1 255 5) (fun hc34 => ?_) (fun hc34 => ?_)
  · replace h := ifT hc34 h
    refine z_weak (L' := [some (vR g 255), none, none, none, none, none]) (lsS (lsN (lsN (lsN (lsN (lsN ls0)))))) ?_
    exact kE _ (someE h).symm trivial
  replace h := ifF hc34 h
  refine z_aload_n dX2_settle_138 rfl ?_
  refine z_iload dX2_settle_139 rfl ?_
  obtain ⟨q35, hq36, h⟩ := bindE h
  refine z_callV (As := [vI x4]) (rest := []) (s_V_give hz hG hx4 hq36) dX2_settle_141 mw_V_give cl2 sh_255 (by decide) (Nat.le_trans (by decide) hz) ml_V_81 im_V_give se_V_give rfl rfl rfl rfl (Nat.le_refl _) (Nat.le_of_eq hb.symm) (fun hp37 => ?_)
  show Zt _ _ _ _ 144 _ [vI q35.1] (z, q35.2, J, G)
  refine z_if_ne (tgt := 149) dX2_settle_144 (by decide) (inR_bool hp37) (fun hc38 => ?_) (fun hc38 => ?_)
  · replace h := ifT hc38 h
    refine z_iinc (L' := [some (vR g 255), none, none, none, some (vI (w32 (x4 + 1))), none]) dX2_settle_149 rfl rfl rfl rfl ?_
    refine z_goto (tgt := 129) dX2_settle_152 (by decide) ?_
    exact kS _ (someE h).symm (inR_w32 _)
  replace h := ifF (fun q => q hc38) h
  refine z_weak (L' := [none, none, none, none, none, none]) (lsN (lsN (lsN (lsN (lsN (lsN ls0)))))) ?_
  exact kE _ (someE h).symm trivial
theorem l_V_settle_L129 {l : Launch} {g : GX} {φ : CX} {z : Nat} {G : Nat → Nat → Nat} {F : Nat} (hb : cb φ = z) (hz : 295 ≤ z) (hG : lyX G) {J : Nat → Nat → Int} (n : Nat) (s : Int × MI) (e : (MI) ⊕ (MI)) (h : iter (fun s : Int × MI => f_V_settle_L129 F s.1 s.2) n s = some e) (hs : inR s.1) (k : ((fun w : (MI) ⊕ (MI) => (match w with | .inl e0 => ((True) → Zt l g φ mu_V_settle 147 [none, none, none, none, none, none] [] (z, e0, J, G)) | .inr o0 => ((True) → Zt l g φ mu_V_settle 155 [some (vR g 255), none, none, none, none, none] [] (z, o0, J, G)))) e)) : Zt l g φ mu_V_settle 129 [some (vR g 255), none, none, none, some (vI s.1), none] [] (z, s.2, J, G) := by
  refine iter_ind (Z := fun s : Int × MI => Zt l g φ mu_V_settle 129 [some (vR g 255), none, none, none, some (vI s.1), none] [] (z, s.2, J, G)) (ZE := fun e : (MI) ⊕ (MI) => ((fun w : (MI) ⊕ (MI) => (match w with | .inl e0 => ((True) → Zt l g φ mu_V_settle 147 [none, none, none, none, none, none] [] (z, e0, J, G)) | .inr o0 => ((True) → Zt l g φ mu_V_settle 155 [some (vR g 255), none, none, none, none, none] [] (z, o0, J, G)))) e)) (Rg := fun s : Int × MI => inR s.1) ?_ n s e h hs k
  intro s r hr hst kE kS
  exact t_V_settle_L129 hb hz hG hr hst kE kS
set_option maxHeartbeats 1000000 in
theorem t_V_settle_L158 {l : Launch} {g : GX} {φ : CX} {z : Nat} {G : Nat → Nat → Nat} {F : Nat} (hb : cb φ = z) (hz : 295 ≤ z) (hG : lyX G) {x4 : Int} {I J : Nat → Nat → Int} (hx4 : inR x4) {res : (MI) ⊕ (Int × MI)} (h : f_V_settle_L158 F x4 I = some res) (kE : ∀ e : MI, res = .inl e → ((True) → Zt l g φ mu_V_settle 179 [none, none, none, none, none, none] [] (z, e, J, G))) (kS : ∀ s : Int × MI, res = .inr s → (inR s.1) → Zt l g φ mu_V_settle 158 [some (vR g 255), none, none, none, some (vI s.1), none] [] (z, s.2, J, G)) : Zt l g φ mu_V_settle 158 [some (vR g 255), none, none, none, some (vI x4), none] [] (z, I, J, G) := by
  refine z_iload dX2_settle_158 rfl ?_
  refine z_aload_n dX2_settle_160 rfl ?_
  refine z_nm (fun hN45 => ?_)
  refine y_getI dX2_settle_161 cl2 sh_255 (by decide) (Nat.le_trans (by decide) hz) 5 rfl rfl (fl_V_78) ?_
  refine z_icmp_ge (tgt := 179) dX2_settle_164 (by decide) hx4 (hN45.1 255 5) (fun hc46 => ?_) (fun hc46 => ?_)
  · replace h := ifT hc46 h
    refine z_weak (L' := [none, none, none, none, none, none]) (lsN (lsN (lsN (lsN (lsN (lsN ls0)))))) ?_
    exact kE _ (someE h).symm trivial
  replace h := ifF hc46 h
  refine z_aload_n dX2_settle_167 rfl ?_
  refine z_iload dX2_settle_168 rfl ?_
  obtain ⟨q47, hq48, h⟩ := bindE h
  refine z_callV (As := [vI x4]) (rest := []) (s_V_giveByFirst hz hG hx4 hq48) dX2_settle_170 mw_V_giveByFirst cl2 sh_255 (by decide) (Nat.le_trans (by decide) hz) ml_V_85 im_V_giveByFirst se_V_giveByFirst rfl rfl rfl rfl (Nat.le_refl _) (Nat.le_of_eq hb.symm) (fun hp49 => ?_)
  show Zt _ _ _ _ 173 _ [] (z, q47, J, G)
  refine z_iinc (L' := [some (vR g 255), none, none, none, some (vI (w32 (x4 + 1))), none]) dX2_settle_173 rfl rfl rfl rfl ?_
  refine z_goto (tgt := 158) dX2_settle_176 (by decide) ?_
  exact kS _ (someE h).symm (inR_w32 _)
theorem l_V_settle_L158 {l : Launch} {g : GX} {φ : CX} {z : Nat} {G : Nat → Nat → Nat} {F : Nat} (hb : cb φ = z) (hz : 295 ≤ z) (hG : lyX G) {J : Nat → Nat → Int} (n : Nat) (s : Int × MI) (e : MI) (h : iter (fun s : Int × MI => f_V_settle_L158 F s.1 s.2) n s = some e) (hs : inR s.1) (k : ((True) → Zt l g φ mu_V_settle 179 [none, none, none, none, none, none] [] (z, e, J, G))) : Zt l g φ mu_V_settle 158 [some (vR g 255), none, none, none, some (vI s.1), none] [] (z, s.2, J, G) := by
  refine iter_ind (Z := fun s : Int × MI => Zt l g φ mu_V_settle 158 [some (vR g 255), none, none, none, some (vI s.1), none] [] (z, s.2, J, G)) (ZE := fun e : MI => ((True) → Zt l g φ mu_V_settle 179 [none, none, none, none, none, none] [] (z, e, J, G))) (Rg := fun s : Int × MI => inR s.1) ?_ n s e h hs k
  intro s r hr hst kE kS
  exact t_V_settle_L158 hb hz hG hr hst kE kS
set_option maxHeartbeats 1000000 in
theorem s_V_settle {l : Launch} {g : GX} {z : Nat} {G : Nat → Nat → Nat} {F : Nat} (hz : 295 ≤ z) (hG : lyX G) {r1 : Nat} {r2 : Nat} {I J : Nat → Nat → Int} (hr1 : isRiv r1) (hr2 : isBed r2) {res : Int × MI} (h : f_V_settle F r1 r2 I = some res) : Spec l g 17 yX2_settle cX2_settle 6 (some .boolean) [vR g 255, vR g r1, vR g r2, vR g 244] (z, I, J, G) (some (vI res.1)) (res.1 = 0 ∨ res.1 = 1) (z, res.2, J, G) := by
  refine spec_of (μ := mu_V_settle) (k := 2) (L0 := [some (vR g 255), some (vR g r1), some (vR g r2), some (vR g 244), none, none]) rfl mw_V_settle rfl rfl (Nat.le_refl _) (fun φ hb hE => ?_)
  refine z_aload_n dX2_settle_0 rfl ?_
  obtain ⟨q1, hq2, h⟩ := bindE h
  refine z_callV (As := []) (rest := []) (s_Y_sum hz hG  hq2) dX2_settle_1 mw_Y_sum cl9 sh_244 (by decide) (Nat.le_trans (by decide) hz) ml_V_47 im_Y_sum se_Y_sum rfl rfl rfl rfl (Nat.le_refl _) (Nat.le_of_eq hb.symm) (fun hp3 => ?_)
  show Zt _ _ _ _ 4 _ [vI q1] (z, I, J, G)
  refine z_bipush dX2_settle_4 (by decide +kernel) ?_
  refine z_icmp_le (tgt := 11) dX2_settle_6 (by decide) hp3 (inRd (x := 72) (by decide)) (fun hc4 => ?_) (fun hc4 => ?_)
  · replace h := ifT hc4 h
    refine z_aload_n dX2_settle_11 rfl ?_
    refine z_aload_n dX2_settle_12 rfl ?_
    refine z_nm (fun hN5 => ?_)
    refine y_getNI (host := "FarewellStones") dX2_settle_13 cl6 (riv_sh hr1) (riv_pos hr1) (Nat.le_trans (riv_le hr1) hz) 5 rfl rfl (flN_V_53) ?_
    refine y_putI dX2_settle_16 cl2 sh_255 (by decide) (Nat.le_trans (by decide) hz) 0 rfl rfl rfl (fl_V_59) rfl rfl (hN5.1 r1 5) ?_
    refine z_iconst dX2_settle_19 ?_
    refine z_istore (L' := [some (vR g 255), some (vR g r1), some (vR g r2), some (vR g 244), some (vI 0), none]) dX2_settle_20 rfl rfl rfl ?_
    obtain ⟨e27, h28, h⟩ := bindE h
    refine l_V_settle_L22 hb hz hG hr1 hr2 _ _ _ h28 (inRd (x := 0) (by decide)) ?_
    refine fun h29 => ?_
    refine z_aload_n dX2_settle_121 rfl ?_
    refine z_aload_n dX2_settle_122 rfl ?_
    obtain ⟨q30, hq31, h⟩ := bindE h
    refine z_callV (As := [vR g 244]) (rest := []) (s_V_listNeeds hz hG  hq31) dX2_settle_123 mw_V_listNeeds cl2 sh_255 (by decide) (Nat.le_trans (by decide) hz) ml_V_74 im_V_listNeeds se_V_listNeeds rfl rfl rfl rfl (Nat.le_refl _) (Nat.le_of_eq hb.symm) (fun hp32 => ?_)
    show Zt _ _ _ _ 126 _ [] (z, q30, J, G)
    refine z_iconst dX2_settle_126 ?_
    refine z_istore (L' := [some (vR g 255), none, none, some (vR g 244), some (vI 0), none]) dX2_settle_127 rfl rfl rfl ?_
    refine z_weak (L' := [some (vR g 255), none, none, none, some (vI 0), none]) (lsS (lsN (lsN (lsN (lsS (lsN ls0)))))) ?_
    obtain ⟨e39, h40, h⟩ := bindE h
    rcases e39 with e41 | o42
    · refine l_V_settle_L129 hb hz hG  _ _ _ h40 (inRd (x := 0) (by decide)) ?_
      refine fun h43 => ?_
      refine z_iconst dX2_settle_147 ?_
      obtain rfl := someE h
      exact z_zret dX2_settle_148 hE b01_0 b01_0 rfl
    refine l_V_settle_L129 hb hz hG  _ _ _ h40 (inRd (x := 0) (by decide)) ?_
    refine fun h44 => ?_
    refine z_iconst dX2_settle_155 ?_
    refine z_istore (L' := [some (vR g 255), none, none, none, some (vI 0), none]) dX2_settle_156 rfl rfl rfl ?_
    obtain ⟨e50, h51, h⟩ := bindE h
    refine l_V_settle_L158 hb hz hG  _ _ _ h51 (inRd (x := 0) (by decide)) ?_
    refine fun h52 => ?_
    refine z_iconst dX2_settle_179 ?_
    obtain rfl := someE h
    exact z_zret dX2_settle_180 hE b01_1 b01_1 rfl
  replace h := ifF hc4 h
  refine z_iconst dX2_settle_9 ?_
  obtain rfl := someE h
  exact z_zret dX2_settle_10 hE b01_0 b01_0 rfl
set_option maxHeartbeats 1000000 in
theorem t_V_sum_L4 {l : Launch} {g : GX} {φ : CX} {z : Nat} {G : Nat → Nat → Nat} {F : Nat} (hb : cb φ = z) (hz : 295 ≤ z) (hG : lyX G) {x1 : Int} {x2 : Int} {I J : Nat → Nat → Int} (hx1 : inR x1) (hx2 : inR x2) {res : (Int) ⊕ (Int × Int)} (h : f_V_sum_L4 F x1 x2 I = some res) (kE : ∀ e : Int, res = .inl e → ((inR e) → Zt l g φ mu_V_sum 34 [none, some (vI e), none] [] (z, I, J, G))) (kS : ∀ s : Int × Int, res = .inr s → (inR s.1 ∧ inR s.2) → Zt l g φ mu_V_sum 4 [some (vR g 255), some (vI s.1), some (vI s.2)] [] (z, I, J, G)) : Zt l g φ mu_V_sum 4 [some (vR g 255), some (vI x1), some (vI x2)] [] (z, I, J, G) := by
  refine z_iload_n dX2_sum_4 rfl ?_
  refine z_aload_n dX2_sum_5 rfl ?_
  refine z_nm (fun hN1 => ?_)
  refine y_getI dX2_sum_6 cl2 sh_255 (by decide) (Nat.le_trans (by decide) hz) 0 rfl rfl (fl_V_59) ?_
  refine z_icmp_ge (tgt := 34) dX2_sum_9 (by decide) hx2 (hN1.1 255 0) (fun hc2 => ?_) (fun hc2 => ?_)
  · replace h := ifT hc2 h
    refine z_weak (L' := [none, some (vI x1), none]) (lsN (lsS (lsN ls0))) ?_
    exact kE _ (someE h).symm hx1
  replace h := ifF hc2 h
  refine z_iload_n dX2_sum_12 rfl ?_
  refine z_aload_n dX2_sum_13 rfl ?_
  refine y_getR dX2_sum_14 cl2 sh_255 (by decide) (Nat.le_trans (by decide) hz) 7 rfl rfl (fl_V_29) (ly_255_7 hG) (by decide) ?_
  refine z_iload_n dX2_sum_17 rfl ?_
  obtain ⟨hg3, h⟩ := guardE h
  refine y_iald dX2_sum_18 sh_269 (by decide) (Nat.le_trans (by decide) hz) hx2 hg3 ?_
  refine z_aload_n dX2_sum_19 rfl ?_
  refine y_getR dX2_sum_20 cl2 sh_255 (by decide) (Nat.le_trans (by decide) hz) 1 rfl rfl (fl_V_9) (ly_255_1 hG) (by decide) ?_
  refine z_iload_n dX2_sum_23 rfl ?_
  refine y_iald dX2_sum_24 sh_256 (by decide) (Nat.le_trans (by decide) hz) hx2 hg3 ?_
  refine z_imul dX2_sum_25 ?_
  refine z_iadd dX2_sum_26 ?_
  refine z_istore_n (L' := [some (vR g 255), some (vI (w32 (x1 + (w32 ((I 269 (x2).toNat) * (I 256 (x2).toNat)))))), some (vI x2)]) dX2_sum_27 rfl rfl rfl ?_
  refine z_iinc (L' := [some (vR g 255), some (vI (w32 (x1 + (w32 ((I 269 (x2).toNat) * (I 256 (x2).toNat)))))), some (vI (w32 (x2 + 1)))]) dX2_sum_28 rfl rfl rfl rfl ?_
  refine z_goto (tgt := 4) dX2_sum_31 (by decide) ?_
  exact kS _ (someE h).symm ⟨(inR_w32 _), (inR_w32 _)⟩
theorem l_V_sum_L4 {l : Launch} {g : GX} {φ : CX} {z : Nat} {G : Nat → Nat → Nat} {F : Nat} (hb : cb φ = z) (hz : 295 ≤ z) (hG : lyX G) {I : Nat → Nat → Int} {J : Nat → Nat → Int} (n : Nat) (s : Int × Int) (e : Int) (h : iter (fun s : Int × Int => f_V_sum_L4 F s.1 s.2 I) n s = some e) (hs : inR s.1 ∧ inR s.2) (k : ((inR e) → Zt l g φ mu_V_sum 34 [none, some (vI e), none] [] (z, I, J, G))) : Zt l g φ mu_V_sum 4 [some (vR g 255), some (vI s.1), some (vI s.2)] [] (z, I, J, G) := by
  refine iter_ind (Z := fun s : Int × Int => Zt l g φ mu_V_sum 4 [some (vR g 255), some (vI s.1), some (vI s.2)] [] (z, I, J, G)) (ZE := fun e : Int => ((inR e) → Zt l g φ mu_V_sum 34 [none, some (vI e), none] [] (z, I, J, G))) (Rg := fun s : Int × Int => inR s.1 ∧ inR s.2) ?_ n s e h hs k
  intro s r hr hst kE kS
  exact t_V_sum_L4 hb hz hG hr.1 hr.2 hst kE kS
set_option maxHeartbeats 1000000 in
theorem s_V_sum {l : Launch} {g : GX} {z : Nat} {G : Nat → Nat → Nat} {F : Nat} (hz : 295 ≤ z) (hG : lyX G) {I J : Nat → Nat → Int} {res : Int} (h : f_V_sum F I = some res) : Spec l g 0 yX2_sum cX2_sum 3 (some .int) [vR g 255] (z, I, J, G) (some (vI res)) (inR res) (z, I, J, G) := by
  refine spec_of (μ := mu_V_sum) (k := 2) (L0 := [some (vR g 255), none, none]) rfl mw_V_sum rfl rfl (Nat.le_refl _) (fun φ hb hE => ?_)
  refine z_iconst dX2_sum_0 ?_
  refine z_istore_n (L' := [some (vR g 255), some (vI 0), none]) dX2_sum_1 rfl rfl rfl ?_
  refine z_iconst dX2_sum_2 ?_
  refine z_istore_n (L' := [some (vR g 255), some (vI 0), some (vI 0)]) dX2_sum_3 rfl rfl rfl ?_
  obtain ⟨e4, h5, h⟩ := bindE h
  refine l_V_sum_L4 hb hz hG  _ _ _ h5 ⟨(inRd (x := 0) (by decide)), (inRd (x := 0) (by decide))⟩ ?_
  refine fun h6 => ?_
  refine z_iload_n dX2_sum_34 rfl ?_
  obtain rfl := someE h
  exact z_iret dX2_sum_35 hE h6 rfl
set_option maxHeartbeats 1000000 in
theorem s_E_fail {l : Launch} {g : GX} {z : Nat} {G : Nat → Nat → Nat} {F : Nat} (hz : 295 ≤ z) (hG : lyX G) {x1 : Int} {I J : Nat → Nat → Int} (hx1 : inR x1) {res : MI} (h : f_E_fail F x1 I = some res) : Spec l g 0 yX5_fail cX5_fail 2 none [vR g 4, vI x1] (z, I, J, G) none True (z, res, J, G) := by
  refine spec_of (μ := mu_E_fail) (k := 0) (L0 := [some (vR g 4), some (vI x1)]) rfl mw_E_fail rfl rfl (Nat.le_refl _) (fun φ hb hE => ?_)
  refine z_aload_n dX5_fail_0 rfl ?_
  refine z_nm (fun hN1 => ?_)
  refine y_getI dX5_fail_1 cl5 sh_4 (by decide) (Nat.le_trans (by decide) hz) 2 rfl rfl (fl_E_35) ?_
  refine z_if_eq (tgt := 8) dX5_fail_4 (by decide) (hN1.1 4 2) (fun hc2 => ?_) (fun hc2 => ?_)
  · replace h := ifT hc2 h
    refine z_aload_n dX5_fail_8 rfl ?_
    refine z_iload_n dX5_fail_9 rfl ?_
    refine y_putI dX5_fail_10 cl5 sh_4 (by decide) (Nat.le_trans (by decide) hz) 2 rfl rfl rfl (fl_E_35) rfl rfl hx1 ?_
    refine z_aload_n dX5_fail_13 rfl ?_
    refine z_aload_n dX5_fail_14 rfl ?_
    refine y_getR dX5_fail_15 cl5 sh_4 (by decide) (Nat.le_trans (by decide) hz) 0 rfl rfl (fl_E_12) (ly_4_0 hG) (by decide) ?_
    refine y_getNR (host := "FarewellStones") dX5_fail_18 cl8 sh_5 (by decide) (Nat.le_trans (by decide) hz) 1 rfl rfl (flN_E_135) (ly_5_1 hG) (by decide) ?_
    refine z_aload_n dX5_fail_21 rfl ?_
    refine z_nm (fun hN3 => ?_)
    refine y_getI dX5_fail_22 cl5 sh_4 (by decide) (Nat.le_trans (by decide) hz) 1 rfl rfl (fl_E_31) ?_
    obtain ⟨hg4, h⟩ := guardE h
    refine y_iald dX5_fail_25 sh_7 (by decide) (Nat.le_trans (by decide) hz) (hN3.1 4 1) hg4 ?_
    refine y_putI dX5_fail_26 cl5 sh_4 (by decide) (Nat.le_trans (by decide) hz) 3 rfl rfl rfl (fl_E_82) rfl rfl (hN3.1 7 (((up2 I 4 2 x1) 4 1)).toNat) ?_
    obtain rfl := someE h
    exact z_vret dX5_fail_29 hE trivial rfl
  replace h := ifF hc2 h
  obtain rfl := someE h
  exact z_vret dX5_fail_7 hE trivial rfl
set_option maxHeartbeats 1000000 in
theorem t_E_take_b39 {l : Launch} {g : GX} {φ : CX} {z : Nat} {G : Nat → Nat → Nat} {F : Nat} (hb : cb φ = z) (hz : 295 ≤ z) (hG : lyX G) {I J : Nat → Nat → Int} {res : MI} (h : f_E_take_b39 F I = some res) (hE : ends g φ none none True (z, res, J, G)) : Zt l g φ mu_E_take 39 [some (vR g 4), none] [] (z, I, J, G) := by
  refine z_aload_n dX5_take_39 rfl ?_
  refine z_nm (fun hN5 => ?_)
  refine y_getI dX5_take_40 cl5 sh_4 (by decide) (Nat.le_trans (by decide) hz) 2 rfl rfl (fl_E_35) ?_
  refine z_if_ne (tgt := 56) dX5_take_43 (by decide) (hN5.1 4 2) (fun hc6 => ?_) (fun hc6 => ?_)
  · replace h := ifT hc6 h
    obtain rfl := someE h
    exact z_vret dX5_take_56 hE trivial rfl
  replace h := ifF (fun q => q hc6) h
  refine z_aload_n dX5_take_46 rfl ?_
  refine z_dup dX5_take_47 rfl ?_
  refine y_getI dX5_take_48 cl5 sh_4 (by decide) (Nat.le_trans (by decide) hz) 1 rfl rfl (fl_E_31) ?_
  refine z_iconst dX5_take_51 ?_
  refine z_iadd dX5_take_52 ?_
  refine y_putI dX5_take_53 cl5 sh_4 (by decide) (Nat.le_trans (by decide) hz) 1 rfl rfl rfl (fl_E_31) rfl rfl (inR_w32 _) ?_
  obtain rfl := someE h
  exact z_vret dX5_take_56 hE trivial rfl
set_option maxHeartbeats 1000000 in
theorem s_E_take {l : Launch} {g : GX} {z : Nat} {G : Nat → Nat → Nat} {F : Nat} (hz : 295 ≤ z) (hG : lyX G) {x1 : Int} {I J : Nat → Nat → Int} (hx1 : inR x1) {res : MI} (h : f_E_take F x1 I = some res) : Spec l g 1 yX5_take cX5_take 2 none [vR g 4, vI x1] (z, I, J, G) none True (z, res, J, G) := by
  refine spec_of (μ := mu_E_take) (k := 0) (L0 := [some (vR g 4), some (vI x1)]) rfl mw_E_take rfl rfl (Nat.le_refl _) (fun φ hb hE => ?_)
  refine z_aload_n dX5_take_0 rfl ?_
  refine y_getR dX5_take_1 cl5 sh_4 (by decide) (Nat.le_trans (by decide) hz) 0 rfl rfl (fl_E_12) (ly_4_0 hG) (by decide) ?_
  refine y_getNR (host := "FarewellStones") dX5_take_4 cl8 sh_5 (by decide) (Nat.le_trans (by decide) hz) 0 rfl rfl (flN_E_44) (ly_5_0 hG) (by decide) ?_
  refine z_aload_n dX5_take_7 rfl ?_
  refine z_nm (fun hN1 => ?_)
  refine y_getI dX5_take_8 cl5 sh_4 (by decide) (Nat.le_trans (by decide) hz) 1 rfl rfl (fl_E_31) ?_
  obtain ⟨hg2, h⟩ := guardE h
  refine y_iald dX5_take_11 sh_6 (by decide) (Nat.le_trans (by decide) hz) (hN1.1 4 1) hg2 ?_
  refine z_iload_n dX5_take_12 rfl ?_
  refine z_icmp_eq (tgt := 24) dX5_take_13 (by decide) (hN1.1 6 ((I 4 1)).toNat) hx1 (fun hc3 => ?_) (fun hc3 => ?_)
  · replace h := ifT hc3 h
    refine z_aload_n dX5_take_24 rfl ?_
    refine y_getI dX5_take_25 cl5 sh_4 (by decide) (Nat.le_trans (by decide) hz) 1 rfl rfl (fl_E_31) ?_
    refine z_sipush dX5_take_28 (by decide +kernel) ?_
    refine z_icmp_lt (tgt := 39) dX5_take_31 (by decide) (hN1.1 4 1) (inRd (x := 400) (by decide)) (fun hc4 => ?_) (fun hc4 => ?_)
    · replace h := ifT hc4 h
      refine z_weak (L' := [some (vR g 4), none]) (lsS (lsN ls0)) ?_
      exact t_E_take_b39 hb hz hG  h hE
    replace h := ifF hc4 h
    refine z_aload_n dX5_take_34 rfl ?_
    refine z_iconst dX5_take_35 ?_
    obtain ⟨q7, hq8, h⟩ := bindE h
    refine z_callV (As := [vI 2]) (rest := []) (s_E_fail hz hG (inRd (x := 2) (by decide)) hq8) dX5_take_36 mw_E_fail cl5 sh_4 (by decide) (Nat.le_trans (by decide) hz) ml_E_78 im_E_fail se_E_fail rfl rfl rfl rfl (Nat.le_refl _) (Nat.le_of_eq hb.symm) (fun hp9 => ?_)
    show Zt _ _ _ _ 39 _ [] (z, q7, J, G)
    refine z_weak (L' := [some (vR g 4), none]) (lsS (lsN ls0)) ?_
    exact t_E_take_b39 hb hz hG  h hE
  replace h := ifF hc3 h
  refine z_aload_n dX5_take_16 rfl ?_
  refine z_iconst dX5_take_17 ?_
  obtain ⟨q10, hq11, h⟩ := bindE h
  refine z_callV (As := [vI 1]) (rest := []) (s_E_fail hz hG (inRd (x := 1) (by decide)) hq11) dX5_take_18 mw_E_fail cl5 sh_4 (by decide) (Nat.le_trans (by decide) hz) ml_E_78 im_E_fail se_E_fail rfl rfl rfl rfl (Nat.le_refl _) (Nat.le_of_eq hb.symm) (fun hp12 => ?_)
  show Zt _ _ _ _ 21 _ [] (z, q10, J, G)
  refine z_goto (tgt := 39) dX5_take_21 (by decide) ?_
  refine z_weak (L' := [some (vR g 4), none]) (lsS (lsN ls0)) ?_
  exact t_E_take_b39 hb hz hG  h hE
set_option maxHeartbeats 1000000 in
theorem s_E_failLater {l : Launch} {g : GX} {z : Nat} {G : Nat → Nat → Nat} {F : Nat} (hz : 295 ≤ z) (hG : lyX G) {x1 : Int} {x2 : Int} {I J : Nat → Nat → Int} (hx1 : inR x1) (hx2 : inR x2) {res : MI} (h : f_E_failLater F x1 x2 I = some res) : Spec l g 0 yX5_failLater cX5_failLater 3 none [vR g 4, vI x1, vI x2] (z, I, J, G) none True (z, res, J, G) := by
  refine spec_of (μ := mu_E_failLater) (k := 0) (L0 := [some (vR g 4), some (vI x1), some (vI x2)]) rfl mw_E_failLater rfl rfl (Nat.le_refl _) (fun φ hb hE => ?_)
  refine z_aload_n dX5_failLater_0 rfl ?_
  refine z_nm (fun hN1 => ?_)
  refine y_getI dX5_failLater_1 cl5 sh_4 (by decide) (Nat.le_trans (by decide) hz) 4 rfl rfl (fl_E_38) ?_
  refine z_if_eq (tgt := 8) dX5_failLater_4 (by decide) (hN1.1 4 4) (fun hc2 => ?_) (fun hc2 => ?_)
  · replace h := ifT hc2 h
    refine z_aload_n dX5_failLater_8 rfl ?_
    refine z_iload_n dX5_failLater_9 rfl ?_
    refine y_putI dX5_failLater_10 cl5 sh_4 (by decide) (Nat.le_trans (by decide) hz) 4 rfl rfl rfl (fl_E_38) rfl rfl hx1 ?_
    refine z_aload_n dX5_failLater_13 rfl ?_
    refine z_iload_n dX5_failLater_14 rfl ?_
    refine y_putI dX5_failLater_15 cl5 sh_4 (by decide) (Nat.le_trans (by decide) hz) 5 rfl rfl rfl (fl_E_85) rfl rfl hx2 ?_
    obtain rfl := someE h
    exact z_vret dX5_failLater_18 hE trivial rfl
  replace h := ifF hc2 h
  obtain rfl := someE h
  exact z_vret dX5_failLater_7 hE trivial rfl
set_option maxHeartbeats 1000000 in
theorem t_E_takeInt_b55 {l : Launch} {g : GX} {φ : CX} {z : Nat} {G : Nat → Nat → Nat} {F : Nat} (hb : cb φ = z) (hz : 295 ≤ z) (hG : lyX G) {x1 : Int} {x4 : Int} {I J : Nat → Nat → Int} (hx1 : inR x1) (hx4 : inR x4) {res : Int × MI} (h : f_E_takeInt_b55 F x1 x4 I = some res) (hE : ends g φ (some .int) (some (vI res.1)) (inR res.1) (z, res.2, J, G)) : Zt l g φ mu_E_takeInt 55 [some (vR g 4), some (vI x1), none, none, some (vI x4)] [] (z, I, J, G) := by
  refine z_aload_n dX5_takeInt_55 rfl ?_
  refine z_iconst dX5_takeInt_56 ?_
  refine z_iload dX5_takeInt_57 rfl ?_
  obtain ⟨q9, hq10, h⟩ := bindE h
  refine z_callV (As := [vI 5, vI x4]) (rest := []) (s_E_failLater hz hG (inRd (x := 5) (by decide)) hx4 hq10) dX5_takeInt_59 mw_E_failLater cl5 sh_4 (by decide) (Nat.le_trans (by decide) hz) ml_E_138 im_E_failLater se_E_failLater rfl rfl rfl rfl (Nat.le_refl _) (Nat.le_of_eq hb.symm) (fun hp11 => ?_)
  show Zt _ _ _ _ 62 _ [] (z, q9, J, G)
  refine z_iload_n dX5_takeInt_62 rfl ?_
  obtain rfl := someE h
  exact z_iret dX5_takeInt_63 hE hx1 rfl
set_option maxHeartbeats 1000000 in
theorem s_E_takeInt {l : Launch} {g : GX} {z : Nat} {G : Nat → Nat → Nat} {F : Nat} (hz : 295 ≤ z) (hG : lyX G) {x1 : Int} {x2 : Int} {I J : Nat → Nat → Int} (hx1 : inR x1) (hx2 : inR x2) {res : Int × MI} (h : f_E_takeInt F x1 x2 I = some res) : Spec l g 2 yX5_takeInt cX5_takeInt 5 (some .int) [vR g 4, vI x1, vI x2] (z, I, J, G) (some (vI res.1)) (inR res.1) (z, res.2, J, G) := by
  refine spec_of (μ := mu_E_takeInt) (k := 2) (L0 := [some (vR g 4), some (vI x1), some (vI x2), none, none]) rfl mw_E_takeInt rfl rfl (Nat.le_refl _) (fun φ hb hE => ?_)
  refine z_aload_n dX5_takeInt_0 rfl ?_
  refine y_getR dX5_takeInt_1 cl5 sh_4 (by decide) (Nat.le_trans (by decide) hz) 0 rfl rfl (fl_E_12) (ly_4_0 hG) (by decide) ?_
  refine y_getNR (host := "FarewellStones") dX5_takeInt_4 cl8 sh_5 (by decide) (Nat.le_trans (by decide) hz) 3 rfl rfl (flN_E_181) (ly_5_3 hG) (by decide) ?_
  refine z_aload_n dX5_takeInt_7 rfl ?_
  refine z_nm (fun hN1 => ?_)
  refine y_getI dX5_takeInt_8 cl5 sh_4 (by decide) (Nat.le_trans (by decide) hz) 1 rfl rfl (fl_E_31) ?_
  obtain ⟨hg2, h⟩ := guardE h
  refine y_iald dX5_takeInt_11 sh_9 (by decide) (Nat.le_trans (by decide) hz) (hN1.1 4 1) hg2 ?_
  refine z_istore_n (L' := [some (vR g 4), some (vI x1), some (vI x2), some (vI (I 9 ((I 4 1)).toNat)), none]) dX5_takeInt_12 rfl rfl rfl ?_
  refine z_aload_n dX5_takeInt_13 rfl ?_
  refine y_getR dX5_takeInt_14 cl5 sh_4 (by decide) (Nat.le_trans (by decide) hz) 0 rfl rfl (fl_E_12) (ly_4_0 hG) (by decide) ?_
  refine y_getNR (host := "FarewellStones") dX5_takeInt_17 cl8 sh_5 (by decide) (Nat.le_trans (by decide) hz) 1 rfl rfl (flN_E_135) (ly_5_1 hG) (by decide) ?_
  refine z_aload_n dX5_takeInt_20 rfl ?_
  refine y_getI dX5_takeInt_21 cl5 sh_4 (by decide) (Nat.le_trans (by decide) hz) 1 rfl rfl (fl_E_31) ?_
  refine y_iald dX5_takeInt_24 sh_7 (by decide) (Nat.le_trans (by decide) hz) (hN1.1 4 1) hg2 ?_
  refine z_istore (L' := [some (vR g 4), some (vI x1), some (vI x2), some (vI (I 9 ((I 4 1)).toNat)), some (vI (I 7 ((I 4 1)).toNat))]) dX5_takeInt_25 rfl rfl rfl ?_
  refine z_aload_n dX5_takeInt_27 rfl ?_
  refine z_sipush dX5_takeInt_28 (by decide +kernel) ?_
  obtain ⟨q3, hq4, h⟩ := bindE h
  refine z_callV (As := [vI 301]) (rest := []) (s_E_take hz hG (inRd (x := 301) (by decide)) hq4) dX5_takeInt_31 mw_E_take cl5 sh_4 (by decide) (Nat.le_trans (by decide) hz) ml_E_88 im_E_take se_E_take rfl rfl rfl rfl (Nat.le_refl _) (Nat.le_of_eq hb.symm) (fun hp5 => ?_)
  show Zt _ _ _ _ 34 _ [] (z, q3, J, G)
  refine z_aload_n dX5_takeInt_34 rfl ?_
  refine z_nm (fun hN6 => ?_)
  refine y_getI dX5_takeInt_35 cl5 sh_4 (by decide) (Nat.le_trans (by decide) hz) 2 rfl rfl (fl_E_35) ?_
  refine z_if_eq (tgt := 43) dX5_takeInt_38 (by decide) (hN6.1 4 2) (fun hc7 => ?_) (fun hc7 => ?_)
  · replace h := ifT hc7 h
    refine z_iload_n dX5_takeInt_43 rfl ?_
    refine z_iload_n dX5_takeInt_44 rfl ?_
    refine z_icmp_lt (tgt := 55) dX5_takeInt_45 (by decide) (hN1.1 9 ((I 4 1)).toNat) hx1 (fun hc8 => ?_) (fun hc8 => ?_)
    · replace h := ifT hc8 h
      refine z_weak (L' := [some (vR g 4), some (vI x1), none, none, some (vI (I 7 ((I 4 1)).toNat))]) (lsS (lsS (lsN (lsN (lsS ls0))))) ?_
      exact t_E_takeInt_b55 hb hz hG hx1 (hN1.1 7 ((I 4 1)).toNat) h hE
    replace h := ifF hc8 h
    refine z_iload_n dX5_takeInt_48 rfl ?_
    refine z_iload_n dX5_takeInt_49 rfl ?_
    refine z_icmp_gt (tgt := 55) dX5_takeInt_50 (by decide) (hN1.1 9 ((I 4 1)).toNat) hx2 (fun hc12 => ?_) (fun hc12 => ?_)
    · replace h := ifT hc12 h
      refine z_weak (L' := [some (vR g 4), some (vI x1), none, none, some (vI (I 7 ((I 4 1)).toNat))]) (lsS (lsS (lsN (lsN (lsS ls0))))) ?_
      exact t_E_takeInt_b55 hb hz hG hx1 (hN1.1 7 ((I 4 1)).toNat) h hE
    replace h := ifF hc12 h
    refine z_iload_n dX5_takeInt_53 rfl ?_
    obtain rfl := someE h
    exact z_iret dX5_takeInt_54 hE (hN1.1 9 ((I 4 1)).toNat) rfl
  replace h := ifF hc7 h
  refine z_iload_n dX5_takeInt_41 rfl ?_
  obtain rfl := someE h
  exact z_iret dX5_takeInt_42 hE hx1 rfl
set_option maxHeartbeats 1000000 in
theorem t_E_readDepth_b14 {l : Launch} {g : GX} {φ : CX} {z : Nat} {G : Nat → Nat → Nat} {F : Nat} (hb : cb φ = z) (hz : 295 ≤ z) (hG : lyX G) {r1 : Nat} {I J : Nat → Nat → Int} (hr1 : isRiv r1) {res : MI} (h : f_E_readDepth_b14 F r1 I = some res) (hE : ends g φ none none True (z, res, J, G)) : Zt l g φ mu_E_readDepth 14 [some (vR g 4), some (vR g r1), none, none] [] (z, I, J, G) := by
  refine z_aload_n dX5_readDepth_14 rfl ?_
  refine z_dup dX5_readDepth_15 rfl ?_
  refine z_nm (fun hN3 => ?_)
  refine y_getI dX5_readDepth_16 cl5 sh_4 (by decide) (Nat.le_trans (by decide) hz) 6 rfl rfl (fl_E_41) ?_
  refine z_iconst dX5_readDepth_19 ?_
  refine z_iadd dX5_readDepth_20 ?_
  refine y_putI dX5_readDepth_21 cl5 sh_4 (by decide) (Nat.le_trans (by decide) hz) 6 rfl rfl rfl (fl_E_41) rfl rfl (inR_w32 _) ?_
  refine z_aload_n dX5_readDepth_24 rfl ?_
  refine z_sipush dX5_readDepth_25 (by decide +kernel) ?_
  obtain ⟨q4, hq5, h⟩ := bindE h
  refine z_callV (As := [vI 257]) (rest := []) (s_E_take hz hG (inRd (x := 257) (by decide)) hq5) dX5_readDepth_28 mw_E_take cl5 sh_4 (by decide) (Nat.le_trans (by decide) hz) ml_E_88 im_E_take se_E_take rfl rfl rfl rfl (Nat.le_refl _) (Nat.le_of_eq hb.symm) (fun hp6 => ?_)
  show Zt _ _ _ _ 31 _ [] (z, q4, J, G)
  refine z_aload_n dX5_readDepth_31 rfl ?_
  refine z_iconst dX5_readDepth_32 ?_
  refine z_bipush dX5_readDepth_33 (by decide +kernel) ?_
  obtain ⟨q7, hq8, h⟩ := bindE h
  refine z_callV (As := [vI 0, vI 11]) (rest := []) (s_E_takeInt hz hG (inRd (x := 0) (by decide)) (inRd (x := 11) (by decide)) hq8) dX5_readDepth_35 mw_E_takeInt cl5 sh_4 (by decide) (Nat.le_trans (by decide) hz) ml_E_91 im_E_takeInt se_E_takeInt rfl rfl rfl rfl (Nat.le_refl _) (Nat.le_of_eq hb.symm) (fun hp9 => ?_)
  show Zt _ _ _ _ 38 _ [vI q7.1] (z, q7.2, J, G)
  refine z_istore_n (L' := [some (vR g 4), some (vR g r1), some (vI q7.1), none]) dX5_readDepth_38 rfl rfl rfl ?_
  refine z_aload_n dX5_readDepth_39 rfl ?_
  refine z_iconst dX5_readDepth_40 ?_
  refine z_bipush dX5_readDepth_41 (by decide +kernel) ?_
  obtain ⟨q10, hq11, h⟩ := bindE h
  refine z_callV (As := [vI 0, vI 7]) (rest := []) (s_E_takeInt hz hG (inRd (x := 0) (by decide)) (inRd (x := 7) (by decide)) hq11) dX5_readDepth_43 mw_E_takeInt cl5 sh_4 (by decide) (Nat.le_trans (by decide) hz) ml_E_91 im_E_takeInt se_E_takeInt rfl rfl rfl rfl (Nat.le_refl _) (Nat.le_of_eq hb.symm) (fun hp12 => ?_)
  show Zt _ _ _ _ 46 _ [vI q10.1] (z, q10.2, J, G)
  refine z_istore_n (L' := [some (vR g 4), some (vR g r1), some (vI q7.1), some (vI q10.1)]) dX5_readDepth_46 rfl rfl rfl ?_
  refine z_aload_n dX5_readDepth_47 rfl ?_
  refine y_getNR (host := "FarewellStones") dX5_readDepth_48 cl6 (riv_sh hr1) (riv_pos hr1) (Nat.le_trans (riv_le hr1) hz) 3 rfl rfl (flN_E_101) (riv_g3 hG hr1) (Nat.succ_pos _) ?_
  refine z_iload_n dX5_readDepth_51 rfl ?_
  refine z_iload_n dX5_readDepth_52 rfl ?_
  obtain ⟨q13, hq14, h⟩ := bindE h
  refine z_callSN (host := "FarewellStones") (As := [vI q7.1, vI q10.1]) (rest := [vR g (r1 + 1)]) (s_X_cellNumber hz hG hp9 hp12 hq14) dX5_readDepth_53 mw_X_cellNumber mlN_E_103 st_X_cellNumber rfl rfl rfl rfl (Nat.le_refl _) (Nat.le_of_eq hb.symm) (fun hp15 => ?_)
  show Zt _ _ _ _ 56 _ [vI q13, vR g (r1 + 1)] (z, q10.2, J, G)
  refine z_aload_n dX5_readDepth_56 rfl ?_
  refine z_iconst dX5_readDepth_57 ?_
  refine z_bipush dX5_readDepth_58 (by decide +kernel) ?_
  obtain ⟨q16, hq17, h⟩ := bindE h
  refine z_callV (As := [vI 0, vI 9]) (rest := [vI q13, vR g (r1 + 1)]) (s_E_takeInt hz hG (inRd (x := 0) (by decide)) (inRd (x := 9) (by decide)) hq17) dX5_readDepth_60 mw_E_takeInt cl5 sh_4 (by decide) (Nat.le_trans (by decide) hz) ml_E_91 im_E_takeInt se_E_takeInt rfl rfl rfl rfl (Nat.le_refl _) (Nat.le_of_eq hb.symm) (fun hp18 => ?_)
  show Zt _ _ _ _ 63 _ [vI q16.1, vI q13, vR g (r1 + 1)] (z, q16.2, J, G)
  obtain ⟨hg19, h⟩ := guardE h
  refine y_iast dX5_readDepth_63 (riv_sh3 hr1) (Nat.succ_pos _) (Nat.le_trans (riv_le3 hr1) hz) hp15 hg19 hp18 ?_
  refine z_aload_n dX5_readDepth_64 rfl ?_
  refine z_bipush dX5_readDepth_65 (by decide +kernel) ?_
  obtain ⟨q20, hq21, h⟩ := bindE h
  refine z_callV (As := [vI 59]) (rest := []) (s_E_take hz hG (inRd (x := 59) (by decide)) hq21) dX5_readDepth_67 mw_E_take cl5 sh_4 (by decide) (Nat.le_trans (by decide) hz) ml_E_88 im_E_take se_E_take rfl rfl rfl rfl (Nat.le_refl _) (Nat.le_of_eq hb.symm) (fun hp22 => ?_)
  show Zt _ _ _ _ 70 _ [] (z, q20, J, G)
  obtain rfl := someE h
  exact z_vret dX5_readDepth_70 hE trivial rfl
set_option maxHeartbeats 1000000 in
theorem s_E_readDepth {l : Launch} {g : GX} {z : Nat} {G : Nat → Nat → Nat} {F : Nat} (hz : 295 ≤ z) (hG : lyX G) {r1 : Nat} {I J : Nat → Nat → Int} (hr1 : isRiv r1) {res : MI} (h : f_E_readDepth F r1 I = some res) : Spec l g 3 yX5_readDepth cX5_readDepth 4 none [vR g 4, vR g r1] (z, I, J, G) none True (z, res, J, G) := by
  refine spec_of (μ := mu_E_readDepth) (k := 2) (L0 := [some (vR g 4), some (vR g r1), none, none]) rfl mw_E_readDepth rfl rfl (Nat.le_refl _) (fun φ hb hE => ?_)
  refine z_aload_n dX5_readDepth_0 rfl ?_
  refine z_nm (fun hN1 => ?_)
  refine y_getI dX5_readDepth_1 cl5 sh_4 (by decide) (Nat.le_trans (by decide) hz) 6 rfl rfl (fl_E_41) ?_
  refine z_bipush dX5_readDepth_4 (by decide +kernel) ?_
  refine z_icmp_lt (tgt := 14) dX5_readDepth_6 (by decide) (hN1.1 4 6) (inRd (x := 20) (by decide)) (fun hc2 => ?_) (fun hc2 => ?_)
  · replace h := ifT hc2 h
    exact t_E_readDepth_b14 hb hz hG hr1 h hE
  replace h := ifF hc2 h
  refine z_aload_n dX5_readDepth_9 rfl ?_
  refine z_iconst dX5_readDepth_10 ?_
  obtain ⟨q23, hq24, h⟩ := bindE h
  refine z_callV (As := [vI 2]) (rest := []) (s_E_fail hz hG (inRd (x := 2) (by decide)) hq24) dX5_readDepth_11 mw_E_fail cl5 sh_4 (by decide) (Nat.le_trans (by decide) hz) ml_E_78 im_E_fail se_E_fail rfl rfl rfl rfl (Nat.le_refl _) (Nat.le_of_eq hb.symm) (fun hp25 => ?_)
  show Zt _ _ _ _ 14 _ [] (z, q23, J, G)
  exact t_E_readDepth_b14 hb hz hG hr1 h hE
set_option maxHeartbeats 1000000 in
theorem s_E_readFlood {l : Launch} {g : GX} {z : Nat} {G : Nat → Nat → Nat} {F : Nat} (hz : 295 ≤ z) (hG : lyX G) {r1 : Nat} {I J : Nat → Nat → Int} (hr1 : isRiv r1) {res : MI} (h : f_E_readFlood F r1 I = some res) : Spec l g 3 yX5_readFlood cX5_readFlood 3 none [vR g 4, vR g r1] (z, I, J, G) none True (z, res, J, G) := by
  refine spec_of (μ := mu_E_readFlood) (k := 1) (L0 := [some (vR g 4), some (vR g r1), none]) rfl mw_E_readFlood rfl rfl (Nat.le_refl _) (fun φ hb hE => ?_)
  refine z_aload_n dX5_readFlood_0 rfl ?_
  refine z_nm (fun hN1 => ?_)
  refine y_getNI (host := "FarewellStones") dX5_readFlood_1 cl6 (riv_sh hr1) (riv_pos hr1) (Nat.le_trans (riv_le hr1) hz) 10 rfl rfl (flN_E_149) ?_
  refine z_istore_n (L' := [some (vR g 4), some (vR g r1), some (vI (I r1 10))]) dX5_readFlood_4 rfl rfl rfl ?_
  refine z_iload_n dX5_readFlood_5 rfl ?_
  refine z_bipush dX5_readFlood_6 (by decide +kernel) ?_
  refine z_icmp_lt (tgt := 17) dX5_readFlood_8 (by decide) (hN1.1 r1 10) (inRd (x := 8) (by decide)) (fun hc2 => ?_) (fun hc2 => ?_)
  · replace h := ifT hc2 h
    refine z_aload_n dX5_readFlood_17 rfl ?_
    refine z_sipush dX5_readFlood_18 (by decide +kernel) ?_
    obtain ⟨q3, hq4, h⟩ := bindE h
    refine z_callV (As := [vI 261]) (rest := []) (s_E_take hz hG (inRd (x := 261) (by decide)) hq4) dX5_readFlood_21 mw_E_take cl5 sh_4 (by decide) (Nat.le_trans (by decide) hz) ml_E_88 im_E_take se_E_take rfl rfl rfl rfl (Nat.le_refl _) (Nat.le_of_eq hb.symm) (fun hp5 => ?_)
    show Zt _ _ _ _ 24 _ [] (z, q3, J, G)
    refine z_aload_n dX5_readFlood_24 rfl ?_
    refine y_getNR (host := "FarewellStones") dX5_readFlood_25 cl6 (riv_sh hr1) (riv_pos hr1) (Nat.le_trans (riv_le hr1) hz) 11 rfl rfl (flN_E_152) (riv_g11 hG hr1) (Nat.succ_pos _) ?_
    refine z_iload_n dX5_readFlood_28 rfl ?_
    refine z_aload_n dX5_readFlood_29 rfl ?_
    refine z_iconst dX5_readFlood_30 ?_
    refine z_sipush dX5_readFlood_31 (by decide +kernel) ?_
    obtain ⟨q6, hq7, h⟩ := bindE h
    refine z_callV (As := [vI 0, vI 199]) (rest := [vI (I r1 10), vR g (r1 + 7)]) (s_E_takeInt hz hG (inRd (x := 0) (by decide)) (inRd (x := 199) (by decide)) hq7) dX5_readFlood_34 mw_E_takeInt cl5 sh_4 (by decide) (Nat.le_trans (by decide) hz) ml_E_91 im_E_takeInt se_E_takeInt rfl rfl rfl rfl (Nat.le_refl _) (Nat.le_of_eq hb.symm) (fun hp8 => ?_)
    show Zt _ _ _ _ 37 _ [vI q6.1, vI (I r1 10), vR g (r1 + 7)] (z, q6.2, J, G)
    obtain ⟨hg9, h⟩ := guardE h
    refine y_iast dX5_readFlood_37 (riv_sh11 hr1) (Nat.succ_pos _) (Nat.le_trans (riv_le11 hr1) hz) (hN1.1 r1 10) hg9 hp8 ?_
    refine z_aload_n dX5_readFlood_38 rfl ?_
    refine y_getNR (host := "FarewellStones") dX5_readFlood_39 cl6 (riv_sh hr1) (riv_pos hr1) (Nat.le_trans (riv_le hr1) hz) 12 rfl rfl (flN_E_155) (riv_g12 hG hr1) (Nat.succ_pos _) ?_
    refine z_iload_n dX5_readFlood_42 rfl ?_
    refine z_aload_n dX5_readFlood_43 rfl ?_
    refine z_iconst dX5_readFlood_44 ?_
    refine z_bipush dX5_readFlood_45 (by decide +kernel) ?_
    obtain ⟨q10, hq11, h⟩ := bindE h
    refine z_callV (As := [vI 1, vI 12]) (rest := [vI (I r1 10), vR g (r1 + 8)]) (s_E_takeInt hz hG (inRd (x := 1) (by decide)) (inRd (x := 12) (by decide)) hq11) dX5_readFlood_47 mw_E_takeInt cl5 sh_4 (by decide) (Nat.le_trans (by decide) hz) ml_E_91 im_E_takeInt se_E_takeInt rfl rfl rfl rfl (Nat.le_refl _) (Nat.le_of_eq hb.symm) (fun hp12 => ?_)
    show Zt _ _ _ _ 50 _ [vI q10.1, vI (I r1 10), vR g (r1 + 8)] (z, q10.2, J, G)
    refine y_iast dX5_readFlood_50 (riv_sh12 hr1) (Nat.succ_pos _) (Nat.le_trans (riv_le12 hr1) hz) (hN1.1 r1 10) hg9 hp12 ?_
    refine z_aload_n dX5_readFlood_51 rfl ?_
    refine z_bipush dX5_readFlood_52 (by decide +kernel) ?_
    obtain ⟨q13, hq14, h⟩ := bindE h
    refine z_callV (As := [vI 59]) (rest := []) (s_E_take hz hG (inRd (x := 59) (by decide)) hq14) dX5_readFlood_54 mw_E_take cl5 sh_4 (by decide) (Nat.le_trans (by decide) hz) ml_E_88 im_E_take se_E_take rfl rfl rfl rfl (Nat.le_refl _) (Nat.le_of_eq hb.symm) (fun hp15 => ?_)
    show Zt _ _ _ _ 57 _ [] (z, q13, J, G)
    refine z_aload_n dX5_readFlood_57 rfl ?_
    refine z_dup dX5_readFlood_58 rfl ?_
    refine z_nm (fun hN16 => ?_)
    refine y_getNI (host := "FarewellStones") dX5_readFlood_59 cl6 (riv_sh hr1) (riv_pos hr1) (Nat.le_trans (riv_le hr1) hz) 10 rfl rfl (flN_E_149) ?_
    refine z_iconst dX5_readFlood_62 ?_
    refine z_iadd dX5_readFlood_63 ?_
    refine y_putNI (host := "FarewellStones") dX5_readFlood_64 cl6 (riv_sh hr1) (riv_pos hr1) (Nat.le_trans (riv_le hr1) hz) 10 rfl rfl rfl (flN_E_149) rfl rfl (inR_w32 _) ?_
    obtain rfl := someE h
    exact z_vret dX5_readFlood_67 hE trivial rfl
  replace h := ifF hc2 h
  refine z_aload_n dX5_readFlood_11 rfl ?_
  refine z_iconst dX5_readFlood_12 ?_
  obtain ⟨q17, hq18, h⟩ := bindE h
  refine z_callV (As := [vI 2]) (rest := []) (s_E_fail hz hG (inRd (x := 2) (by decide)) hq18) dX5_readFlood_13 mw_E_fail cl5 sh_4 (by decide) (Nat.le_trans (by decide) hz) ml_E_78 im_E_fail se_E_fail rfl rfl rfl rfl (Nat.le_refl _) (Nat.le_of_eq hb.symm) (fun hp19 => ?_)
  show Zt _ _ _ _ 16 _ [] (z, q17, J, G)
  obtain rfl := someE h
  exact z_vret dX5_readFlood_16 hE trivial rfl
set_option maxHeartbeats 1000000 in
theorem s_E_readFlow {l : Launch} {g : GX} {z : Nat} {G : Nat → Nat → Nat} {F : Nat} (hz : 295 ≤ z) (hG : lyX G) {r1 : Nat} {I J : Nat → Nat → Int} (hr1 : isRiv r1) {res : MI} (h : f_E_readFlow F r1 I = some res) : Spec l g 3 yX5_readFlow cX5_readFlow 3 none [vR g 4, vR g r1] (z, I, J, G) none True (z, res, J, G) := by
  refine spec_of (μ := mu_E_readFlow) (k := 1) (L0 := [some (vR g 4), some (vR g r1), none]) rfl mw_E_readFlow rfl rfl (Nat.le_refl _) (fun φ hb hE => ?_)
  refine z_aload_n dX5_readFlow_0 rfl ?_
  refine z_sipush dX5_readFlow_1 (by decide +kernel) ?_
  obtain ⟨q1, hq2, h⟩ := bindE h
  refine z_callV (As := [vI 258]) (rest := []) (s_E_take hz hG (inRd (x := 258) (by decide)) hq2) dX5_readFlow_4 mw_E_take cl5 sh_4 (by decide) (Nat.le_trans (by decide) hz) ml_E_88 im_E_take se_E_take rfl rfl rfl rfl (Nat.le_refl _) (Nat.le_of_eq hb.symm) (fun hp3 => ?_)
  show Zt _ _ _ _ 7 _ [] (z, q1, J, G)
  refine z_aload_n dX5_readFlow_7 rfl ?_
  refine z_iconst dX5_readFlow_8 ?_
  refine z_bipush dX5_readFlow_9 (by decide +kernel) ?_
  obtain ⟨q4, hq5, h⟩ := bindE h
  refine z_callV (As := [vI 0, vI 7]) (rest := []) (s_E_takeInt hz hG (inRd (x := 0) (by decide)) (inRd (x := 7) (by decide)) hq5) dX5_readFlow_11 mw_E_takeInt cl5 sh_4 (by decide) (Nat.le_trans (by decide) hz) ml_E_91 im_E_takeInt se_E_takeInt rfl rfl rfl rfl (Nat.le_refl _) (Nat.le_of_eq hb.symm) (fun hp6 => ?_)
  show Zt _ _ _ _ 14 _ [vI q4.1] (z, q4.2, J, G)
  refine z_istore_n (L' := [some (vR g 4), some (vR g r1), some (vI q4.1)]) dX5_readFlow_14 rfl rfl rfl ?_
  refine z_aload_n dX5_readFlow_15 rfl ?_
  refine y_getNR (host := "FarewellStones") dX5_readFlow_16 cl6 (riv_sh hr1) (riv_pos hr1) (Nat.le_trans (riv_le hr1) hz) 4 rfl rfl (flN_E_106) (riv_g4 hG hr1) (Nat.succ_pos _) ?_
  refine z_iload_n dX5_readFlow_19 rfl ?_
  refine z_aload_n dX5_readFlow_20 rfl ?_
  refine z_iconst dX5_readFlow_21 ?_
  refine z_bipush dX5_readFlow_22 (by decide +kernel) ?_
  obtain ⟨q7, hq8, h⟩ := bindE h
  refine z_callV (As := [vI 0, vI 9]) (rest := [vI q4.1, vR g (r1 + 2)]) (s_E_takeInt hz hG (inRd (x := 0) (by decide)) (inRd (x := 9) (by decide)) hq8) dX5_readFlow_24 mw_E_takeInt cl5 sh_4 (by decide) (Nat.le_trans (by decide) hz) ml_E_91 im_E_takeInt se_E_takeInt rfl rfl rfl rfl (Nat.le_refl _) (Nat.le_of_eq hb.symm) (fun hp9 => ?_)
  show Zt _ _ _ _ 27 _ [vI q7.1, vI q4.1, vR g (r1 + 2)] (z, q7.2, J, G)
  obtain ⟨hg10, h⟩ := guardE h
  refine y_iast dX5_readFlow_27 (riv_sh4 hr1) (Nat.succ_pos _) (Nat.le_trans (riv_le4 hr1) hz) hp6 hg10 hp9 ?_
  refine z_aload_n dX5_readFlow_28 rfl ?_
  refine z_bipush dX5_readFlow_29 (by decide +kernel) ?_
  obtain ⟨q11, hq12, h⟩ := bindE h
  refine z_callV (As := [vI 59]) (rest := []) (s_E_take hz hG (inRd (x := 59) (by decide)) hq12) dX5_readFlow_31 mw_E_take cl5 sh_4 (by decide) (Nat.le_trans (by decide) hz) ml_E_88 im_E_take se_E_take rfl rfl rfl rfl (Nat.le_refl _) (Nat.le_of_eq hb.symm) (fun hp13 => ?_)
  show Zt _ _ _ _ 34 _ [] (z, q11, J, G)
  obtain rfl := someE h
  exact z_vret dX5_readFlow_34 hE trivial rfl
set_option maxHeartbeats 1000000 in
theorem s_E_isEither {l : Launch} {g : GX} {z : Nat} {G : Nat → Nat → Nat} {F : Nat} (hz : 295 ≤ z) (hG : lyX G) {x1 : Int} {x2 : Int} {I J : Nat → Nat → Int} (hx1 : inR x1) (hx2 : inR x2) {res : Int} (h : f_E_isEither F x1 x2 I = some res) : Spec l g 0 yX5_isEither cX5_isEither 3 (some .boolean) [vR g 4, vI x1, vI x2] (z, I, J, G) (some (vI res)) (res = 0 ∨ res = 1) (z, I, J, G) := by
  refine spec_of (μ := mu_E_isEither) (k := 0) (L0 := [some (vR g 4), some (vI x1), some (vI x2)]) rfl mw_E_isEither rfl rfl (Nat.le_refl _) (fun φ hb hE => ?_)
  refine z_aload_n dX5_isEither_0 rfl ?_
  refine y_getR dX5_isEither_1 cl5 sh_4 (by decide) (Nat.le_trans (by decide) hz) 0 rfl rfl (fl_E_12) (ly_4_0 hG) (by decide) ?_
  refine y_getNR (host := "FarewellStones") dX5_isEither_4 cl8 sh_5 (by decide) (Nat.le_trans (by decide) hz) 0 rfl rfl (flN_E_44) (ly_5_0 hG) (by decide) ?_
  refine z_aload_n dX5_isEither_7 rfl ?_
  refine z_nm (fun hN1 => ?_)
  refine y_getI dX5_isEither_8 cl5 sh_4 (by decide) (Nat.le_trans (by decide) hz) 1 rfl rfl (fl_E_31) ?_
  obtain ⟨hg2, h⟩ := guardE h
  refine y_iald dX5_isEither_11 sh_6 (by decide) (Nat.le_trans (by decide) hz) (hN1.1 4 1) hg2 ?_
  refine z_iload_n dX5_isEither_12 rfl ?_
  refine z_icmp_eq (tgt := 32) dX5_isEither_13 (by decide) (hN1.1 6 ((I 4 1)).toNat) hx1 (fun hc3 => ?_) (fun hc3 => ?_)
  · replace h := ifT hc3 h
    refine z_iconst dX5_isEither_32 ?_
    refine z_goto (tgt := 37) dX5_isEither_33 (by decide) ?_
    obtain rfl := someE h
    exact z_zret dX5_isEither_37 hE b01_1 b01_1 rfl
  replace h := ifF hc3 h
  refine z_aload_n dX5_isEither_16 rfl ?_
  refine y_getR dX5_isEither_17 cl5 sh_4 (by decide) (Nat.le_trans (by decide) hz) 0 rfl rfl (fl_E_12) (ly_4_0 hG) (by decide) ?_
  refine y_getNR (host := "FarewellStones") dX5_isEither_20 cl8 sh_5 (by decide) (Nat.le_trans (by decide) hz) 0 rfl rfl (flN_E_44) (ly_5_0 hG) (by decide) ?_
  refine z_aload_n dX5_isEither_23 rfl ?_
  refine y_getI dX5_isEither_24 cl5 sh_4 (by decide) (Nat.le_trans (by decide) hz) 1 rfl rfl (fl_E_31) ?_
  refine y_iald dX5_isEither_27 sh_6 (by decide) (Nat.le_trans (by decide) hz) (hN1.1 4 1) hg2 ?_
  refine z_iload_n dX5_isEither_28 rfl ?_
  refine z_icmp_ne (tgt := 36) dX5_isEither_29 (by decide) (hN1.1 6 ((I 4 1)).toNat) hx2 (fun hc4 => ?_) (fun hc4 => ?_)
  · replace h := ifT hc4 h
    refine z_iconst dX5_isEither_36 ?_
    obtain rfl := someE h
    exact z_zret dX5_isEither_37 hE b01_0 b01_0 rfl
  replace h := ifF (fun q => q hc4) h
  refine z_iconst dX5_isEither_32 ?_
  refine z_goto (tgt := 37) dX5_isEither_33 (by decide) ?_
  obtain rfl := someE h
  exact z_zret dX5_isEither_37 hE b01_1 b01_1 rfl
set_option maxHeartbeats 1000000 in
theorem t_E_readUnit_b89 {l : Launch} {g : GX} {φ : CX} {z : Nat} {G : Nat → Nat → Nat} {F : Nat} {ds : Nat} (hb : cb φ = z) (hz : 295 ≤ z) (hG : lyX G) (hds : 5 ≤ ds) {rs : Nat → Int → MI → Option MI} (hrs : rsOK l g ds rs) {r1 : Nat} {x2 : Int} {x3 : Int} {I J : Nat → Nat → Int} (hr1 : isLaw r1) (hx2 : inR x2) (hx3 : inR x3) {res : MI} (h : f_E_readUnit_b89 F rs r1 x2 x3 I = some res) (hE : ends g φ none none True (z, res, J, G)) : Zt l g φ (mu_E_readUnit ds) 89 [some (vR g 4), some (vR g r1), some (vI x2), some (vI x3)] [] (z, I, J, G) := by
  refine z_iload_n dX5_readUnit_89 rfl ?_
  refine z_bipush dX5_readUnit_90 (by decide +kernel) ?_
  refine z_icmp_eq (tgt := 103) dX5_readUnit_92 (by decide) hx3 (inRd (x := 40) (by decide)) (fun hc6 => ?_) (fun hc6 => ?_)
  · replace h := ifT hc6 h
    refine z_iload_n dX5_readUnit_103 rfl ?_
    refine z_bipush dX5_readUnit_104 (by decide +kernel) ?_
    refine z_icmp_lt (tgt := 117) dX5_readUnit_106 (by decide) hx2 (inRd (x := 6) (by decide)) (fun hc7 => ?_) (fun hc7 => ?_)
    · replace h := ifT hc7 h
      refine z_aload_n dX5_readUnit_117 rfl ?_
      refine z_bipush dX5_readUnit_118 (by decide +kernel) ?_
      obtain ⟨q8, hq9, h⟩ := bindE h
      refine z_callV (As := [vI 40]) (rest := []) (s_E_take hz hG (inRd (x := 40) (by decide)) hq9) dX5_readUnit_120 mw_E_take cl5 sh_4 (by decide) (Nat.le_trans (by decide) hz) ml_E_88 im_E_take se_E_take (Nat.ble_eq.mpr (show 1 + 1 ≤ ds + 1 by omega)) rfl rfl rfl (Nat.le_refl _) (Nat.le_of_eq hb.symm) (fun hp10 => ?_)
      show Zt _ _ _ _ 123 _ [] (z, q8, J, G)
      refine z_aload_n dX5_readUnit_123 rfl ?_
      refine z_aload_n dX5_readUnit_124 rfl ?_
      refine z_iload_n dX5_readUnit_125 rfl ?_
      refine z_iconst dX5_readUnit_126 ?_
      refine z_iadd dX5_readUnit_127 ?_
      obtain ⟨q11, hq12, h⟩ := bindE h
      refine z_callV (As := [vR g r1, vI (w32 (x2 + 1))]) (rest := []) (hrs _ _ _ _ hz hG _ _ hr1 (inR_w32 _) _ hq12) dX5_readUnit_128 mw_E_readSum cl5 sh_4 (by decide) (Nat.le_trans (by decide) hz) ml_E_161 im_E_readSum se_E_readSum (Nat.ble_eq.mpr (show ds + 1 ≤ ds + 1 by omega)) rfl rfl rfl (Nat.le_refl _) (Nat.le_of_eq hb.symm) (fun hp13 => ?_)
      show Zt _ _ _ _ 131 _ [] (z, q11, J, G)
      refine z_aload_n dX5_readUnit_131 rfl ?_
      refine z_bipush dX5_readUnit_132 (by decide +kernel) ?_
      obtain ⟨q14, hq15, h⟩ := bindE h
      refine z_callV (As := [vI 41]) (rest := []) (s_E_take hz hG (inRd (x := 41) (by decide)) hq15) dX5_readUnit_134 mw_E_take cl5 sh_4 (by decide) (Nat.le_trans (by decide) hz) ml_E_88 im_E_take se_E_take (Nat.ble_eq.mpr (show 1 + 1 ≤ ds + 1 by omega)) rfl rfl rfl (Nat.le_refl _) (Nat.le_of_eq hb.symm) (fun hp16 => ?_)
      show Zt _ _ _ _ 137 _ [] (z, q14, J, G)
      obtain rfl := someE h
      exact z_vret dX5_readUnit_137 hE trivial rfl
    replace h := ifF hc7 h
    refine z_aload_n dX5_readUnit_109 rfl ?_
    refine z_iconst dX5_readUnit_110 ?_
    obtain ⟨q17, hq18, h⟩ := bindE h
    refine z_callV (As := [vI 2]) (rest := []) (s_E_fail hz hG (inRd (x := 2) (by decide)) hq18) dX5_readUnit_111 mw_E_fail cl5 sh_4 (by decide) (Nat.le_trans (by decide) hz) ml_E_78 im_E_fail se_E_fail (Nat.ble_eq.mpr (show 0 + 1 ≤ ds + 1 by omega)) rfl rfl rfl (Nat.le_refl _) (Nat.le_of_eq hb.symm) (fun hp19 => ?_)
    show Zt _ _ _ _ 114 _ [] (z, q17, J, G)
    refine z_goto (tgt := 137) dX5_readUnit_114 (by decide) ?_
    obtain rfl := someE h
    exact z_vret dX5_readUnit_137 hE trivial rfl
  replace h := ifF hc6 h
  refine z_aload_n dX5_readUnit_95 rfl ?_
  refine z_iconst dX5_readUnit_96 ?_
  obtain ⟨q20, hq21, h⟩ := bindE h
  refine z_callV (As := [vI 1]) (rest := []) (s_E_fail hz hG (inRd (x := 1) (by decide)) hq21) dX5_readUnit_97 mw_E_fail cl5 sh_4 (by decide) (Nat.le_trans (by decide) hz) ml_E_78 im_E_fail se_E_fail (Nat.ble_eq.mpr (show 0 + 1 ≤ ds + 1 by omega)) rfl rfl rfl (Nat.le_refl _) (Nat.le_of_eq hb.symm) (fun hp22 => ?_)
  show Zt _ _ _ _ 100 _ [] (z, q20, J, G)
  refine z_goto (tgt := 137) dX5_readUnit_100 (by decide) ?_
  obtain rfl := someE h
  exact z_vret dX5_readUnit_137 hE trivial rfl
set_option maxHeartbeats 1000000 in
theorem s_E_readUnit {l : Launch} {g : GX} {z : Nat} {G : Nat → Nat → Nat} {F : Nat} {ds : Nat} (hz : 295 ≤ z) (hG : lyX G) (hds : 5 ≤ ds) {rs : Nat → Int → MI → Option MI} (hrs : rsOK l g ds rs) {r1 : Nat} {x2 : Int} {I J : Nat → Nat → Int} (hr1 : isLaw r1) (hx2 : inR x2) {res : MI} (h : f_E_readUnit F rs r1 x2 I = some res) : Spec l g (ds + 1) yX5_readUnit cX5_readUnit 4 none [vR g 4, vR g r1, vI x2] (z, I, J, G) none True (z, res, J, G) := by
  refine spec_of (μ := (mu_E_readUnit ds)) (k := 1) (L0 := [some (vR g 4), some (vR g r1), some (vI x2), none]) rfl mw_E_readUnit rfl rfl (Nat.le_refl _) (fun φ hb hE => ?_)
  refine z_aload_n dX5_readUnit_0 rfl ?_
  refine z_nm (fun hN1 => ?_)
  refine y_getI dX5_readUnit_1 cl5 sh_4 (by decide) (Nat.le_trans (by decide) hz) 2 rfl rfl (fl_E_35) ?_
  refine z_if_eq (tgt := 8) dX5_readUnit_4 (by decide) (hN1.1 4 2) (fun hc2 => ?_) (fun hc2 => ?_)
  · replace h := ifT hc2 h
    refine z_aload_n dX5_readUnit_8 rfl ?_
    refine y_getR dX5_readUnit_9 cl5 sh_4 (by decide) (Nat.le_trans (by decide) hz) 0 rfl rfl (fl_E_12) (ly_4_0 hG) (by decide) ?_
    refine y_getNR (host := "FarewellStones") dX5_readUnit_12 cl8 sh_5 (by decide) (Nat.le_trans (by decide) hz) 0 rfl rfl (flN_E_44) (ly_5_0 hG) (by decide) ?_
    refine z_aload_n dX5_readUnit_15 rfl ?_
    refine y_getI dX5_readUnit_16 cl5 sh_4 (by decide) (Nat.le_trans (by decide) hz) 1 rfl rfl (fl_E_31) ?_
    obtain ⟨hg3, h⟩ := guardE h
    refine y_iald dX5_readUnit_19 sh_6 (by decide) (Nat.le_trans (by decide) hz) (hN1.1 4 1) hg3 ?_
    refine z_istore_n (L' := [some (vR g 4), some (vR g r1), some (vI x2), some (vI (I 6 ((I 4 1)).toNat))]) dX5_readUnit_20 rfl rfl rfl ?_
    refine z_iload_n dX5_readUnit_21 rfl ?_
    refine z_sipush dX5_readUnit_22 (by decide +kernel) ?_
    refine z_icmp_ne (tgt := 56) dX5_readUnit_25 (by decide) (hN1.1 6 ((I 4 1)).toNat) (inRd (x := 301) (by decide)) (fun hc4 => ?_) (fun hc4 => ?_)
    · replace h := ifT hc4 h
      refine z_iload_n dX5_readUnit_56 rfl ?_
      refine z_sipush dX5_readUnit_57 (by decide +kernel) ?_
      refine z_icmp_lt (tgt := 89) dX5_readUnit_60 (by decide) (hN1.1 6 ((I 4 1)).toNat) (inRd (x := 267) (by decide)) (fun hc5 => ?_) (fun hc5 => ?_)
      · replace h := ifT hc5 h
        exact t_E_readUnit_b89 hb hz hG hds hrs hr1 hx2 (hN1.1 6 ((I 4 1)).toNat) h hE
      replace h := ifF hc5 h
      refine z_iload_n dX5_readUnit_63 rfl ?_
      refine z_sipush dX5_readUnit_64 (by decide +kernel) ?_
      refine z_icmp_gt (tgt := 89) dX5_readUnit_67 (by decide) (hN1.1 6 ((I 4 1)).toNat) (inRd (x := 272) (by decide)) (fun hc23 => ?_) (fun hc23 => ?_)
      · replace h := ifT hc23 h
        exact t_E_readUnit_b89 hb hz hG hds hrs hr1 hx2 (hN1.1 6 ((I 4 1)).toNat) h hE
      replace h := ifF hc23 h
      refine z_aload_n dX5_readUnit_70 rfl ?_
      refine z_iconst dX5_readUnit_71 ?_
      refine z_iload_n dX5_readUnit_72 rfl ?_
      refine z_sipush dX5_readUnit_73 (by decide +kernel) ?_
      refine z_isub dX5_readUnit_76 ?_
      obtain ⟨q24, hq25, h⟩ := bindE h
      refine z_callV (As := [vI 1, vI (w32 ((I 6 ((I 4 1)).toNat) - 267))]) (rest := []) (s_W_put hz hG hr1 (inRd (x := 1) (by decide)) (inR_w32 _) hq25) dX5_readUnit_77 mw_W_put cl3 (law_sh hr1) (law_pos hr1) (Nat.le_trans (law_le hr1) hz) ml_E_165 im_W_put se_W_put (Nat.ble_eq.mpr (show 0 + 1 ≤ ds + 1 by omega)) rfl rfl rfl (Nat.le_refl _) (Nat.le_of_eq hb.symm) (fun hp26 => ?_)
      show Zt _ _ _ _ 80 _ [vI q24.1] (z, q24.2, J, G)
      refine z_pop dX5_readUnit_80 rfl ?_
      refine z_aload_n dX5_readUnit_81 rfl ?_
      refine z_iload_n dX5_readUnit_82 rfl ?_
      obtain ⟨q27, hq28, h⟩ := bindE h
      refine z_callV (As := [vI (I 6 ((I 4 1)).toNat)]) (rest := []) (s_E_take hz hG (hN1.1 6 ((I 4 1)).toNat) hq28) dX5_readUnit_83 mw_E_take cl5 sh_4 (by decide) (Nat.le_trans (by decide) hz) ml_E_88 im_E_take se_E_take (Nat.ble_eq.mpr (show 1 + 1 ≤ ds + 1 by omega)) rfl rfl rfl (Nat.le_refl _) (Nat.le_of_eq hb.symm) (fun hp29 => ?_)
      show Zt _ _ _ _ 86 _ [] (z, q27, J, G)
      refine z_goto (tgt := 137) dX5_readUnit_86 (by decide) ?_
      obtain rfl := someE h
      exact z_vret dX5_readUnit_137 hE trivial rfl
    replace h := ifF (fun q => q hc4) h
    refine z_aload_n dX5_readUnit_28 rfl ?_
    refine z_iconst dX5_readUnit_29 ?_
    refine z_aload_n dX5_readUnit_30 rfl ?_
    refine y_getR dX5_readUnit_31 cl5 sh_4 (by decide) (Nat.le_trans (by decide) hz) 0 rfl rfl (fl_E_12) (ly_4_0 hG) (by decide) ?_
    refine y_getNR (host := "FarewellStones") dX5_readUnit_34 cl8 sh_5 (by decide) (Nat.le_trans (by decide) hz) 3 rfl rfl (flN_E_181) (ly_5_3 hG) (by decide) ?_
    refine z_aload_n dX5_readUnit_37 rfl ?_
    refine y_getI dX5_readUnit_38 cl5 sh_4 (by decide) (Nat.le_trans (by decide) hz) 1 rfl rfl (fl_E_31) ?_
    refine y_iald dX5_readUnit_41 sh_9 (by decide) (Nat.le_trans (by decide) hz) (hN1.1 4 1) hg3 ?_
    obtain ⟨q30, hq31, h⟩ := bindE h
    refine z_callV (As := [vI 0, vI (I 9 ((I 4 1)).toNat)]) (rest := []) (s_W_put hz hG hr1 (inRd (x := 0) (by decide)) (hN1.1 9 ((I 4 1)).toNat) hq31) dX5_readUnit_42 mw_W_put cl3 (law_sh hr1) (law_pos hr1) (Nat.le_trans (law_le hr1) hz) ml_E_165 im_W_put se_W_put (Nat.ble_eq.mpr (show 0 + 1 ≤ ds + 1 by omega)) rfl rfl rfl (Nat.le_refl _) (Nat.le_of_eq hb.symm) (fun hp32 => ?_)
    show Zt _ _ _ _ 45 _ [vI q30.1] (z, q30.2, J, G)
    refine z_pop dX5_readUnit_45 rfl ?_
    refine z_aload_n dX5_readUnit_46 rfl ?_
    refine z_sipush dX5_readUnit_47 (by decide +kernel) ?_
    obtain ⟨q33, hq34, h⟩ := bindE h
    refine z_callV (As := [vI 301]) (rest := []) (s_E_take hz hG (inRd (x := 301) (by decide)) hq34) dX5_readUnit_50 mw_E_take cl5 sh_4 (by decide) (Nat.le_trans (by decide) hz) ml_E_88 im_E_take se_E_take (Nat.ble_eq.mpr (show 1 + 1 ≤ ds + 1 by omega)) rfl rfl rfl (Nat.le_refl _) (Nat.le_of_eq hb.symm) (fun hp35 => ?_)
    show Zt _ _ _ _ 53 _ [] (z, q33, J, G)
    refine z_goto (tgt := 137) dX5_readUnit_53 (by decide) ?_
    obtain rfl := someE h
    exact z_vret dX5_readUnit_137 hE trivial rfl
  replace h := ifF hc2 h
  obtain rfl := someE h
  exact z_vret dX5_readUnit_7 hE trivial rfl
set_option maxHeartbeats 1000000 in
theorem t_E_readProduct_b55in8 {l : Launch} {g : GX} {φ : CX} {z : Nat} {G : Nat → Nat → Nat} {F : Nat} {ds : Nat} (hb : cb φ = z) (hz : 295 ≤ z) (hG : lyX G) (hds : 5 ≤ ds) {rs : Nat → Int → MI → Option MI} (hrs : rsOK l g ds rs) {r1 : Nat} {x2 : Int} {x3 : Int} {s0 : Int} {I J : Nat → Nat → Int} (hr1 : isLaw r1) (hx2 : inR x2) (hx3 : inR x3) (hs0 : inR s0) {res : (MI) ⊕ (Int × MI)} (h : f_E_readProduct_b55in8 F rs r1 x2 x3 s0 I = some res) (kE : ∀ e : MI, res = .inl e → ((True) → Zt l g φ (mu_E_readProduct ds) 93 [none, none, none, none, none] [] (z, e, J, G))) (kS : ∀ s : Int × MI, res = .inr s → (inR s.1) → Zt l g φ (mu_E_readProduct ds) 8 [some (vR g 4), some (vR g r1), some (vI x2), some (vI s.1), none] [] (z, s.2, J, G)) : Zt l g φ (mu_E_readProduct ds) 55 [some (vR g 4), some (vR g r1), some (vI x2), some (vI x3), none] [vI s0] (z, I, J, G) := by
  refine z_istore (L' := [some (vR g 4), some (vR g r1), some (vI x2), some (vI x3), some (vI s0)]) dX5_readProduct_55 rfl rfl rfl ?_
  refine z_aload_n dX5_readProduct_57 rfl ?_
  refine z_aload_n dX5_readProduct_58 rfl ?_
  refine y_getR dX5_readProduct_59 cl5 sh_4 (by decide) (Nat.le_trans (by decide) hz) 0 rfl rfl (fl_E_12) (ly_4_0 hG) (by decide) ?_
  refine y_getNR (host := "FarewellStones") dX5_readProduct_62 cl8 sh_5 (by decide) (Nat.le_trans (by decide) hz) 0 rfl rfl (flN_E_44) (ly_5_0 hG) (by decide) ?_
  refine z_aload_n dX5_readProduct_65 rfl ?_
  refine z_nm (fun hN13 => ?_)
  refine y_getI dX5_readProduct_66 cl5 sh_4 (by decide) (Nat.le_trans (by decide) hz) 1 rfl rfl (fl_E_31) ?_
  obtain ⟨hg14, h⟩ := guardE h
  refine y_iald dX5_readProduct_69 sh_6 (by decide) (Nat.le_trans (by decide) hz) (hN13.1 4 1) hg14 ?_
  obtain ⟨q15, hq16, h⟩ := bindE h
  refine z_callV (As := [vI (I 6 ((I 4 1)).toNat)]) (rest := []) (s_E_take hz hG (hN13.1 6 ((I 4 1)).toNat) hq16) dX5_readProduct_70 mw_E_take cl5 sh_4 (by decide) (Nat.le_trans (by decide) hz) ml_E_88 im_E_take se_E_take (Nat.ble_eq.mpr (show 1 + 1 ≤ ds + 2 by omega)) rfl rfl rfl (Nat.le_refl _) (Nat.le_of_eq hb.symm) (fun hp17 => ?_)
  show Zt _ _ _ _ 73 _ [] (z, q15, J, G)
  refine z_aload_n dX5_readProduct_73 rfl ?_
  refine z_aload_n dX5_readProduct_74 rfl ?_
  refine z_iload_n dX5_readProduct_75 rfl ?_
  obtain ⟨q18, hq19, h⟩ := bindE h
  refine z_callV (As := [vR g r1, vI x2]) (rest := []) (s_E_readUnit hz hG hds hrs hr1 hx2 hq19) dX5_readProduct_76 mw_E_readUnit cl5 sh_4 (by decide) (Nat.le_trans (by decide) hz) ml_E_178 im_E_readUnit se_E_readUnit (Nat.ble_eq.mpr (show ds + 1 + 1 ≤ ds + 2 by omega)) rfl rfl rfl (Nat.le_refl _) (Nat.le_of_eq hb.symm) (fun hp20 => ?_)
  show Zt _ _ _ _ 79 _ [] (z, q18, J, G)
  refine z_aload_n dX5_readProduct_79 rfl ?_
  refine z_iload dX5_readProduct_80 rfl ?_
  refine z_iconst dX5_readProduct_82 ?_
  obtain ⟨q21, hq22, h⟩ := bindE h
  refine z_callV (As := [vI s0, vI 0]) (rest := []) (s_W_put hz hG hr1 hs0 (inRd (x := 0) (by decide)) hq22) dX5_readProduct_83 mw_W_put cl3 (law_sh hr1) (law_pos hr1) (Nat.le_trans (law_le hr1) hz) ml_E_165 im_W_put se_W_put (Nat.ble_eq.mpr (show 0 + 1 ≤ ds + 2 by omega)) rfl rfl rfl (Nat.le_refl _) (Nat.le_of_eq hb.symm) (fun hp23 => ?_)
  show Zt _ _ _ _ 86 _ [vI q21.1] (z, q21.2, J, G)
  refine z_pop dX5_readProduct_86 rfl ?_
  refine z_iinc (L' := [some (vR g 4), some (vR g r1), some (vI x2), some (vI (w32 (x3 + 1))), some (vI s0)]) dX5_readProduct_87 rfl rfl rfl rfl ?_
  refine z_goto (tgt := 8) dX5_readProduct_90 (by decide) ?_
  refine z_weak (L' := [some (vR g 4), some (vR g r1), some (vI x2), some (vI (w32 (x3 + 1))), none]) (lsS (lsS (lsS (lsS (lsN ls0))))) ?_
  exact kS _ (someE h).symm (inR_w32 _)
set_option maxHeartbeats 1000000 in
theorem t_E_readProduct_L8 {l : Launch} {g : GX} {φ : CX} {z : Nat} {G : Nat → Nat → Nat} {F : Nat} {ds : Nat} (hb : cb φ = z) (hz : 295 ≤ z) (hG : lyX G) (hds : 5 ≤ ds) {rs : Nat → Int → MI → Option MI} (hrs : rsOK l g ds rs) {r1 : Nat} {x2 : Int} {x3 : Int} {I J : Nat → Nat → Int} (hr1 : isLaw r1) (hx2 : inR x2) (hx3 : inR x3) {res : (MI) ⊕ (Int × MI)} (h : f_E_readProduct_L8 F rs r1 x2 x3 I = some res) (kE : ∀ e : MI, res = .inl e → ((True) → Zt l g φ (mu_E_readProduct ds) 93 [none, none, none, none, none] [] (z, e, J, G))) (kS : ∀ s : Int × MI, res = .inr s → (inR s.1) → Zt l g φ (mu_E_readProduct ds) 8 [some (vR g 4), some (vR g r1), some (vI x2), some (vI s.1), none] [] (z, s.2, J, G)) : Zt l g φ (mu_E_readProduct ds) 8 [some (vR g 4), some (vR g r1), some (vI x2), some (vI x3), none] [] (z, I, J, G) := by
  refine z_iload_n dX5_readProduct_8 rfl ?_
  refine z_sipush dX5_readProduct_9 (by decide +kernel) ?_
  refine z_icmp_gt (tgt := 93) dX5_readProduct_12 (by decide) hx3 (inRd (x := 400) (by decide)) (fun hc4 => ?_) (fun hc4 => ?_)
  · replace h := ifT hc4 h
    refine z_weak (L' := [none, none, none, none, none]) (lsN (lsN (lsN (lsN (lsN ls0))))) ?_
    exact kE _ (someE h).symm trivial
  replace h := ifF hc4 h
  refine z_aload_n dX5_readProduct_15 rfl ?_
  refine z_nm (fun hN5 => ?_)
  refine y_getI dX5_readProduct_16 cl5 sh_4 (by decide) (Nat.le_trans (by decide) hz) 2 rfl rfl (fl_E_35) ?_
  refine z_if_ne (tgt := 93) dX5_readProduct_19 (by decide) (hN5.1 4 2) (fun hc6 => ?_) (fun hc6 => ?_)
  · replace h := ifT hc6 h
    refine z_weak (L' := [none, none, none, none, none]) (lsN (lsN (lsN (lsN (lsN ls0))))) ?_
    exact kE _ (someE h).symm trivial
  replace h := ifF (fun q => q hc6) h
  refine z_aload_n dX5_readProduct_22 rfl ?_
  refine z_bipush dX5_readProduct_23 (by decide +kernel) ?_
  refine z_bipush dX5_readProduct_25 (by decide +kernel) ?_
  obtain ⟨q7, hq8, h⟩ := bindE h
  refine z_callV (As := [vI 42, vI 47]) (rest := []) (s_E_isEither hz hG (inRd (x := 42) (by decide)) (inRd (x := 47) (by decide)) hq8) dX5_readProduct_27 mw_E_isEither cl5 sh_4 (by decide) (Nat.le_trans (by decide) hz) ml_E_174 im_E_isEither se_E_isEither (Nat.ble_eq.mpr (show 0 + 1 ≤ ds + 2 by omega)) rfl rfl rfl (Nat.le_refl _) (Nat.le_of_eq hb.symm) (fun hp9 => ?_)
  show Zt _ _ _ _ 30 _ [vI q7] (z, I, J, G)
  refine z_if_eq (tgt := 93) dX5_readProduct_30 (by decide) (inR_bool hp9) (fun hc10 => ?_) (fun hc10 => ?_)
  · replace h := ifT hc10 h
    refine z_weak (L' := [none, none, none, none, none]) (lsN (lsN (lsN (lsN (lsN ls0))))) ?_
    exact kE _ (someE h).symm trivial
  replace h := ifF hc10 h
  refine z_aload_n dX5_readProduct_33 rfl ?_
  refine y_getR dX5_readProduct_34 cl5 sh_4 (by decide) (Nat.le_trans (by decide) hz) 0 rfl rfl (fl_E_12) (ly_4_0 hG) (by decide) ?_
  refine y_getNR (host := "FarewellStones") dX5_readProduct_37 cl8 sh_5 (by decide) (Nat.le_trans (by decide) hz) 0 rfl rfl (flN_E_44) (ly_5_0 hG) (by decide) ?_
  refine z_aload_n dX5_readProduct_40 rfl ?_
  refine y_getI dX5_readProduct_41 cl5 sh_4 (by decide) (Nat.le_trans (by decide) hz) 1 rfl rfl (fl_E_31) ?_
  obtain ⟨hg11, h⟩ := guardE h
  refine y_iald dX5_readProduct_44 sh_6 (by decide) (Nat.le_trans (by decide) hz) (hN5.1 4 1) hg11 ?_
  refine z_bipush dX5_readProduct_45 (by decide +kernel) ?_
  refine z_icmp_ne (tgt := 54) dX5_readProduct_47 (by decide) (hN5.1 6 ((I 4 1)).toNat) (inRd (x := 42) (by decide)) (fun hc12 => ?_) (fun hc12 => ?_)
  · replace h := ifT hc12 h
    refine z_iconst dX5_readProduct_54 ?_
    exact t_E_readProduct_b55in8 hb hz hG hds hrs hr1 hx2 hx3 (inRd (x := 5) (by decide)) h kE kS
  replace h := ifF (fun q => q hc12) h
  refine z_iconst dX5_readProduct_50 ?_
  refine z_goto (tgt := 55) dX5_readProduct_51 (by decide) ?_
  exact t_E_readProduct_b55in8 hb hz hG hds hrs hr1 hx2 hx3 (inRd (x := 4) (by decide)) h kE kS
theorem l_E_readProduct_L8 {l : Launch} {g : GX} {φ : CX} {z : Nat} {G : Nat → Nat → Nat} {F : Nat} {ds : Nat} (hb : cb φ = z) (hz : 295 ≤ z) (hG : lyX G) (hds : 5 ≤ ds) {rs : Nat → Int → MI → Option MI} (hrs : rsOK l g ds rs) {r1 : Nat} {x2 : Int} {J : Nat → Nat → Int} (hr1 : isLaw r1) (hx2 : inR x2) (n : Nat) (s : Int × MI) (e : MI) (h : iter (fun s : Int × MI => f_E_readProduct_L8 F rs r1 x2 s.1 s.2) n s = some e) (hs : inR s.1) (k : ((True) → Zt l g φ (mu_E_readProduct ds) 93 [none, none, none, none, none] [] (z, e, J, G))) : Zt l g φ (mu_E_readProduct ds) 8 [some (vR g 4), some (vR g r1), some (vI x2), some (vI s.1), none] [] (z, s.2, J, G) := by
  refine iter_ind (Z := fun s : Int × MI => Zt l g φ (mu_E_readProduct ds) 8 [some (vR g 4), some (vR g r1), some (vI x2), some (vI s.1), none] [] (z, s.2, J, G)) (ZE := fun e : MI => ((True) → Zt l g φ (mu_E_readProduct ds) 93 [none, none, none, none, none] [] (z, e, J, G))) (Rg := fun s : Int × MI => inR s.1) ?_ n s e h hs k
  intro s r hr hst kE kS
  exact t_E_readProduct_L8 hb hz hG hds hrs hr1 hx2 hr hst kE kS
set_option maxHeartbeats 1000000 in
theorem s_E_readProduct {l : Launch} {g : GX} {z : Nat} {G : Nat → Nat → Nat} {F : Nat} {ds : Nat} (hz : 295 ≤ z) (hG : lyX G) (hds : 5 ≤ ds) {rs : Nat → Int → MI → Option MI} (hrs : rsOK l g ds rs) {r1 : Nat} {x2 : Int} {I J : Nat → Nat → Int} (hr1 : isLaw r1) (hx2 : inR x2) {res : MI} (h : f_E_readProduct F rs r1 x2 I = some res) : Spec l g (ds + 2) yX5_readProduct cX5_readProduct 5 none [vR g 4, vR g r1, vI x2] (z, I, J, G) none True (z, res, J, G) := by
  refine spec_of (μ := (mu_E_readProduct ds)) (k := 2) (L0 := [some (vR g 4), some (vR g r1), some (vI x2), none, none]) rfl mw_E_readProduct rfl rfl (Nat.le_refl _) (fun φ hb hE => ?_)
  refine z_aload_n dX5_readProduct_0 rfl ?_
  refine z_aload_n dX5_readProduct_1 rfl ?_
  refine z_iload_n dX5_readProduct_2 rfl ?_
  obtain ⟨q1, hq2, h⟩ := bindE h
  refine z_callV (As := [vR g r1, vI x2]) (rest := []) (s_E_readUnit hz hG hds hrs hr1 hx2 hq2) dX5_readProduct_3 mw_E_readUnit cl5 sh_4 (by decide) (Nat.le_trans (by decide) hz) ml_E_178 im_E_readUnit se_E_readUnit (Nat.ble_eq.mpr (show ds + 1 + 1 ≤ ds + 2 by omega)) rfl rfl rfl (Nat.le_refl _) (Nat.le_of_eq hb.symm) (fun hp3 => ?_)
  show Zt _ _ _ _ 6 _ [] (z, q1, J, G)
  refine z_iconst dX5_readProduct_6 ?_
  refine z_istore_n (L' := [some (vR g 4), some (vR g r1), some (vI x2), some (vI 0), none]) dX5_readProduct_7 rfl rfl rfl ?_
  obtain ⟨e24, h25, h⟩ := bindE h
  refine l_E_readProduct_L8 hb hz hG hds hrs hr1 hx2 _ _ _ h25 (inRd (x := 0) (by decide)) ?_
  refine fun h26 => ?_
  obtain rfl := someE h
  exact z_vret dX5_readProduct_93 hE trivial rfl
set_option maxHeartbeats 1000000 in
theorem t_E_readSum_b55in8 {l : Launch} {g : GX} {φ : CX} {z : Nat} {G : Nat → Nat → Nat} {F : Nat} {ds : Nat} (hb : cb φ = z) (hz : 295 ≤ z) (hG : lyX G) (hds : 5 ≤ ds) {rs : Nat → Int → MI → Option MI} (hrs : rsOK l g ds rs) {r1 : Nat} {x2 : Int} {x3 : Int} {s0 : Int} {I J : Nat → Nat → Int} (hr1 : isLaw r1) (hx2 : inR x2) (hx3 : inR x3) (hs0 : inR s0) {res : (MI) ⊕ (Int × MI)} (h : f_E_readSum_b55in8 F rs r1 x2 x3 s0 I = some res) (kE : ∀ e : MI, res = .inl e → ((True) → Zt l g φ (mu_E_readSum ds) 93 [none, none, none, none, none] [] (z, e, J, G))) (kS : ∀ s : Int × MI, res = .inr s → (inR s.1) → Zt l g φ (mu_E_readSum ds) 8 [some (vR g 4), some (vR g r1), some (vI x2), some (vI s.1), none] [] (z, s.2, J, G)) : Zt l g φ (mu_E_readSum ds) 55 [some (vR g 4), some (vR g r1), some (vI x2), some (vI x3), none] [vI s0] (z, I, J, G) := by
  refine z_istore (L' := [some (vR g 4), some (vR g r1), some (vI x2), some (vI x3), some (vI s0)]) dX5_readSum_55 rfl rfl rfl ?_
  refine z_aload_n dX5_readSum_57 rfl ?_
  refine z_aload_n dX5_readSum_58 rfl ?_
  refine y_getR dX5_readSum_59 cl5 sh_4 (by decide) (Nat.le_trans (by decide) hz) 0 rfl rfl (fl_E_12) (ly_4_0 hG) (by decide) ?_
  refine y_getNR (host := "FarewellStones") dX5_readSum_62 cl8 sh_5 (by decide) (Nat.le_trans (by decide) hz) 0 rfl rfl (flN_E_44) (ly_5_0 hG) (by decide) ?_
  refine z_aload_n dX5_readSum_65 rfl ?_
  refine z_nm (fun hN13 => ?_)
  refine y_getI dX5_readSum_66 cl5 sh_4 (by decide) (Nat.le_trans (by decide) hz) 1 rfl rfl (fl_E_31) ?_
  obtain ⟨hg14, h⟩ := guardE h
  refine y_iald dX5_readSum_69 sh_6 (by decide) (Nat.le_trans (by decide) hz) (hN13.1 4 1) hg14 ?_
  obtain ⟨q15, hq16, h⟩ := bindE h
  refine z_callV (As := [vI (I 6 ((I 4 1)).toNat)]) (rest := []) (s_E_take hz hG (hN13.1 6 ((I 4 1)).toNat) hq16) dX5_readSum_70 mw_E_take cl5 sh_4 (by decide) (Nat.le_trans (by decide) hz) ml_E_88 im_E_take se_E_take (Nat.ble_eq.mpr (show 1 + 1 ≤ ds + 3 by omega)) rfl rfl rfl (Nat.le_refl _) (Nat.le_of_eq hb.symm) (fun hp17 => ?_)
  show Zt _ _ _ _ 73 _ [] (z, q15, J, G)
  refine z_aload_n dX5_readSum_73 rfl ?_
  refine z_aload_n dX5_readSum_74 rfl ?_
  refine z_iload_n dX5_readSum_75 rfl ?_
  obtain ⟨q18, hq19, h⟩ := bindE h
  refine z_callV (As := [vR g r1, vI x2]) (rest := []) (s_E_readProduct hz hG hds hrs hr1 hx2 hq19) dX5_readSum_76 mw_E_readProduct cl5 sh_4 (by decide) (Nat.le_trans (by decide) hz) ml_E_171 im_E_readProduct se_E_readProduct (Nat.ble_eq.mpr (show ds + 2 + 1 ≤ ds + 3 by omega)) rfl rfl rfl (Nat.le_refl _) (Nat.le_of_eq hb.symm) (fun hp20 => ?_)
  show Zt _ _ _ _ 79 _ [] (z, q18, J, G)
  refine z_aload_n dX5_readSum_79 rfl ?_
  refine z_iload dX5_readSum_80 rfl ?_
  refine z_iconst dX5_readSum_82 ?_
  obtain ⟨q21, hq22, h⟩ := bindE h
  refine z_callV (As := [vI s0, vI 0]) (rest := []) (s_W_put hz hG hr1 hs0 (inRd (x := 0) (by decide)) hq22) dX5_readSum_83 mw_W_put cl3 (law_sh hr1) (law_pos hr1) (Nat.le_trans (law_le hr1) hz) ml_E_165 im_W_put se_W_put (Nat.ble_eq.mpr (show 0 + 1 ≤ ds + 3 by omega)) rfl rfl rfl (Nat.le_refl _) (Nat.le_of_eq hb.symm) (fun hp23 => ?_)
  show Zt _ _ _ _ 86 _ [vI q21.1] (z, q21.2, J, G)
  refine z_pop dX5_readSum_86 rfl ?_
  refine z_iinc (L' := [some (vR g 4), some (vR g r1), some (vI x2), some (vI (w32 (x3 + 1))), some (vI s0)]) dX5_readSum_87 rfl rfl rfl rfl ?_
  refine z_goto (tgt := 8) dX5_readSum_90 (by decide) ?_
  refine z_weak (L' := [some (vR g 4), some (vR g r1), some (vI x2), some (vI (w32 (x3 + 1))), none]) (lsS (lsS (lsS (lsS (lsN ls0))))) ?_
  exact kS _ (someE h).symm (inR_w32 _)
set_option maxHeartbeats 1000000 in
theorem t_E_readSum_L8 {l : Launch} {g : GX} {φ : CX} {z : Nat} {G : Nat → Nat → Nat} {F : Nat} {ds : Nat} (hb : cb φ = z) (hz : 295 ≤ z) (hG : lyX G) (hds : 5 ≤ ds) {rs : Nat → Int → MI → Option MI} (hrs : rsOK l g ds rs) {r1 : Nat} {x2 : Int} {x3 : Int} {I J : Nat → Nat → Int} (hr1 : isLaw r1) (hx2 : inR x2) (hx3 : inR x3) {res : (MI) ⊕ (Int × MI)} (h : f_E_readSum_L8 F rs r1 x2 x3 I = some res) (kE : ∀ e : MI, res = .inl e → ((True) → Zt l g φ (mu_E_readSum ds) 93 [none, none, none, none, none] [] (z, e, J, G))) (kS : ∀ s : Int × MI, res = .inr s → (inR s.1) → Zt l g φ (mu_E_readSum ds) 8 [some (vR g 4), some (vR g r1), some (vI x2), some (vI s.1), none] [] (z, s.2, J, G)) : Zt l g φ (mu_E_readSum ds) 8 [some (vR g 4), some (vR g r1), some (vI x2), some (vI x3), none] [] (z, I, J, G) := by
  refine z_iload_n dX5_readSum_8 rfl ?_
  refine z_sipush dX5_readSum_9 (by decide +kernel) ?_
  refine z_icmp_gt (tgt := 93) dX5_readSum_12 (by decide) hx3 (inRd (x := 400) (by decide)) (fun hc4 => ?_) (fun hc4 => ?_)
  · replace h := ifT hc4 h
    refine z_weak (L' := [none, none, none, none, none]) (lsN (lsN (lsN (lsN (lsN ls0))))) ?_
    exact kE _ (someE h).symm trivial
  replace h := ifF hc4 h
  refine z_aload_n dX5_readSum_15 rfl ?_
  refine z_nm (fun hN5 => ?_)
  refine y_getI dX5_readSum_16 cl5 sh_4 (by decide) (Nat.le_trans (by decide) hz) 2 rfl rfl (fl_E_35) ?_
  refine z_if_ne (tgt := 93) dX5_readSum_19 (by decide) (hN5.1 4 2) (fun hc6 => ?_) (fun hc6 => ?_)
  · replace h := ifT hc6 h
    refine z_weak (L' := [none, none, none, none, none]) (lsN (lsN (lsN (lsN (lsN ls0))))) ?_
    exact kE _ (someE h).symm trivial
  replace h := ifF (fun q => q hc6) h
  refine z_aload_n dX5_readSum_22 rfl ?_
  refine z_bipush dX5_readSum_23 (by decide +kernel) ?_
  refine z_bipush dX5_readSum_25 (by decide +kernel) ?_
  obtain ⟨q7, hq8, h⟩ := bindE h
  refine z_callV (As := [vI 43, vI 45]) (rest := []) (s_E_isEither hz hG (inRd (x := 43) (by decide)) (inRd (x := 45) (by decide)) hq8) dX5_readSum_27 mw_E_isEither cl5 sh_4 (by decide) (Nat.le_trans (by decide) hz) ml_E_174 im_E_isEither se_E_isEither (Nat.ble_eq.mpr (show 0 + 1 ≤ ds + 3 by omega)) rfl rfl rfl (Nat.le_refl _) (Nat.le_of_eq hb.symm) (fun hp9 => ?_)
  show Zt _ _ _ _ 30 _ [vI q7] (z, I, J, G)
  refine z_if_eq (tgt := 93) dX5_readSum_30 (by decide) (inR_bool hp9) (fun hc10 => ?_) (fun hc10 => ?_)
  · replace h := ifT hc10 h
    refine z_weak (L' := [none, none, none, none, none]) (lsN (lsN (lsN (lsN (lsN ls0))))) ?_
    exact kE _ (someE h).symm trivial
  replace h := ifF hc10 h
  refine z_aload_n dX5_readSum_33 rfl ?_
  refine y_getR dX5_readSum_34 cl5 sh_4 (by decide) (Nat.le_trans (by decide) hz) 0 rfl rfl (fl_E_12) (ly_4_0 hG) (by decide) ?_
  refine y_getNR (host := "FarewellStones") dX5_readSum_37 cl8 sh_5 (by decide) (Nat.le_trans (by decide) hz) 0 rfl rfl (flN_E_44) (ly_5_0 hG) (by decide) ?_
  refine z_aload_n dX5_readSum_40 rfl ?_
  refine y_getI dX5_readSum_41 cl5 sh_4 (by decide) (Nat.le_trans (by decide) hz) 1 rfl rfl (fl_E_31) ?_
  obtain ⟨hg11, h⟩ := guardE h
  refine y_iald dX5_readSum_44 sh_6 (by decide) (Nat.le_trans (by decide) hz) (hN5.1 4 1) hg11 ?_
  refine z_bipush dX5_readSum_45 (by decide +kernel) ?_
  refine z_icmp_ne (tgt := 54) dX5_readSum_47 (by decide) (hN5.1 6 ((I 4 1)).toNat) (inRd (x := 43) (by decide)) (fun hc12 => ?_) (fun hc12 => ?_)
  · replace h := ifT hc12 h
    refine z_iconst dX5_readSum_54 ?_
    exact t_E_readSum_b55in8 hb hz hG hds hrs hr1 hx2 hx3 (inRd (x := 3) (by decide)) h kE kS
  replace h := ifF (fun q => q hc12) h
  refine z_iconst dX5_readSum_50 ?_
  refine z_goto (tgt := 55) dX5_readSum_51 (by decide) ?_
  exact t_E_readSum_b55in8 hb hz hG hds hrs hr1 hx2 hx3 (inRd (x := 2) (by decide)) h kE kS
theorem l_E_readSum_L8 {l : Launch} {g : GX} {φ : CX} {z : Nat} {G : Nat → Nat → Nat} {F : Nat} {ds : Nat} (hb : cb φ = z) (hz : 295 ≤ z) (hG : lyX G) (hds : 5 ≤ ds) {rs : Nat → Int → MI → Option MI} (hrs : rsOK l g ds rs) {r1 : Nat} {x2 : Int} {J : Nat → Nat → Int} (hr1 : isLaw r1) (hx2 : inR x2) (n : Nat) (s : Int × MI) (e : MI) (h : iter (fun s : Int × MI => f_E_readSum_L8 F rs r1 x2 s.1 s.2) n s = some e) (hs : inR s.1) (k : ((True) → Zt l g φ (mu_E_readSum ds) 93 [none, none, none, none, none] [] (z, e, J, G))) : Zt l g φ (mu_E_readSum ds) 8 [some (vR g 4), some (vR g r1), some (vI x2), some (vI s.1), none] [] (z, s.2, J, G) := by
  refine iter_ind (Z := fun s : Int × MI => Zt l g φ (mu_E_readSum ds) 8 [some (vR g 4), some (vR g r1), some (vI x2), some (vI s.1), none] [] (z, s.2, J, G)) (ZE := fun e : MI => ((True) → Zt l g φ (mu_E_readSum ds) 93 [none, none, none, none, none] [] (z, e, J, G))) (Rg := fun s : Int × MI => inR s.1) ?_ n s e h hs k
  intro s r hr hst kE kS
  exact t_E_readSum_L8 hb hz hG hds hrs hr1 hx2 hr hst kE kS
set_option maxHeartbeats 1000000 in
theorem s_E_readSum_o {l : Launch} {g : GX} {z : Nat} {G : Nat → Nat → Nat} {F : Nat} {ds : Nat} (hz : 295 ≤ z) (hG : lyX G) (hds : 5 ≤ ds) {rs : Nat → Int → MI → Option MI} (hrs : rsOK l g ds rs) {r1 : Nat} {x2 : Int} {I J : Nat → Nat → Int} (hr1 : isLaw r1) (hx2 : inR x2) {res : MI} (h : f_E_readSum_o F rs r1 x2 I = some res) : Spec l g (ds + 3) yX5_readSum cX5_readSum 5 none [vR g 4, vR g r1, vI x2] (z, I, J, G) none True (z, res, J, G) := by
  refine spec_of (μ := (mu_E_readSum ds)) (k := 2) (L0 := [some (vR g 4), some (vR g r1), some (vI x2), none, none]) rfl mw_E_readSum rfl rfl (Nat.le_refl _) (fun φ hb hE => ?_)
  refine z_aload_n dX5_readSum_0 rfl ?_
  refine z_aload_n dX5_readSum_1 rfl ?_
  refine z_iload_n dX5_readSum_2 rfl ?_
  obtain ⟨q1, hq2, h⟩ := bindE h
  refine z_callV (As := [vR g r1, vI x2]) (rest := []) (s_E_readProduct hz hG hds hrs hr1 hx2 hq2) dX5_readSum_3 mw_E_readProduct cl5 sh_4 (by decide) (Nat.le_trans (by decide) hz) ml_E_171 im_E_readProduct se_E_readProduct (Nat.ble_eq.mpr (show ds + 2 + 1 ≤ ds + 3 by omega)) rfl rfl rfl (Nat.le_refl _) (Nat.le_of_eq hb.symm) (fun hp3 => ?_)
  show Zt _ _ _ _ 6 _ [] (z, q1, J, G)
  refine z_iconst dX5_readSum_6 ?_
  refine z_istore_n (L' := [some (vR g 4), some (vR g r1), some (vI x2), some (vI 0), none]) dX5_readSum_7 rfl rfl rfl ?_
  obtain ⟨e24, h25, h⟩ := bindE h
  refine l_E_readSum_L8 hb hz hG hds hrs hr1 hx2 _ _ _ h25 (inRd (x := 0) (by decide)) ?_
  refine fun h26 => ?_
  obtain rfl := someE h
  exact z_vret dX5_readSum_93 hE trivial rfl
theorem rsOK_all {l : Launch} {g : GX} {F : Nat} : ∀ n : Nat, rsOK l g (5 + 3 * n) (fun r x I => f_E_readSum n F r x I)
  | 0 => fun _ _ _ _ _ _ _ _ _ _ _ h => by cases h
  | n + 1 => fun _ _ _ _ hz hG _ _ hr hx _ h => s_E_readSum_o (ds := 5 + 3 * n) hz hG (by omega) (rsOK_all n) hr hx h
theorem s_E_readSum {l : Launch} {g : GX} {z : Nat} {G : Nat → Nat → Nat} {F : Nat} (hz : 295 ≤ z) (hG : lyX G) {r1 : Nat} {x2 : Int} {I J : Nat → Nat → Int} (hr1 : isLaw r1) (hx2 : inR x2) {res : MI} (h : f_E_readSum 10 F r1 x2 I = some res) : Spec l g 35 yX5_readSum cX5_readSum 5 none [vR g 4, vR g r1, vI x2] (z, I, J, G) none True (z, res, J, G) := rsOK_all 10 z I J G hz hG r1 x2 hr1 hx2 res h
set_option maxHeartbeats 1000000 in
theorem t_E_readLaw_b68in28 {l : Launch} {g : GX} {φ : CX} {z : Nat} {G : Nat → Nat → Nat} {F : Nat} (hb : cb φ = z) (hz : 295 ≤ z) (hG : lyX G) {r1 : Nat} {x2 : Int} {I J : Nat → Nat → Int} (hr1 : isLaw r1) (hx2 : inR x2) {res : (MI) ⊕ (Int × MI)} (h : f_E_readLaw_b68in28 F r1 x2 I = some res) (kE : ∀ e : MI, res = .inl e → ((True) → Zt l g φ mu_E_readLaw 140 [some (vR g 4), some (vR g r1), none, none] [] (z, e, J, G))) (kS : ∀ s : Int × MI, res = .inr s → (inR s.1) → Zt l g φ mu_E_readLaw 28 [some (vR g 4), some (vR g r1), some (vI s.1), none] [] (z, s.2, J, G)) : Zt l g φ mu_E_readLaw 68 [some (vR g 4), some (vR g r1), some (vI x2), none] [] (z, I, J, G) := by
  refine z_aload_n dX5_readLaw_68 rfl ?_
  refine z_sipush dX5_readLaw_69 (by decide +kernel) ?_
  obtain ⟨q18, hq19, h⟩ := bindE h
  refine z_callV (As := [vI 264]) (rest := []) (s_E_take hz hG (inRd (x := 264) (by decide)) hq19) dX5_readLaw_72 mw_E_take cl5 sh_4 (by decide) (Nat.le_trans (by decide) hz) ml_E_88 im_E_take se_E_take rfl rfl rfl rfl (Nat.le_refl _) (Nat.le_of_eq hb.symm) (fun hp20 => ?_)
  show Zt _ _ _ _ 75 _ [] (z, q18, J, G)
  refine z_aload_n dX5_readLaw_75 rfl ?_
  refine z_aload_n dX5_readLaw_76 rfl ?_
  refine z_iconst dX5_readLaw_77 ?_
  obtain ⟨q21, hq22, h⟩ := bindE h
  refine z_callV (As := [vR g r1, vI 0]) (rest := []) (s_E_readSum hz hG hr1 (inRd (x := 0) (by decide)) hq22) dX5_readLaw_78 mw_E_readSum cl5 sh_4 (by decide) (Nat.le_trans (by decide) hz) ml_E_161 im_E_readSum se_E_readSum rfl rfl rfl rfl (Nat.le_refl _) (Nat.le_of_eq hb.symm) (fun hp23 => ?_)
  show Zt _ _ _ _ 81 _ [] (z, q21, J, G)
  refine z_aload_n dX5_readLaw_81 rfl ?_
  refine z_bipush dX5_readLaw_82 (by decide +kernel) ?_
  obtain ⟨q24, hq25, h⟩ := bindE h
  refine z_callV (As := [vI 60]) (rest := []) (s_E_take hz hG (inRd (x := 60) (by decide)) hq25) dX5_readLaw_84 mw_E_take cl5 sh_4 (by decide) (Nat.le_trans (by decide) hz) ml_E_88 im_E_take se_E_take rfl rfl rfl rfl (Nat.le_refl _) (Nat.le_of_eq hb.symm) (fun hp26 => ?_)
  show Zt _ _ _ _ 87 _ [] (z, q24, J, G)
  refine z_aload_n dX5_readLaw_87 rfl ?_
  refine z_aload_n dX5_readLaw_88 rfl ?_
  refine z_iconst dX5_readLaw_89 ?_
  obtain ⟨q27, hq28, h⟩ := bindE h
  refine z_callV (As := [vR g r1, vI 0]) (rest := []) (s_E_readSum hz hG hr1 (inRd (x := 0) (by decide)) hq28) dX5_readLaw_90 mw_E_readSum cl5 sh_4 (by decide) (Nat.le_trans (by decide) hz) ml_E_161 im_E_readSum se_E_readSum rfl rfl rfl rfl (Nat.le_refl _) (Nat.le_of_eq hb.symm) (fun hp29 => ?_)
  show Zt _ _ _ _ 93 _ [] (z, q27, J, G)
  refine z_aload_n dX5_readLaw_93 rfl ?_
  refine z_sipush dX5_readLaw_94 (by decide +kernel) ?_
  obtain ⟨q30, hq31, h⟩ := bindE h
  refine z_callV (As := [vI 265]) (rest := []) (s_E_take hz hG (inRd (x := 265) (by decide)) hq31) dX5_readLaw_97 mw_E_take cl5 sh_4 (by decide) (Nat.le_trans (by decide) hz) ml_E_88 im_E_take se_E_take rfl rfl rfl rfl (Nat.le_refl _) (Nat.le_of_eq hb.symm) (fun hp32 => ?_)
  show Zt _ _ _ _ 100 _ [] (z, q30, J, G)
  refine z_aload_n dX5_readLaw_100 rfl ?_
  refine z_bipush dX5_readLaw_101 (by decide +kernel) ?_
  refine z_iconst dX5_readLaw_103 ?_
  obtain ⟨q33, hq34, h⟩ := bindE h
  refine z_callV (As := [vI 6, vI 0]) (rest := []) (s_W_put hz hG hr1 (inRd (x := 6) (by decide)) (inRd (x := 0) (by decide)) hq34) dX5_readLaw_104 mw_W_put cl3 (law_sh hr1) (law_pos hr1) (Nat.le_trans (law_le hr1) hz) ml_E_165 im_W_put se_W_put rfl rfl rfl rfl (Nat.le_refl _) (Nat.le_of_eq hb.symm) (fun hp35 => ?_)
  show Zt _ _ _ _ 107 _ [vI q33.1] (z, q33.2, J, G)
  refine z_istore_n (L' := [some (vR g 4), some (vR g r1), some (vI x2), some (vI q33.1)]) dX5_readLaw_107 rfl rfl rfl ?_
  refine z_aload_n dX5_readLaw_108 rfl ?_
  refine z_aload_n dX5_readLaw_109 rfl ?_
  refine z_iconst dX5_readLaw_110 ?_
  obtain ⟨q36, hq37, h⟩ := bindE h
  refine z_callV (As := [vR g r1, vI 0]) (rest := []) (s_E_readSum hz hG hr1 (inRd (x := 0) (by decide)) hq37) dX5_readLaw_111 mw_E_readSum cl5 sh_4 (by decide) (Nat.le_trans (by decide) hz) ml_E_161 im_E_readSum se_E_readSum rfl rfl rfl rfl (Nat.le_refl _) (Nat.le_of_eq hb.symm) (fun hp38 => ?_)
  show Zt _ _ _ _ 114 _ [] (z, q36, J, G)
  refine z_aload_n dX5_readLaw_114 rfl ?_
  refine z_sipush dX5_readLaw_115 (by decide +kernel) ?_
  obtain ⟨q39, hq40, h⟩ := bindE h
  refine z_callV (As := [vI 266]) (rest := []) (s_E_take hz hG (inRd (x := 266) (by decide)) hq40) dX5_readLaw_118 mw_E_take cl5 sh_4 (by decide) (Nat.le_trans (by decide) hz) ml_E_88 im_E_take se_E_take rfl rfl rfl rfl (Nat.le_refl _) (Nat.le_of_eq hb.symm) (fun hp41 => ?_)
  show Zt _ _ _ _ 121 _ [] (z, q39, J, G)
  refine z_aload_n dX5_readLaw_121 rfl ?_
  refine z_bipush dX5_readLaw_122 (by decide +kernel) ?_
  refine z_iconst dX5_readLaw_124 ?_
  obtain ⟨q42, hq43, h⟩ := bindE h
  refine z_callV (As := [vI 7, vI 0]) (rest := []) (s_W_put hz hG hr1 (inRd (x := 7) (by decide)) (inRd (x := 0) (by decide)) hq43) dX5_readLaw_125 mw_W_put cl3 (law_sh hr1) (law_pos hr1) (Nat.le_trans (law_le hr1) hz) ml_E_165 im_W_put se_W_put rfl rfl rfl rfl (Nat.le_refl _) (Nat.le_of_eq hb.symm) (fun hp44 => ?_)
  show Zt _ _ _ _ 128 _ [vI q42.1] (z, q42.2, J, G)
  refine z_pop dX5_readLaw_128 rfl ?_
  refine z_aload_n dX5_readLaw_129 rfl ?_
  refine z_iload_n dX5_readLaw_130 rfl ?_
  obtain ⟨q45, hq46, h⟩ := bindE h
  refine z_callV (As := [vI q33.1]) (rest := []) (s_W_aimAtEnd hz hG hr1 hp35 hq46) dX5_readLaw_131 mw_W_aimAtEnd cl3 (law_sh hr1) (law_pos hr1) (Nat.le_trans (law_le hr1) hz) ml_E_168 im_W_aimAtEnd se_W_aimAtEnd rfl rfl rfl rfl (Nat.le_refl _) (Nat.le_of_eq hb.symm) (fun hp47 => ?_)
  show Zt _ _ _ _ 134 _ [] (z, q45, J, G)
  refine z_iinc (L' := [some (vR g 4), some (vR g r1), some (vI (w32 (x2 + 1))), some (vI q33.1)]) dX5_readLaw_134 rfl rfl rfl rfl ?_
  refine z_goto (tgt := 28) dX5_readLaw_137 (by decide) ?_
  refine z_weak (L' := [some (vR g 4), some (vR g r1), some (vI (w32 (x2 + 1))), none]) (lsS (lsS (lsS (lsN ls0)))) ?_
  exact kS _ (someE h).symm (inR_w32 _)
set_option maxHeartbeats 1000000 in
theorem t_E_readLaw_L28 {l : Launch} {g : GX} {φ : CX} {z : Nat} {G : Nat → Nat → Nat} {F : Nat} (hb : cb φ = z) (hz : 295 ≤ z) (hG : lyX G) {r1 : Nat} {x2 : Int} {I J : Nat → Nat → Int} (hr1 : isLaw r1) (hx2 : inR x2) {res : (MI) ⊕ (Int × MI)} (h : f_E_readLaw_L28 F r1 x2 I = some res) (kE : ∀ e : MI, res = .inl e → ((True) → Zt l g φ mu_E_readLaw 140 [some (vR g 4), some (vR g r1), none, none] [] (z, e, J, G))) (kS : ∀ s : Int × MI, res = .inr s → (inR s.1) → Zt l g φ mu_E_readLaw 28 [some (vR g 4), some (vR g r1), some (vI s.1), none] [] (z, s.2, J, G)) : Zt l g φ mu_E_readLaw 28 [some (vR g 4), some (vR g r1), some (vI x2), none] [] (z, I, J, G) := by
  refine z_iload_n dX5_readLaw_28 rfl ?_
  refine z_iconst dX5_readLaw_29 ?_
  refine z_icmp_gt (tgt := 140) dX5_readLaw_30 (by decide) hx2 (inRd (x := 4) (by decide)) (fun hc12 => ?_) (fun hc12 => ?_)
  · replace h := ifT hc12 h
    refine z_weak (L' := [some (vR g 4), some (vR g r1), none, none]) (lsS (lsS (lsN (lsN ls0)))) ?_
    exact kE _ (someE h).symm trivial
  replace h := ifF hc12 h
  refine z_aload_n dX5_readLaw_33 rfl ?_
  refine z_nm (fun hN13 => ?_)
  refine y_getI dX5_readLaw_34 cl5 sh_4 (by decide) (Nat.le_trans (by decide) hz) 2 rfl rfl (fl_E_35) ?_
  refine z_if_ne (tgt := 140) dX5_readLaw_37 (by decide) (hN13.1 4 2) (fun hc14 => ?_) (fun hc14 => ?_)
  · replace h := ifT hc14 h
    refine z_weak (L' := [some (vR g 4), some (vR g r1), none, none]) (lsS (lsS (lsN (lsN ls0)))) ?_
    exact kE _ (someE h).symm trivial
  replace h := ifF (fun q => q hc14) h
  refine z_aload_n dX5_readLaw_40 rfl ?_
  refine y_getR dX5_readLaw_41 cl5 sh_4 (by decide) (Nat.le_trans (by decide) hz) 0 rfl rfl (fl_E_12) (ly_4_0 hG) (by decide) ?_
  refine y_getNR (host := "FarewellStones") dX5_readLaw_44 cl8 sh_5 (by decide) (Nat.le_trans (by decide) hz) 0 rfl rfl (flN_E_44) (ly_5_0 hG) (by decide) ?_
  refine z_aload_n dX5_readLaw_47 rfl ?_
  refine y_getI dX5_readLaw_48 cl5 sh_4 (by decide) (Nat.le_trans (by decide) hz) 1 rfl rfl (fl_E_31) ?_
  obtain ⟨hg15, h⟩ := guardE h
  refine y_iald dX5_readLaw_51 sh_6 (by decide) (Nat.le_trans (by decide) hz) (hN13.1 4 1) hg15 ?_
  refine z_sipush dX5_readLaw_52 (by decide +kernel) ?_
  refine z_icmp_ne (tgt := 140) dX5_readLaw_55 (by decide) (hN13.1 6 ((I 4 1)).toNat) (inRd (x := 264) (by decide)) (fun hc16 => ?_) (fun hc16 => ?_)
  · replace h := ifT hc16 h
    refine z_weak (L' := [some (vR g 4), some (vR g r1), none, none]) (lsS (lsS (lsN (lsN ls0)))) ?_
    exact kE _ (someE h).symm trivial
  replace h := ifF (fun q => q hc16) h
  refine z_iload_n dX5_readLaw_58 rfl ?_
  refine z_iconst dX5_readLaw_59 ?_
  refine z_icmp_ne (tgt := 68) dX5_readLaw_60 (by decide) hx2 (inRd (x := 4) (by decide)) (fun hc17 => ?_) (fun hc17 => ?_)
  · replace h := ifT hc17 h
    exact t_E_readLaw_b68in28 hb hz hG hr1 hx2 h kE kS
  replace h := ifF (fun q => q hc17) h
  refine z_aload_n dX5_readLaw_63 rfl ?_
  refine z_iconst dX5_readLaw_64 ?_
  obtain ⟨q48, hq49, h⟩ := bindE h
  refine z_callV (As := [vI 2]) (rest := []) (s_E_fail hz hG (inRd (x := 2) (by decide)) hq49) dX5_readLaw_65 mw_E_fail cl5 sh_4 (by decide) (Nat.le_trans (by decide) hz) ml_E_78 im_E_fail se_E_fail rfl rfl rfl rfl (Nat.le_refl _) (Nat.le_of_eq hb.symm) (fun hp50 => ?_)
  show Zt _ _ _ _ 68 _ [] (z, q48, J, G)
  exact t_E_readLaw_b68in28 hb hz hG hr1 hx2 h kE kS
theorem l_E_readLaw_L28 {l : Launch} {g : GX} {φ : CX} {z : Nat} {G : Nat → Nat → Nat} {F : Nat} (hb : cb φ = z) (hz : 295 ≤ z) (hG : lyX G) {r1 : Nat} {J : Nat → Nat → Int} (hr1 : isLaw r1) (n : Nat) (s : Int × MI) (e : MI) (h : iter (fun s : Int × MI => f_E_readLaw_L28 F r1 s.1 s.2) n s = some e) (hs : inR s.1) (k : ((True) → Zt l g φ mu_E_readLaw 140 [some (vR g 4), some (vR g r1), none, none] [] (z, e, J, G))) : Zt l g φ mu_E_readLaw 28 [some (vR g 4), some (vR g r1), some (vI s.1), none] [] (z, s.2, J, G) := by
  refine iter_ind (Z := fun s : Int × MI => Zt l g φ mu_E_readLaw 28 [some (vR g 4), some (vR g r1), some (vI s.1), none] [] (z, s.2, J, G)) (ZE := fun e : MI => ((True) → Zt l g φ mu_E_readLaw 140 [some (vR g 4), some (vR g r1), none, none] [] (z, e, J, G))) (Rg := fun s : Int × MI => inR s.1) ?_ n s e h hs k
  intro s r hr hst kE kS
  exact t_E_readLaw_L28 hb hz hG hr1 hr hst kE kS
set_option maxHeartbeats 1000000 in
theorem s_E_readLaw {l : Launch} {g : GX} {z : Nat} {G : Nat → Nat → Nat} {F : Nat} (hz : 295 ≤ z) (hG : lyX G) {r1 : Nat} {I J : Nat → Nat → Int} (hr1 : isLaw r1) {res : MI} (h : f_E_readLaw F r1 I = some res) : Spec l g 60 yX5_readLaw cX5_readLaw 4 none [vR g 4, vR g r1] (z, I, J, G) none True (z, res, J, G) := by
  refine spec_of (μ := mu_E_readLaw) (k := 2) (L0 := [some (vR g 4), some (vR g r1), none, none]) rfl mw_E_readLaw rfl rfl (Nat.le_refl _) (fun φ hb hE => ?_)
  refine z_aload_n dX5_readLaw_0 rfl ?_
  obtain ⟨q1, hq2, h⟩ := bindE h
  refine z_callV (As := []) (rest := []) (s_W_clear hz hG hr1 hq2) dX5_readLaw_1 mw_W_clear cl3 (law_sh hr1) (law_pos hr1) (Nat.le_trans (law_le hr1) hz) ml_E_158 im_W_clear se_W_clear rfl rfl rfl rfl (Nat.le_refl _) (Nat.le_of_eq hb.symm) (fun hp3 => ?_)
  show Zt _ _ _ _ 4 _ [] (z, q1, J, G)
  refine z_aload_n dX5_readLaw_4 rfl ?_
  refine z_aload_n dX5_readLaw_5 rfl ?_
  refine y_getR dX5_readLaw_6 cl5 sh_4 (by decide) (Nat.le_trans (by decide) hz) 0 rfl rfl (fl_E_12) (ly_4_0 hG) (by decide) ?_
  refine y_getNR (host := "FarewellStones") dX5_readLaw_9 cl8 sh_5 (by decide) (Nat.le_trans (by decide) hz) 0 rfl rfl (flN_E_44) (ly_5_0 hG) (by decide) ?_
  refine z_aload_n dX5_readLaw_12 rfl ?_
  refine z_nm (fun hN4 => ?_)
  refine y_getI dX5_readLaw_13 cl5 sh_4 (by decide) (Nat.le_trans (by decide) hz) 1 rfl rfl (fl_E_31) ?_
  obtain ⟨hg5, h⟩ := guardE h
  refine y_iald dX5_readLaw_16 sh_6 (by decide) (Nat.le_trans (by decide) hz) (hN4.1 4 1) hg5 ?_
  obtain ⟨q6, hq7, h⟩ := bindE h
  refine z_callV (As := [vI (q1 6 ((q1 4 1)).toNat)]) (rest := []) (s_E_take hz hG (hN4.1 6 ((q1 4 1)).toNat) hq7) dX5_readLaw_17 mw_E_take cl5 sh_4 (by decide) (Nat.le_trans (by decide) hz) ml_E_88 im_E_take se_E_take rfl rfl rfl rfl (Nat.le_refl _) (Nat.le_of_eq hb.symm) (fun hp8 => ?_)
  show Zt _ _ _ _ 20 _ [] (z, q6, J, G)
  refine z_aload_n dX5_readLaw_20 rfl ?_
  refine z_bipush dX5_readLaw_21 (by decide +kernel) ?_
  obtain ⟨q9, hq10, h⟩ := bindE h
  refine z_callV (As := [vI 61]) (rest := []) (s_E_take hz hG (inRd (x := 61) (by decide)) hq10) dX5_readLaw_23 mw_E_take cl5 sh_4 (by decide) (Nat.le_trans (by decide) hz) ml_E_88 im_E_take se_E_take rfl rfl rfl rfl (Nat.le_refl _) (Nat.le_of_eq hb.symm) (fun hp11 => ?_)
  show Zt _ _ _ _ 26 _ [] (z, q9, J, G)
  refine z_iconst dX5_readLaw_26 ?_
  refine z_istore_n (L' := [some (vR g 4), some (vR g r1), some (vI 0), none]) dX5_readLaw_27 rfl rfl rfl ?_
  obtain ⟨e51, h52, h⟩ := bindE h
  refine l_E_readLaw_L28 hb hz hG hr1 _ _ _ h52 (inRd (x := 0) (by decide)) ?_
  refine fun h53 => ?_
  refine z_aload_n dX5_readLaw_140 rfl ?_
  refine z_aload_n dX5_readLaw_141 rfl ?_
  refine z_iconst dX5_readLaw_142 ?_
  obtain ⟨q54, hq55, h⟩ := bindE h
  refine z_callV (As := [vR g r1, vI 0]) (rest := []) (s_E_readSum hz hG hr1 (inRd (x := 0) (by decide)) hq55) dX5_readLaw_143 mw_E_readSum cl5 sh_4 (by decide) (Nat.le_trans (by decide) hz) ml_E_161 im_E_readSum se_E_readSum rfl rfl rfl rfl (Nat.le_refl _) (Nat.le_of_eq hb.symm) (fun hp56 => ?_)
  show Zt _ _ _ _ 146 _ [] (z, q54, J, G)
  refine z_aload_n dX5_readLaw_146 rfl ?_
  refine z_bipush dX5_readLaw_147 (by decide +kernel) ?_
  refine z_iconst dX5_readLaw_149 ?_
  obtain ⟨q57, hq58, h⟩ := bindE h
  refine z_callV (As := [vI 7, vI 0]) (rest := []) (s_W_put hz hG hr1 (inRd (x := 7) (by decide)) (inRd (x := 0) (by decide)) hq58) dX5_readLaw_150 mw_W_put cl3 (law_sh hr1) (law_pos hr1) (Nat.le_trans (law_le hr1) hz) ml_E_165 im_W_put se_W_put rfl rfl rfl rfl (Nat.le_refl _) (Nat.le_of_eq hb.symm) (fun hp59 => ?_)
  show Zt _ _ _ _ 153 _ [vI q57.1] (z, q57.2, J, G)
  refine z_pop dX5_readLaw_153 rfl ?_
  refine z_aload_n dX5_readLaw_154 rfl ?_
  refine z_bipush dX5_readLaw_155 (by decide +kernel) ?_
  obtain ⟨q60, hq61, h⟩ := bindE h
  refine z_callV (As := [vI 59]) (rest := []) (s_E_take hz hG (inRd (x := 59) (by decide)) hq61) dX5_readLaw_157 mw_E_take cl5 sh_4 (by decide) (Nat.le_trans (by decide) hz) ml_E_88 im_E_take se_E_take rfl rfl rfl rfl (Nat.le_refl _) (Nat.le_of_eq hb.symm) (fun hp62 => ?_)
  show Zt _ _ _ _ 160 _ [] (z, q60, J, G)
  obtain rfl := someE h
  exact z_vret dX5_readLaw_160 hE trivial rfl
set_option maxHeartbeats 1000000 in
theorem s_E_readLeap {l : Launch} {g : GX} {z : Nat} {G : Nat → Nat → Nat} {F : Nat} (hz : 295 ≤ z) (hG : lyX G) {r1 : Nat} {I J : Nat → Nat → Int} (hr1 : isRiv r1) {res : MI} (h : f_E_readLeap F r1 I = some res) : Spec l g 3 yX5_readLeap cX5_readLeap 2 none [vR g 4, vR g r1] (z, I, J, G) none True (z, res, J, G) := by
  refine spec_of (μ := mu_E_readLeap) (k := 0) (L0 := [some (vR g 4), some (vR g r1)]) rfl mw_E_readLeap rfl rfl (Nat.le_refl _) (fun φ hb hE => ?_)
  refine z_aload_n dX5_readLeap_0 rfl ?_
  refine z_sipush dX5_readLeap_1 (by decide +kernel) ?_
  obtain ⟨q1, hq2, h⟩ := bindE h
  refine z_callV (As := [vI 259]) (rest := []) (s_E_take hz hG (inRd (x := 259) (by decide)) hq2) dX5_readLeap_4 mw_E_take cl5 sh_4 (by decide) (Nat.le_trans (by decide) hz) ml_E_88 im_E_take se_E_take rfl rfl rfl rfl (Nat.le_refl _) (Nat.le_of_eq hb.symm) (fun hp3 => ?_)
  show Zt _ _ _ _ 7 _ [] (z, q1, J, G)
  refine z_aload_n dX5_readLeap_7 rfl ?_
  refine z_aload_n dX5_readLeap_8 rfl ?_
  refine z_iconst dX5_readLeap_9 ?_
  refine z_iconst dX5_readLeap_10 ?_
  obtain ⟨q4, hq5, h⟩ := bindE h
  refine z_callV (As := [vI 1, vI 4]) (rest := [vR g r1]) (s_E_takeInt hz hG (inRd (x := 1) (by decide)) (inRd (x := 4) (by decide)) hq5) dX5_readLeap_11 mw_E_takeInt cl5 sh_4 (by decide) (Nat.le_trans (by decide) hz) ml_E_91 im_E_takeInt se_E_takeInt rfl rfl rfl rfl (Nat.le_refl _) (Nat.le_of_eq hb.symm) (fun hp6 => ?_)
  show Zt _ _ _ _ 14 _ [vI q4.1, vR g r1] (z, q4.2, J, G)
  refine y_putNI (host := "FarewellStones") dX5_readLeap_14 cl6 (riv_sh hr1) (riv_pos hr1) (Nat.le_trans (riv_le hr1) hz) 2 rfl rfl rfl (flN_E_109) rfl rfl hp6 ?_
  refine z_aload_n dX5_readLeap_17 rfl ?_
  refine z_bipush dX5_readLeap_18 (by decide +kernel) ?_
  obtain ⟨q7, hq8, h⟩ := bindE h
  refine z_callV (As := [vI 59]) (rest := []) (s_E_take hz hG (inRd (x := 59) (by decide)) hq8) dX5_readLeap_20 mw_E_take cl5 sh_4 (by decide) (Nat.le_trans (by decide) hz) ml_E_88 im_E_take se_E_take rfl rfl rfl rfl (Nat.le_refl _) (Nat.le_of_eq hb.symm) (fun hp9 => ?_)
  show Zt _ _ _ _ 23 _ [] (z, q7, J, G)
  obtain rfl := someE h
  exact z_vret dX5_readLeap_23 hE trivial rfl
set_option maxHeartbeats 1000000 in
theorem t_E_isSameName_L26 {l : Launch} {g : GX} {φ : CX} {z : Nat} {G : Nat → Nat → Nat} {F : Nat} (hb : cb φ = z) (hz : 295 ≤ z) (hG : lyX G) {x2 : Int} {x3 : Int} {x4 : Int} {I J : Nat → Nat → Int} (hx2 : inR x2) (hx3 : inR x3) (hx4 : inR x4) {res : ((Unit) ⊕ (Unit)) ⊕ (Int)} (h : f_E_isSameName_L26 F x2 x3 x4 I = some res) (kE : ∀ e : (Unit) ⊕ (Unit), res = .inl e → ((fun w : (Unit) ⊕ (Unit) => (match w with | .inl e0 => ((True) → Zt l g φ mu_E_isSameName 75 [none, none, none, none, none] [] (z, I, J, G)) | .inr o0 => ((True) → Zt l g φ mu_E_isSameName 83 [none, none, none, none, none] [] (z, I, J, G)))) e)) (kS : ∀ s : Int, res = .inr s → (inR s) → Zt l g φ mu_E_isSameName 26 [some (vR g 4), some (vR g 2), some (vI x2), some (vI x3), some (vI s)] [] (z, I, J, G)) : Zt l g φ mu_E_isSameName 26 [some (vR g 4), some (vR g 2), some (vI x2), some (vI x3), some (vI x4)] [] (z, I, J, G) := by
  refine z_iload dX5_isSameName_26 rfl ?_
  refine z_aload_n dX5_isSameName_28 rfl ?_
  refine y_getR dX5_isSameName_29 cl5 sh_4 (by decide) (Nat.le_trans (by decide) hz) 0 rfl rfl (fl_E_12) (ly_4_0 hG) (by decide) ?_
  refine y_getNR (host := "FarewellStones") dX5_isSameName_32 cl8 sh_5 (by decide) (Nat.le_trans (by decide) hz) 2 rfl rfl (flN_E_142) (ly_5_2 hG) (by decide) ?_
  refine z_iload_n dX5_isSameName_35 rfl ?_
  obtain ⟨hg5, h⟩ := guardE h
  refine z_nm (fun hN6 => ?_)
  refine y_iald dX5_isSameName_36 sh_8 (by decide) (Nat.le_trans (by decide) hz) hx2 hg5 ?_
  refine z_icmp_ge (tgt := 83) dX5_isSameName_37 (by decide) hx4 (hN6.1 8 (x2).toNat) (fun hc7 => ?_) (fun hc7 => ?_)
  · replace h := ifT hc7 h
    refine z_weak (L' := [none, none, none, none, none]) (lsN (lsN (lsN (lsN (lsN ls0))))) ?_
    exact kE _ (someE h).symm trivial
  replace h := ifF hc7 h
  refine z_aload_n dX5_isSameName_40 rfl ?_
  refine z_aload_n dX5_isSameName_41 rfl ?_
  refine y_getR dX5_isSameName_42 cl5 sh_4 (by decide) (Nat.le_trans (by decide) hz) 0 rfl rfl (fl_E_12) (ly_4_0 hG) (by decide) ?_
  refine y_getNR (host := "FarewellStones") dX5_isSameName_45 cl8 sh_5 (by decide) (Nat.le_trans (by decide) hz) 1 rfl rfl (flN_E_135) (ly_5_1 hG) (by decide) ?_
  refine z_iload_n dX5_isSameName_48 rfl ?_
  refine y_iald dX5_isSameName_49 sh_7 (by decide) (Nat.le_trans (by decide) hz) hx2 hg5 ?_
  refine z_iload dX5_isSameName_50 rfl ?_
  refine z_iadd dX5_isSameName_52 ?_
  obtain ⟨q8, hq9, h⟩ := bindE h
  refine z_callV (As := [vI (w32 ((I 7 (x2).toNat) + x4))]) (rest := []) (s_T_byteAt hz hG (inR_w32 _) hq9) dX5_isSameName_53 mw_T_byteAt cl7 sh_2 (by decide) (Nat.le_trans (by decide) hz) ml_E_143 im_T_byteAt se_T_byteAt rfl rfl rfl rfl (Nat.le_refl _) (Nat.le_of_eq hb.symm) (fun hp10 => ?_)
  show Zt _ _ _ _ 56 _ [vI q8] (z, I, J, G)
  refine z_aload_n dX5_isSameName_56 rfl ?_
  refine z_aload_n dX5_isSameName_57 rfl ?_
  refine y_getR dX5_isSameName_58 cl5 sh_4 (by decide) (Nat.le_trans (by decide) hz) 0 rfl rfl (fl_E_12) (ly_4_0 hG) (by decide) ?_
  refine y_getNR (host := "FarewellStones") dX5_isSameName_61 cl8 sh_5 (by decide) (Nat.le_trans (by decide) hz) 1 rfl rfl (flN_E_135) (ly_5_1 hG) (by decide) ?_
  refine z_iload_n dX5_isSameName_64 rfl ?_
  obtain ⟨hg11, h⟩ := guardE h
  refine y_iald dX5_isSameName_65 sh_7 (by decide) (Nat.le_trans (by decide) hz) hx3 hg11 ?_
  refine z_iload dX5_isSameName_66 rfl ?_
  refine z_iadd dX5_isSameName_68 ?_
  obtain ⟨q12, hq13, h⟩ := bindE h
  refine z_callV (As := [vI (w32 ((I 7 (x3).toNat) + x4))]) (rest := [vI q8]) (s_T_byteAt hz hG (inR_w32 _) hq13) dX5_isSameName_69 mw_T_byteAt cl7 sh_2 (by decide) (Nat.le_trans (by decide) hz) ml_E_143 im_T_byteAt se_T_byteAt rfl rfl rfl rfl (Nat.le_refl _) (Nat.le_of_eq hb.symm) (fun hp14 => ?_)
  show Zt _ _ _ _ 72 _ [vI q12, vI q8] (z, I, J, G)
  refine z_icmp_eq (tgt := 77) dX5_isSameName_72 (by decide) hp10 hp14 (fun hc15 => ?_) (fun hc15 => ?_)
  · replace h := ifT hc15 h
    refine z_iinc (L' := [some (vR g 4), some (vR g 2), some (vI x2), some (vI x3), some (vI (w32 (x4 + 1)))]) dX5_isSameName_77 rfl rfl rfl rfl ?_
    refine z_goto (tgt := 26) dX5_isSameName_80 (by decide) ?_
    exact kS _ (someE h).symm (inR_w32 _)
  replace h := ifF hc15 h
  refine z_weak (L' := [none, none, none, none, none]) (lsN (lsN (lsN (lsN (lsN ls0))))) ?_
  exact kE _ (someE h).symm trivial
theorem l_E_isSameName_L26 {l : Launch} {g : GX} {φ : CX} {z : Nat} {G : Nat → Nat → Nat} {F : Nat} (hb : cb φ = z) (hz : 295 ≤ z) (hG : lyX G) {x2 : Int} {x3 : Int} {I : Nat → Nat → Int} {J : Nat → Nat → Int} (hx2 : inR x2) (hx3 : inR x3) (n : Nat) (s : Int) (e : (Unit) ⊕ (Unit)) (h : iter (fun s : Int => f_E_isSameName_L26 F x2 x3 s I) n s = some e) (hs : inR s) (k : ((fun w : (Unit) ⊕ (Unit) => (match w with | .inl e0 => ((True) → Zt l g φ mu_E_isSameName 75 [none, none, none, none, none] [] (z, I, J, G)) | .inr o0 => ((True) → Zt l g φ mu_E_isSameName 83 [none, none, none, none, none] [] (z, I, J, G)))) e)) : Zt l g φ mu_E_isSameName 26 [some (vR g 4), some (vR g 2), some (vI x2), some (vI x3), some (vI s)] [] (z, I, J, G) := by
  refine iter_ind (Z := fun s : Int => Zt l g φ mu_E_isSameName 26 [some (vR g 4), some (vR g 2), some (vI x2), some (vI x3), some (vI s)] [] (z, I, J, G)) (ZE := fun e : (Unit) ⊕ (Unit) => ((fun w : (Unit) ⊕ (Unit) => (match w with | .inl e0 => ((True) → Zt l g φ mu_E_isSameName 75 [none, none, none, none, none] [] (z, I, J, G)) | .inr o0 => ((True) → Zt l g φ mu_E_isSameName 83 [none, none, none, none, none] [] (z, I, J, G)))) e)) (Rg := fun s : Int => inR s) ?_ n s e h hs k
  intro s r hr hst kE kS
  exact t_E_isSameName_L26 hb hz hG hx2 hx3 hr hst kE kS
set_option maxHeartbeats 1000000 in
theorem s_E_isSameName {l : Launch} {g : GX} {z : Nat} {G : Nat → Nat → Nat} {F : Nat} (hz : 295 ≤ z) (hG : lyX G) {x2 : Int} {x3 : Int} {I J : Nat → Nat → Int} (hx2 : inR x2) (hx3 : inR x3) {res : Int} (h : f_E_isSameName F x2 x3 I = some res) : Spec l g 1 yX5_isSameName cX5_isSameName 5 (some .boolean) [vR g 4, vR g 2, vI x2, vI x3] (z, I, J, G) (some (vI res)) (res = 0 ∨ res = 1) (z, I, J, G) := by
  refine spec_of (μ := mu_E_isSameName) (k := 1) (L0 := [some (vR g 4), some (vR g 2), some (vI x2), some (vI x3), none]) rfl mw_E_isSameName rfl rfl (Nat.le_refl _) (fun φ hb hE => ?_)
  refine z_aload_n dX5_isSameName_0 rfl ?_
  refine y_getR dX5_isSameName_1 cl5 sh_4 (by decide) (Nat.le_trans (by decide) hz) 0 rfl rfl (fl_E_12) (ly_4_0 hG) (by decide) ?_
  refine y_getNR (host := "FarewellStones") dX5_isSameName_4 cl8 sh_5 (by decide) (Nat.le_trans (by decide) hz) 2 rfl rfl (flN_E_142) (ly_5_2 hG) (by decide) ?_
  refine z_iload_n dX5_isSameName_7 rfl ?_
  obtain ⟨hg1, h⟩ := guardE h
  refine z_nm (fun hN2 => ?_)
  refine y_iald dX5_isSameName_8 sh_8 (by decide) (Nat.le_trans (by decide) hz) hx2 hg1 ?_
  refine z_aload_n dX5_isSameName_9 rfl ?_
  refine y_getR dX5_isSameName_10 cl5 sh_4 (by decide) (Nat.le_trans (by decide) hz) 0 rfl rfl (fl_E_12) (ly_4_0 hG) (by decide) ?_
  refine y_getNR (host := "FarewellStones") dX5_isSameName_13 cl8 sh_5 (by decide) (Nat.le_trans (by decide) hz) 2 rfl rfl (flN_E_142) (ly_5_2 hG) (by decide) ?_
  refine z_iload_n dX5_isSameName_16 rfl ?_
  obtain ⟨hg3, h⟩ := guardE h
  refine y_iald dX5_isSameName_17 sh_8 (by decide) (Nat.le_trans (by decide) hz) hx3 hg3 ?_
  refine z_icmp_eq (tgt := 23) dX5_isSameName_18 (by decide) (hN2.1 8 (x2).toNat) (hN2.1 8 (x3).toNat) (fun hc4 => ?_) (fun hc4 => ?_)
  · replace h := ifT hc4 h
    refine z_iconst dX5_isSameName_23 ?_
    refine z_istore (L' := [some (vR g 4), some (vR g 2), some (vI x2), some (vI x3), some (vI 0)]) dX5_isSameName_24 rfl rfl rfl ?_
    obtain ⟨e16, h17, h⟩ := bindE h
    rcases e16 with e18 | o19
    · refine l_E_isSameName_L26 hb hz hG hx2 hx3 _ _ _ h17 (inRd (x := 0) (by decide)) ?_
      refine fun h20 => ?_
      refine z_iconst dX5_isSameName_75 ?_
      obtain rfl := someE h
      exact z_zret dX5_isSameName_76 hE b01_0 b01_0 rfl
    refine l_E_isSameName_L26 hb hz hG hx2 hx3 _ _ _ h17 (inRd (x := 0) (by decide)) ?_
    refine fun h21 => ?_
    refine z_iconst dX5_isSameName_83 ?_
    obtain rfl := someE h
    exact z_zret dX5_isSameName_84 hE b01_1 b01_1 rfl
  replace h := ifF hc4 h
  refine z_iconst dX5_isSameName_21 ?_
  obtain rfl := someE h
  exact z_zret dX5_isSameName_22 hE b01_0 b01_0 rfl
set_option maxHeartbeats 1000000 in
theorem t_E_takeName_L30 {l : Launch} {g : GX} {φ : CX} {z : Nat} {G : Nat → Nat → Nat} {F : Nat} (hb : cb φ = z) (hz : 295 ≤ z) (hG : lyX G) {x2 : Int} {x3 : Int} {x4 : Int} {I J : Nat → Nat → Int} (hx2 : inR x2) (hx3 : inR x3) (hx4 : inR x4) {res : (MI) ⊕ (Int × MI)} (h : f_E_takeName_L30 F x2 x3 x4 I = some res) (kE : ∀ e : MI, res = .inl e → ((True) → Zt l g φ mu_E_takeName 72 [none, none, none, none, none] [] (z, e, J, G))) (kS : ∀ s : Int × MI, res = .inr s → (inR s.1) → Zt l g φ mu_E_takeName 30 [some (vR g 4), some (vR g 2), some (vI x2), some (vI x3), some (vI s.1)] [] (z, s.2, J, G)) : Zt l g φ mu_E_takeName 30 [some (vR g 4), some (vR g 2), some (vI x2), some (vI x3), some (vI x4)] [] (z, I, J, G) := by
  refine z_iload dX5_takeName_30 rfl ?_
  refine z_iload_n dX5_takeName_32 rfl ?_
  refine z_icmp_ge (tgt := 72) dX5_takeName_33 (by decide) hx4 hx2 (fun hc8 => ?_) (fun hc8 => ?_)
  · replace h := ifT hc8 h
    refine z_weak (L' := [none, none, none, none, none]) (lsN (lsN (lsN (lsN (lsN ls0))))) ?_
    exact kE _ (someE h).symm trivial
  replace h := ifF hc8 h
  refine z_aload_n dX5_takeName_36 rfl ?_
  refine z_aload_n dX5_takeName_37 rfl ?_
  refine z_iload_n dX5_takeName_38 rfl ?_
  refine z_aload_n dX5_takeName_39 rfl ?_
  refine y_getR dX5_takeName_40 cl5 sh_4 (by decide) (Nat.le_trans (by decide) hz) 7 rfl rfl (fl_E_18) (ly_4_7 hG) (by decide) ?_
  refine z_iload dX5_takeName_43 rfl ?_
  obtain ⟨hg9, h⟩ := guardE h
  refine z_nm (fun hN10 => ?_)
  refine y_iald dX5_takeName_45 sh_10 (by decide) (Nat.le_trans (by decide) hz) hx4 hg9 ?_
  obtain ⟨q11, hq12, h⟩ := bindE h
  refine z_callV (As := [vR g 2, vI x3, vI (I 10 (x4).toNat)]) (rest := []) (s_E_isSameName hz hG hx3 (hN10.1 10 (x4).toNat) hq12) dX5_takeName_46 mw_E_isSameName cl5 sh_4 (by decide) (Nat.le_trans (by decide) hz) ml_E_131 im_E_isSameName se_E_isSameName rfl rfl rfl rfl (Nat.le_refl _) (Nat.le_of_eq hb.symm) (fun hp13 => ?_)
  show Zt _ _ _ _ 49 _ [vI q11] (z, I, J, G)
  refine z_if_eq (tgt := 66) dX5_takeName_49 (by decide) (inR_bool hp13) (fun hc14 => ?_) (fun hc14 => ?_)
  · replace h := ifT hc14 h
    refine z_iinc (L' := [some (vR g 4), some (vR g 2), some (vI x2), some (vI x3), some (vI (w32 (x4 + 1)))]) dX5_takeName_66 rfl rfl rfl rfl ?_
    refine z_goto (tgt := 30) dX5_takeName_69 (by decide) ?_
    exact kS _ (someE h).symm (inR_w32 _)
  replace h := ifF hc14 h
  refine z_aload_n dX5_takeName_52 rfl ?_
  refine z_iconst dX5_takeName_53 ?_
  refine z_aload_n dX5_takeName_54 rfl ?_
  refine y_getR dX5_takeName_55 cl5 sh_4 (by decide) (Nat.le_trans (by decide) hz) 0 rfl rfl (fl_E_12) (ly_4_0 hG) (by decide) ?_
  refine y_getNR (host := "FarewellStones") dX5_takeName_58 cl8 sh_5 (by decide) (Nat.le_trans (by decide) hz) 1 rfl rfl (flN_E_135) (ly_5_1 hG) (by decide) ?_
  refine z_iload_n dX5_takeName_61 rfl ?_
  obtain ⟨hg15, h⟩ := guardE h
  refine y_iald dX5_takeName_62 sh_7 (by decide) (Nat.le_trans (by decide) hz) hx3 hg15 ?_
  obtain ⟨q16, hq17, h⟩ := bindE h
  refine z_callV (As := [vI 3, vI (I 7 (x3).toNat)]) (rest := []) (s_E_failLater hz hG (inRd (x := 3) (by decide)) (hN10.1 7 (x3).toNat) hq17) dX5_takeName_63 mw_E_failLater cl5 sh_4 (by decide) (Nat.le_trans (by decide) hz) ml_E_138 im_E_failLater se_E_failLater rfl rfl rfl rfl (Nat.le_refl _) (Nat.le_of_eq hb.symm) (fun hp18 => ?_)
  show Zt _ _ _ _ 66 _ [] (z, q16, J, G)
  refine z_iinc (L' := [some (vR g 4), some (vR g 2), some (vI x2), some (vI x3), some (vI (w32 (x4 + 1)))]) dX5_takeName_66 rfl rfl rfl rfl ?_
  refine z_goto (tgt := 30) dX5_takeName_69 (by decide) ?_
  exact kS _ (someE h).symm (inR_w32 _)
theorem l_E_takeName_L30 {l : Launch} {g : GX} {φ : CX} {z : Nat} {G : Nat → Nat → Nat} {F : Nat} (hb : cb φ = z) (hz : 295 ≤ z) (hG : lyX G) {x2 : Int} {x3 : Int} {J : Nat → Nat → Int} (hx2 : inR x2) (hx3 : inR x3) (n : Nat) (s : Int × MI) (e : MI) (h : iter (fun s : Int × MI => f_E_takeName_L30 F x2 x3 s.1 s.2) n s = some e) (hs : inR s.1) (k : ((True) → Zt l g φ mu_E_takeName 72 [none, none, none, none, none] [] (z, e, J, G))) : Zt l g φ mu_E_takeName 30 [some (vR g 4), some (vR g 2), some (vI x2), some (vI x3), some (vI s.1)] [] (z, s.2, J, G) := by
  refine iter_ind (Z := fun s : Int × MI => Zt l g φ mu_E_takeName 30 [some (vR g 4), some (vR g 2), some (vI x2), some (vI x3), some (vI s.1)] [] (z, s.2, J, G)) (ZE := fun e : MI => ((True) → Zt l g φ mu_E_takeName 72 [none, none, none, none, none] [] (z, e, J, G))) (Rg := fun s : Int × MI => inR s.1) ?_ n s e h hs k
  intro s r hr hst kE kS
  exact t_E_takeName_L30 hb hz hG hx2 hx3 hr hst kE kS
set_option maxHeartbeats 1000000 in
theorem s_E_takeName {l : Launch} {g : GX} {z : Nat} {G : Nat → Nat → Nat} {F : Nat} (hz : 295 ≤ z) (hG : lyX G) {x2 : Int} {I J : Nat → Nat → Int} (hx2 : inR x2) {res : MI} (h : f_E_takeName F x2 I = some res) : Spec l g 2 yX5_takeName cX5_takeName 5 none [vR g 4, vR g 2, vI x2] (z, I, J, G) none True (z, res, J, G) := by
  refine spec_of (μ := mu_E_takeName) (k := 2) (L0 := [some (vR g 4), some (vR g 2), some (vI x2), none, none]) rfl mw_E_takeName rfl rfl (Nat.le_refl _) (fun φ hb hE => ?_)
  refine z_aload_n dX5_takeName_0 rfl ?_
  refine z_nm (fun hN1 => ?_)
  refine y_getI dX5_takeName_1 cl5 sh_4 (by decide) (Nat.le_trans (by decide) hz) 1 rfl rfl (fl_E_31) ?_
  refine z_istore_n (L' := [some (vR g 4), some (vR g 2), some (vI x2), some (vI (I 4 1)), none]) dX5_takeName_4 rfl rfl rfl ?_
  refine z_aload_n dX5_takeName_5 rfl ?_
  refine y_getR dX5_takeName_6 cl5 sh_4 (by decide) (Nat.le_trans (by decide) hz) 7 rfl rfl (fl_E_18) (ly_4_7 hG) (by decide) ?_
  refine z_iload_n dX5_takeName_9 rfl ?_
  refine z_iload_n dX5_takeName_10 rfl ?_
  obtain ⟨hg2, h⟩ := guardE h
  refine y_iast dX5_takeName_11 sh_10 (by decide) (Nat.le_trans (by decide) hz) hx2 hg2 (hN1.1 4 1) ?_
  refine z_aload_n dX5_takeName_12 rfl ?_
  refine z_sipush dX5_takeName_13 (by decide +kernel) ?_
  obtain ⟨q3, hq4, h⟩ := bindE h
  refine z_callV (As := [vI 300]) (rest := []) (s_E_take hz hG (inRd (x := 300) (by decide)) hq4) dX5_takeName_16 mw_E_take cl5 sh_4 (by decide) (Nat.le_trans (by decide) hz) ml_E_88 im_E_take se_E_take rfl rfl rfl rfl (Nat.le_refl _) (Nat.le_of_eq hb.symm) (fun hp5 => ?_)
  show Zt _ _ _ _ 19 _ [] (z, q3, J, G)
  refine z_aload_n dX5_takeName_19 rfl ?_
  refine z_nm (fun hN6 => ?_)
  refine y_getI dX5_takeName_20 cl5 sh_4 (by decide) (Nat.le_trans (by decide) hz) 2 rfl rfl (fl_E_35) ?_
  refine z_if_eq (tgt := 27) dX5_takeName_23 (by decide) (hN6.1 4 2) (fun hc7 => ?_) (fun hc7 => ?_)
  · replace h := ifT hc7 h
    refine z_iconst dX5_takeName_27 ?_
    refine z_istore (L' := [some (vR g 4), some (vR g 2), some (vI x2), some (vI (I 4 1)), some (vI 0)]) dX5_takeName_28 rfl rfl rfl ?_
    obtain ⟨e19, h20, h⟩ := bindE h
    refine l_E_takeName_L30 hb hz hG hx2 (hN1.1 4 1) _ _ _ h20 (inRd (x := 0) (by decide)) ?_
    refine fun h21 => ?_
    obtain rfl := someE h
    exact z_vret dX5_takeName_72 hE trivial rfl
  replace h := ifF hc7 h
  obtain rfl := someE h
  exact z_vret dX5_takeName_26 hE trivial rfl
set_option maxHeartbeats 1000000 in
theorem s_E_readLeaver {l : Launch} {g : GX} {z : Nat} {G : Nat → Nat → Nat} {F : Nat} (hz : 295 ≤ z) (hG : lyX G) {r2 : Nat} {I J : Nat → Nat → Int} (hr2 : isRiv r2) {res : MI} (h : f_E_readLeaver F r2 I = some res) : Spec l g 3 yX5_readLeaver cX5_readLeaver 4 none [vR g 4, vR g 2, vR g r2] (z, I, J, G) none True (z, res, J, G) := by
  refine spec_of (μ := mu_E_readLeaver) (k := 1) (L0 := [some (vR g 4), some (vR g 2), some (vR g r2), none]) rfl mw_E_readLeaver rfl rfl (Nat.le_refl _) (fun φ hb hE => ?_)
  refine z_aload_n dX5_readLeaver_0 rfl ?_
  refine z_nm (fun hN1 => ?_)
  refine y_getNI (host := "FarewellStones") dX5_readLeaver_1 cl6 (riv_sh hr2) (riv_pos hr2) (Nat.le_trans (riv_le hr2) hz) 5 rfl rfl (flN_E_112) ?_
  refine z_istore_n (L' := [some (vR g 4), some (vR g 2), some (vR g r2), some (vI (I r2 5))]) dX5_readLeaver_4 rfl rfl rfl ?_
  refine z_iload_n dX5_readLeaver_5 rfl ?_
  refine z_bipush dX5_readLeaver_6 (by decide +kernel) ?_
  refine z_icmp_lt (tgt := 17) dX5_readLeaver_8 (by decide) (hN1.1 r2 5) (inRd (x := 8) (by decide)) (fun hc2 => ?_) (fun hc2 => ?_)
  · replace h := ifT hc2 h
    refine z_aload_n dX5_readLeaver_17 rfl ?_
    refine z_sipush dX5_readLeaver_18 (by decide +kernel) ?_
    obtain ⟨q3, hq4, h⟩ := bindE h
    refine z_callV (As := [vI 260]) (rest := []) (s_E_take hz hG (inRd (x := 260) (by decide)) hq4) dX5_readLeaver_21 mw_E_take cl5 sh_4 (by decide) (Nat.le_trans (by decide) hz) ml_E_88 im_E_take se_E_take rfl rfl rfl rfl (Nat.le_refl _) (Nat.le_of_eq hb.symm) (fun hp5 => ?_)
    show Zt _ _ _ _ 24 _ [] (z, q3, J, G)
    refine z_aload_n dX5_readLeaver_24 rfl ?_
    refine z_aload_n dX5_readLeaver_25 rfl ?_
    refine z_iload_n dX5_readLeaver_26 rfl ?_
    obtain ⟨q6, hq7, h⟩ := bindE h
    refine z_callV (As := [vR g 2, vI (I r2 5)]) (rest := []) (s_E_takeName hz hG (hN1.1 r2 5) hq7) dX5_readLeaver_27 mw_E_takeName cl5 sh_4 (by decide) (Nat.le_trans (by decide) hz) ml_E_115 im_E_takeName se_E_takeName rfl rfl rfl rfl (Nat.le_refl _) (Nat.le_of_eq hb.symm) (fun hp8 => ?_)
    show Zt _ _ _ _ 30 _ [] (z, q6, J, G)
    refine z_aload_n dX5_readLeaver_30 rfl ?_
    refine y_getNR (host := "FarewellStones") dX5_readLeaver_31 cl6 (riv_sh hr2) (riv_pos hr2) (Nat.le_trans (riv_le hr2) hz) 6 rfl rfl (flN_E_119) (riv_g6 hG hr2) (Nat.succ_pos _) ?_
    refine z_iload_n dX5_readLeaver_34 rfl ?_
    refine z_aload_n dX5_readLeaver_35 rfl ?_
    refine z_iconst dX5_readLeaver_36 ?_
    refine z_bipush dX5_readLeaver_37 (by decide +kernel) ?_
    obtain ⟨q9, hq10, h⟩ := bindE h
    refine z_callV (As := [vI 0, vI 99]) (rest := [vI (I r2 5), vR g (r2 + 3)]) (s_E_takeInt hz hG (inRd (x := 0) (by decide)) (inRd (x := 99) (by decide)) hq10) dX5_readLeaver_39 mw_E_takeInt cl5 sh_4 (by decide) (Nat.le_trans (by decide) hz) ml_E_91 im_E_takeInt se_E_takeInt rfl rfl rfl rfl (Nat.le_refl _) (Nat.le_of_eq hb.symm) (fun hp11 => ?_)
    show Zt _ _ _ _ 42 _ [vI q9.1, vI (I r2 5), vR g (r2 + 3)] (z, q9.2, J, G)
    obtain ⟨hg12, h⟩ := guardE h
    refine y_iast dX5_readLeaver_42 (riv_sh6 hr2) (Nat.succ_pos _) (Nat.le_trans (riv_le6 hr2) hz) (hN1.1 r2 5) hg12 hp11 ?_
    refine z_aload_n dX5_readLeaver_43 rfl ?_
    refine y_getNR (host := "FarewellStones") dX5_readLeaver_44 cl6 (riv_sh hr2) (riv_pos hr2) (Nat.le_trans (riv_le hr2) hz) 7 rfl rfl (flN_E_122) (riv_g7 hG hr2) (Nat.succ_pos _) ?_
    refine z_iload_n dX5_readLeaver_47 rfl ?_
    refine z_aload_n dX5_readLeaver_48 rfl ?_
    refine z_iconst dX5_readLeaver_49 ?_
    refine z_bipush dX5_readLeaver_50 (by decide +kernel) ?_
    obtain ⟨q13, hq14, h⟩ := bindE h
    refine z_callV (As := [vI 1, vI 9]) (rest := [vI (I r2 5), vR g (r2 + 4)]) (s_E_takeInt hz hG (inRd (x := 1) (by decide)) (inRd (x := 9) (by decide)) hq14) dX5_readLeaver_52 mw_E_takeInt cl5 sh_4 (by decide) (Nat.le_trans (by decide) hz) ml_E_91 im_E_takeInt se_E_takeInt rfl rfl rfl rfl (Nat.le_refl _) (Nat.le_of_eq hb.symm) (fun hp15 => ?_)
    show Zt _ _ _ _ 55 _ [vI q13.1, vI (I r2 5), vR g (r2 + 4)] (z, q13.2, J, G)
    refine y_iast dX5_readLeaver_55 (riv_sh7 hr2) (Nat.succ_pos _) (Nat.le_trans (riv_le7 hr2) hz) (hN1.1 r2 5) hg12 hp15 ?_
    refine z_aload_n dX5_readLeaver_56 rfl ?_
    refine y_getNR (host := "FarewellStones") dX5_readLeaver_57 cl6 (riv_sh hr2) (riv_pos hr2) (Nat.le_trans (riv_le hr2) hz) 8 rfl rfl (flN_E_125) (riv_g8 hG hr2) (Nat.succ_pos _) ?_
    refine z_iload_n dX5_readLeaver_60 rfl ?_
    refine z_aload_n dX5_readLeaver_61 rfl ?_
    refine z_iconst dX5_readLeaver_62 ?_
    refine z_bipush dX5_readLeaver_63 (by decide +kernel) ?_
    obtain ⟨q16, hq17, h⟩ := bindE h
    refine z_callV (As := [vI 1, vI 9]) (rest := [vI (I r2 5), vR g (r2 + 5)]) (s_E_takeInt hz hG (inRd (x := 1) (by decide)) (inRd (x := 9) (by decide)) hq17) dX5_readLeaver_65 mw_E_takeInt cl5 sh_4 (by decide) (Nat.le_trans (by decide) hz) ml_E_91 im_E_takeInt se_E_takeInt rfl rfl rfl rfl (Nat.le_refl _) (Nat.le_of_eq hb.symm) (fun hp18 => ?_)
    show Zt _ _ _ _ 68 _ [vI q16.1, vI (I r2 5), vR g (r2 + 5)] (z, q16.2, J, G)
    refine y_iast dX5_readLeaver_68 (riv_sh8 hr2) (Nat.succ_pos _) (Nat.le_trans (riv_le8 hr2) hz) (hN1.1 r2 5) hg12 hp18 ?_
    refine z_aload_n dX5_readLeaver_69 rfl ?_
    refine y_getNR (host := "FarewellStones") dX5_readLeaver_70 cl6 (riv_sh hr2) (riv_pos hr2) (Nat.le_trans (riv_le hr2) hz) 9 rfl rfl (flN_E_128) (riv_g9 hG hr2) (Nat.succ_pos _) ?_
    refine z_iload_n dX5_readLeaver_73 rfl ?_
    refine z_aload_n dX5_readLeaver_74 rfl ?_
    refine z_iconst dX5_readLeaver_75 ?_
    refine z_bipush dX5_readLeaver_76 (by decide +kernel) ?_
    obtain ⟨q19, hq20, h⟩ := bindE h
    refine z_callV (As := [vI 0, vI 99]) (rest := [vI (I r2 5), vR g (r2 + 6)]) (s_E_takeInt hz hG (inRd (x := 0) (by decide)) (inRd (x := 99) (by decide)) hq20) dX5_readLeaver_78 mw_E_takeInt cl5 sh_4 (by decide) (Nat.le_trans (by decide) hz) ml_E_91 im_E_takeInt se_E_takeInt rfl rfl rfl rfl (Nat.le_refl _) (Nat.le_of_eq hb.symm) (fun hp21 => ?_)
    show Zt _ _ _ _ 81 _ [vI q19.1, vI (I r2 5), vR g (r2 + 6)] (z, q19.2, J, G)
    refine y_iast dX5_readLeaver_81 (riv_sh9 hr2) (Nat.succ_pos _) (Nat.le_trans (riv_le9 hr2) hz) (hN1.1 r2 5) hg12 hp21 ?_
    refine z_aload_n dX5_readLeaver_82 rfl ?_
    refine z_bipush dX5_readLeaver_83 (by decide +kernel) ?_
    obtain ⟨q22, hq23, h⟩ := bindE h
    refine z_callV (As := [vI 59]) (rest := []) (s_E_take hz hG (inRd (x := 59) (by decide)) hq23) dX5_readLeaver_85 mw_E_take cl5 sh_4 (by decide) (Nat.le_trans (by decide) hz) ml_E_88 im_E_take se_E_take rfl rfl rfl rfl (Nat.le_refl _) (Nat.le_of_eq hb.symm) (fun hp24 => ?_)
    show Zt _ _ _ _ 88 _ [] (z, q22, J, G)
    refine z_aload_n dX5_readLeaver_88 rfl ?_
    refine z_dup dX5_readLeaver_89 rfl ?_
    refine z_nm (fun hN25 => ?_)
    refine y_getNI (host := "FarewellStones") dX5_readLeaver_90 cl6 (riv_sh hr2) (riv_pos hr2) (Nat.le_trans (riv_le hr2) hz) 5 rfl rfl (flN_E_112) ?_
    refine z_iconst dX5_readLeaver_93 ?_
    refine z_iadd dX5_readLeaver_94 ?_
    refine y_putNI (host := "FarewellStones") dX5_readLeaver_95 cl6 (riv_sh hr2) (riv_pos hr2) (Nat.le_trans (riv_le hr2) hz) 5 rfl rfl rfl (flN_E_112) rfl rfl (inR_w32 _) ?_
    obtain rfl := someE h
    exact z_vret dX5_readLeaver_98 hE trivial rfl
  replace h := ifF hc2 h
  refine z_aload_n dX5_readLeaver_11 rfl ?_
  refine z_iconst dX5_readLeaver_12 ?_
  obtain ⟨q26, hq27, h⟩ := bindE h
  refine z_callV (As := [vI 2]) (rest := []) (s_E_fail hz hG (inRd (x := 2) (by decide)) hq27) dX5_readLeaver_13 mw_E_fail cl5 sh_4 (by decide) (Nat.le_trans (by decide) hz) ml_E_78 im_E_fail se_E_fail rfl rfl rfl rfl (Nat.le_refl _) (Nat.le_of_eq hb.symm) (fun hp28 => ?_)
  show Zt _ _ _ _ 16 _ [] (z, q26, J, G)
  obtain rfl := someE h
  exact z_vret dX5_readLeaver_16 hE trivial rfl
set_option maxHeartbeats 1000000 in
theorem s_E_readRiver {l : Launch} {g : GX} {z : Nat} {G : Nat → Nat → Nat} {F : Nat} (hz : 295 ≤ z) (hG : lyX G) {r1 : Nat} {I J : Nat → Nat → Int} (hr1 : isRiv r1) {res : MI} (h : f_E_readRiver F r1 I = some res) : Spec l g 3 yX5_readRiver cX5_readRiver 2 none [vR g 4, vR g r1] (z, I, J, G) none True (z, res, J, G) := by
  refine spec_of (μ := mu_E_readRiver) (k := 0) (L0 := [some (vR g 4), some (vR g r1)]) rfl mw_E_readRiver rfl rfl (Nat.le_refl _) (fun φ hb hE => ?_)
  refine z_aload_n dX5_readRiver_0 rfl ?_
  refine z_sipush dX5_readRiver_1 (by decide +kernel) ?_
  obtain ⟨q1, hq2, h⟩ := bindE h
  refine z_callV (As := [vI 256]) (rest := []) (s_E_take hz hG (inRd (x := 256) (by decide)) hq2) dX5_readRiver_4 mw_E_take cl5 sh_4 (by decide) (Nat.le_trans (by decide) hz) ml_E_88 im_E_take se_E_take rfl rfl rfl rfl (Nat.le_refl _) (Nat.le_of_eq hb.symm) (fun hp3 => ?_)
  show Zt _ _ _ _ 7 _ [] (z, q1, J, G)
  refine z_aload_n dX5_readRiver_7 rfl ?_
  refine z_aload_n dX5_readRiver_8 rfl ?_
  refine z_iconst dX5_readRiver_9 ?_
  refine z_bipush dX5_readRiver_10 (by decide +kernel) ?_
  obtain ⟨q4, hq5, h⟩ := bindE h
  refine z_callV (As := [vI 1, vI 12]) (rest := [vR g r1]) (s_E_takeInt hz hG (inRd (x := 1) (by decide)) (inRd (x := 12) (by decide)) hq5) dX5_readRiver_12 mw_E_takeInt cl5 sh_4 (by decide) (Nat.le_trans (by decide) hz) ml_E_91 im_E_takeInt se_E_takeInt rfl rfl rfl rfl (Nat.le_refl _) (Nat.le_of_eq hb.symm) (fun hp6 => ?_)
  show Zt _ _ _ _ 15 _ [vI q4.1, vR g r1] (z, q4.2, J, G)
  refine y_putNI (host := "FarewellStones") dX5_readRiver_15 cl6 (riv_sh hr1) (riv_pos hr1) (Nat.le_trans (riv_le hr1) hz) 0 rfl rfl rfl (flN_E_95) rfl rfl hp6 ?_
  refine z_aload_n dX5_readRiver_18 rfl ?_
  refine z_aload_n dX5_readRiver_19 rfl ?_
  refine z_iconst dX5_readRiver_20 ?_
  refine z_bipush dX5_readRiver_21 (by decide +kernel) ?_
  obtain ⟨q7, hq8, h⟩ := bindE h
  refine z_callV (As := [vI 1, vI 8]) (rest := [vR g r1]) (s_E_takeInt hz hG (inRd (x := 1) (by decide)) (inRd (x := 8) (by decide)) hq8) dX5_readRiver_23 mw_E_takeInt cl5 sh_4 (by decide) (Nat.le_trans (by decide) hz) ml_E_91 im_E_takeInt se_E_takeInt rfl rfl rfl rfl (Nat.le_refl _) (Nat.le_of_eq hb.symm) (fun hp9 => ?_)
  show Zt _ _ _ _ 26 _ [vI q7.1, vR g r1] (z, q7.2, J, G)
  refine y_putNI (host := "FarewellStones") dX5_readRiver_26 cl6 (riv_sh hr1) (riv_pos hr1) (Nat.le_trans (riv_le hr1) hz) 1 rfl rfl rfl (flN_E_98) rfl rfl hp9 ?_
  refine z_aload_n dX5_readRiver_29 rfl ?_
  refine z_bipush dX5_readRiver_30 (by decide +kernel) ?_
  obtain ⟨q10, hq11, h⟩ := bindE h
  refine z_callV (As := [vI 59]) (rest := []) (s_E_take hz hG (inRd (x := 59) (by decide)) hq11) dX5_readRiver_32 mw_E_take cl5 sh_4 (by decide) (Nat.le_trans (by decide) hz) ml_E_88 im_E_take se_E_take rfl rfl rfl rfl (Nat.le_refl _) (Nat.le_of_eq hb.symm) (fun hp12 => ?_)
  show Zt _ _ _ _ 35 _ [] (z, q10, J, G)
  obtain rfl := someE h
  exact z_vret dX5_readRiver_35 hE trivial rfl
set_option maxHeartbeats 1000000 in
theorem t_E_readText_L34 {l : Launch} {g : GX} {φ : CX} {z : Nat} {G : Nat → Nat → Nat} {F : Nat} (hb : cb φ = z) (hz : 295 ≤ z) (hG : lyX G) {r2 : Nat} {x3 : Int} {I J : Nat → Nat → Int} (hr2 : isRiv r2) (hx3 : inR x3) {res : (MI) ⊕ (Int × MI)} (h : f_E_readText_L34 F r2 x3 I = some res) (kE : ∀ e : MI, res = .inl e → ((True) → Zt l g φ mu_E_readText 206 [some (vR g 4), none, none, none] [] (z, e, J, G))) (kS : ∀ s : Int × MI, res = .inr s → (inR s.1) → Zt l g φ mu_E_readText 34 [some (vR g 4), some (vR g 2), some (vR g r2), some (vI s.1)] [] (z, s.2, J, G)) : Zt l g φ mu_E_readText 34 [some (vR g 4), some (vR g 2), some (vR g r2), some (vI x3)] [] (z, I, J, G) := by
  refine z_iload_n dX5_readText_34 rfl ?_
  refine z_sipush dX5_readText_35 (by decide +kernel) ?_
  refine z_icmp_gt (tgt := 206) dX5_readText_38 (by decide) hx3 (inRd (x := 400) (by decide)) (fun hc7 => ?_) (fun hc7 => ?_)
  · replace h := ifT hc7 h
    refine z_weak (L' := [some (vR g 4), none, none, none]) (lsS (lsN (lsN (lsN ls0)))) ?_
    exact kE _ (someE h).symm trivial
  replace h := ifF hc7 h
  refine z_aload_n dX5_readText_41 rfl ?_
  refine z_nm (fun hN8 => ?_)
  refine y_getI dX5_readText_42 cl5 sh_4 (by decide) (Nat.le_trans (by decide) hz) 2 rfl rfl (fl_E_35) ?_
  refine z_if_ne (tgt := 206) dX5_readText_45 (by decide) (hN8.1 4 2) (fun hc9 => ?_) (fun hc9 => ?_)
  · replace h := ifT hc9 h
    refine z_weak (L' := [some (vR g 4), none, none, none]) (lsS (lsN (lsN (lsN ls0)))) ?_
    exact kE _ (someE h).symm trivial
  replace h := ifF (fun q => q hc9) h
  refine z_aload_n dX5_readText_48 rfl ?_
  refine y_getR dX5_readText_49 cl5 sh_4 (by decide) (Nat.le_trans (by decide) hz) 0 rfl rfl (fl_E_12) (ly_4_0 hG) (by decide) ?_
  refine y_getNR (host := "FarewellStones") dX5_readText_52 cl8 sh_5 (by decide) (Nat.le_trans (by decide) hz) 0 rfl rfl (flN_E_44) (ly_5_0 hG) (by decide) ?_
  refine z_aload_n dX5_readText_55 rfl ?_
  refine y_getI dX5_readText_56 cl5 sh_4 (by decide) (Nat.le_trans (by decide) hz) 1 rfl rfl (fl_E_31) ?_
  obtain ⟨hg10, h⟩ := guardE h
  refine y_iald dX5_readText_59 sh_6 (by decide) (Nat.le_trans (by decide) hz) (hN8.1 4 1) hg10 ?_
  refine z_sipush dX5_readText_60 (by decide +kernel) ?_
  refine z_icmp_eq (tgt := 206) dX5_readText_63 (by decide) (hN8.1 6 ((I 4 1)).toNat) (inRd (x := 302) (by decide)) (fun hc11 => ?_) (fun hc11 => ?_)
  · replace h := ifT hc11 h
    refine z_weak (L' := [some (vR g 4), none, none, none]) (lsS (lsN (lsN (lsN ls0)))) ?_
    exact kE _ (someE h).symm trivial
  replace h := ifF hc11 h
  refine z_aload_n dX5_readText_66 rfl ?_
  refine y_getR dX5_readText_67 cl5 sh_4 (by decide) (Nat.le_trans (by decide) hz) 0 rfl rfl (fl_E_12) (ly_4_0 hG) (by decide) ?_
  refine y_getNR (host := "FarewellStones") dX5_readText_70 cl8 sh_5 (by decide) (Nat.le_trans (by decide) hz) 0 rfl rfl (flN_E_44) (ly_5_0 hG) (by decide) ?_
  refine z_aload_n dX5_readText_73 rfl ?_
  refine y_getI dX5_readText_74 cl5 sh_4 (by decide) (Nat.le_trans (by decide) hz) 1 rfl rfl (fl_E_31) ?_
  refine y_iald dX5_readText_77 sh_6 (by decide) (Nat.le_trans (by decide) hz) (hN8.1 4 1) hg10 ?_
  by_cases hc12 : (I 6 ((I 4 1)).toNat) = 256
  · replace h := ifT hc12 h
    refine z_tabIn (tgt := 124) dX5_readText_78 256 hc12 (hN8.1 6 ((I 4 1)).toNat) (by decide) rfl (by decide) ?_
    refine z_aload_n dX5_readText_124 rfl ?_
    refine z_aload_n dX5_readText_125 rfl ?_
    obtain ⟨q13, hq14, h⟩ := bindE h
    refine z_callV (As := [vR g r2]) (rest := []) (s_E_readRiver hz hG hr2 hq14) dX5_readText_126 mw_E_readRiver cl5 sh_4 (by decide) (Nat.le_trans (by decide) hz) ml_E_47 im_E_readRiver se_E_readRiver rfl rfl rfl rfl (Nat.le_refl _) (Nat.le_of_eq hb.symm) (fun hp15 => ?_)
    show Zt _ _ _ _ 129 _ [] (z, q13, J, G)
    refine z_goto (tgt := 200) dX5_readText_129 (by decide) ?_
    refine z_iinc (L' := [some (vR g 4), some (vR g 2), some (vR g r2), some (vI (w32 (x3 + 1)))]) dX5_readText_200 rfl rfl rfl rfl ?_
    refine z_goto (tgt := 34) dX5_readText_203 (by decide) ?_
    exact kS _ (someE h).symm (inR_w32 _)
  replace h := ifF hc12 h
  by_cases hc16 : (I 6 ((I 4 1)).toNat) = 257
  · replace h := ifT hc16 h
    refine z_tabIn (tgt := 132) dX5_readText_78 257 hc16 (hN8.1 6 ((I 4 1)).toNat) (by decide) rfl (by decide) ?_
    refine z_aload_n dX5_readText_132 rfl ?_
    refine z_aload_n dX5_readText_133 rfl ?_
    obtain ⟨q17, hq18, h⟩ := bindE h
    refine z_callV (As := [vR g r2]) (rest := []) (s_E_readDepth hz hG hr2 hq18) dX5_readText_134 mw_E_readDepth cl5 sh_4 (by decide) (Nat.le_trans (by decide) hz) ml_E_51 im_E_readDepth se_E_readDepth rfl rfl rfl rfl (Nat.le_refl _) (Nat.le_of_eq hb.symm) (fun hp19 => ?_)
    show Zt _ _ _ _ 137 _ [] (z, q17, J, G)
    refine z_goto (tgt := 200) dX5_readText_137 (by decide) ?_
    refine z_iinc (L' := [some (vR g 4), some (vR g 2), some (vR g r2), some (vI (w32 (x3 + 1)))]) dX5_readText_200 rfl rfl rfl rfl ?_
    refine z_goto (tgt := 34) dX5_readText_203 (by decide) ?_
    exact kS _ (someE h).symm (inR_w32 _)
  replace h := ifF hc16 h
  by_cases hc20 : (I 6 ((I 4 1)).toNat) = 258
  · replace h := ifT hc20 h
    refine z_tabIn (tgt := 140) dX5_readText_78 258 hc20 (hN8.1 6 ((I 4 1)).toNat) (by decide) rfl (by decide) ?_
    refine z_aload_n dX5_readText_140 rfl ?_
    refine z_aload_n dX5_readText_141 rfl ?_
    obtain ⟨q21, hq22, h⟩ := bindE h
    refine z_callV (As := [vR g r2]) (rest := []) (s_E_readFlow hz hG hr2 hq22) dX5_readText_142 mw_E_readFlow cl5 sh_4 (by decide) (Nat.le_trans (by decide) hz) ml_E_54 im_E_readFlow se_E_readFlow rfl rfl rfl rfl (Nat.le_refl _) (Nat.le_of_eq hb.symm) (fun hp23 => ?_)
    show Zt _ _ _ _ 145 _ [] (z, q21, J, G)
    refine z_goto (tgt := 200) dX5_readText_145 (by decide) ?_
    refine z_iinc (L' := [some (vR g 4), some (vR g 2), some (vR g r2), some (vI (w32 (x3 + 1)))]) dX5_readText_200 rfl rfl rfl rfl ?_
    refine z_goto (tgt := 34) dX5_readText_203 (by decide) ?_
    exact kS _ (someE h).symm (inR_w32 _)
  replace h := ifF hc20 h
  by_cases hc24 : (I 6 ((I 4 1)).toNat) = 259
  · replace h := ifT hc24 h
    refine z_tabIn (tgt := 148) dX5_readText_78 259 hc24 (hN8.1 6 ((I 4 1)).toNat) (by decide) rfl (by decide) ?_
    refine z_aload_n dX5_readText_148 rfl ?_
    refine z_aload_n dX5_readText_149 rfl ?_
    obtain ⟨q25, hq26, h⟩ := bindE h
    refine z_callV (As := [vR g r2]) (rest := []) (s_E_readLeap hz hG hr2 hq26) dX5_readText_150 mw_E_readLeap cl5 sh_4 (by decide) (Nat.le_trans (by decide) hz) ml_E_57 im_E_readLeap se_E_readLeap rfl rfl rfl rfl (Nat.le_refl _) (Nat.le_of_eq hb.symm) (fun hp27 => ?_)
    show Zt _ _ _ _ 153 _ [] (z, q25, J, G)
    refine z_goto (tgt := 200) dX5_readText_153 (by decide) ?_
    refine z_iinc (L' := [some (vR g 4), some (vR g 2), some (vR g r2), some (vI (w32 (x3 + 1)))]) dX5_readText_200 rfl rfl rfl rfl ?_
    refine z_goto (tgt := 34) dX5_readText_203 (by decide) ?_
    exact kS _ (someE h).symm (inR_w32 _)
  replace h := ifF hc24 h
  by_cases hc28 : (I 6 ((I 4 1)).toNat) = 260
  · replace h := ifT hc28 h
    refine z_tabIn (tgt := 156) dX5_readText_78 260 hc28 (hN8.1 6 ((I 4 1)).toNat) (by decide) rfl (by decide) ?_
    refine z_aload_n dX5_readText_156 rfl ?_
    refine z_aload_n dX5_readText_157 rfl ?_
    refine z_aload_n dX5_readText_158 rfl ?_
    obtain ⟨q29, hq30, h⟩ := bindE h
    refine z_callV (As := [vR g 2, vR g r2]) (rest := []) (s_E_readLeaver hz hG hr2 hq30) dX5_readText_159 mw_E_readLeaver cl5 sh_4 (by decide) (Nat.le_trans (by decide) hz) ml_E_60 im_E_readLeaver se_E_readLeaver rfl rfl rfl rfl (Nat.le_refl _) (Nat.le_of_eq hb.symm) (fun hp31 => ?_)
    show Zt _ _ _ _ 162 _ [] (z, q29, J, G)
    refine z_goto (tgt := 200) dX5_readText_162 (by decide) ?_
    refine z_iinc (L' := [some (vR g 4), some (vR g 2), some (vR g r2), some (vI (w32 (x3 + 1)))]) dX5_readText_200 rfl rfl rfl rfl ?_
    refine z_goto (tgt := 34) dX5_readText_203 (by decide) ?_
    exact kS _ (someE h).symm (inR_w32 _)
  replace h := ifF hc28 h
  by_cases hc32 : (I 6 ((I 4 1)).toNat) = 261
  · replace h := ifT hc32 h
    refine z_tabIn (tgt := 165) dX5_readText_78 261 hc32 (hN8.1 6 ((I 4 1)).toNat) (by decide) rfl (by decide) ?_
    refine z_aload_n dX5_readText_165 rfl ?_
    refine z_aload_n dX5_readText_166 rfl ?_
    obtain ⟨q33, hq34, h⟩ := bindE h
    refine z_callV (As := [vR g r2]) (rest := []) (s_E_readFlood hz hG hr2 hq34) dX5_readText_167 mw_E_readFlood cl5 sh_4 (by decide) (Nat.le_trans (by decide) hz) ml_E_64 im_E_readFlood se_E_readFlood rfl rfl rfl rfl (Nat.le_refl _) (Nat.le_of_eq hb.symm) (fun hp35 => ?_)
    show Zt _ _ _ _ 170 _ [] (z, q33, J, G)
    refine z_goto (tgt := 200) dX5_readText_170 (by decide) ?_
    refine z_iinc (L' := [some (vR g 4), some (vR g 2), some (vR g r2), some (vI (w32 (x3 + 1)))]) dX5_readText_200 rfl rfl rfl rfl ?_
    refine z_goto (tgt := 34) dX5_readText_203 (by decide) ?_
    exact kS _ (someE h).symm (inR_w32 _)
  replace h := ifF hc32 h
  by_cases hc36 : (I 6 ((I 4 1)).toNat) = 262
  · replace h := ifT hc36 h
    refine z_tabIn (tgt := 173) dX5_readText_78 262 hc36 (hN8.1 6 ((I 4 1)).toNat) (by decide) rfl (by decide) ?_
    refine z_aload_n dX5_readText_173 rfl ?_
    refine z_aload_n dX5_readText_174 rfl ?_
    refine y_getNR (host := "FarewellStones") dX5_readText_175 cl6 (riv_sh hr2) (riv_pos hr2) (Nat.le_trans (riv_le hr2) hz) 13 rfl rfl (flN_E_67) (riv_g13 hG hr2) (law_pos (riv_is13 hr2)) ?_
    obtain ⟨q37, hq38, h⟩ := bindE h
    refine z_callV (As := [vR g (r2 + 9)]) (rest := []) (s_E_readLaw hz hG (riv_is13 hr2) hq38) dX5_readText_178 mw_E_readLaw cl5 sh_4 (by decide) (Nat.le_trans (by decide) hz) ml_E_71 im_E_readLaw se_E_readLaw rfl rfl rfl rfl (Nat.le_refl _) (Nat.le_of_eq hb.symm) (fun hp39 => ?_)
    show Zt _ _ _ _ 181 _ [] (z, q37, J, G)
    refine z_goto (tgt := 200) dX5_readText_181 (by decide) ?_
    refine z_iinc (L' := [some (vR g 4), some (vR g 2), some (vR g r2), some (vI (w32 (x3 + 1)))]) dX5_readText_200 rfl rfl rfl rfl ?_
    refine z_goto (tgt := 34) dX5_readText_203 (by decide) ?_
    exact kS _ (someE h).symm (inR_w32 _)
  replace h := ifF hc36 h
  by_cases hc40 : (I 6 ((I 4 1)).toNat) = 263
  · replace h := ifT hc40 h
    refine z_tabIn (tgt := 184) dX5_readText_78 263 hc40 (hN8.1 6 ((I 4 1)).toNat) (by decide) rfl (by decide) ?_
    refine z_aload_n dX5_readText_184 rfl ?_
    refine z_aload_n dX5_readText_185 rfl ?_
    refine y_getNR (host := "FarewellStones") dX5_readText_186 cl6 (riv_sh hr2) (riv_pos hr2) (Nat.le_trans (riv_le hr2) hz) 14 rfl rfl (flN_E_75) (riv_g14 hG hr2) (law_pos (riv_is14 hr2)) ?_
    obtain ⟨q41, hq42, h⟩ := bindE h
    refine z_callV (As := [vR g (r2 + 14)]) (rest := []) (s_E_readLaw hz hG (riv_is14 hr2) hq42) dX5_readText_189 mw_E_readLaw cl5 sh_4 (by decide) (Nat.le_trans (by decide) hz) ml_E_71 im_E_readLaw se_E_readLaw rfl rfl rfl rfl (Nat.le_refl _) (Nat.le_of_eq hb.symm) (fun hp43 => ?_)
    show Zt _ _ _ _ 192 _ [] (z, q41, J, G)
    refine z_goto (tgt := 200) dX5_readText_192 (by decide) ?_
    refine z_iinc (L' := [some (vR g 4), some (vR g 2), some (vR g r2), some (vI (w32 (x3 + 1)))]) dX5_readText_200 rfl rfl rfl rfl ?_
    refine z_goto (tgt := 34) dX5_readText_203 (by decide) ?_
    exact kS _ (someE h).symm (inR_w32 _)
  replace h := ifF hc40 h
  refine z_tabOut (tgt := 195) dX5_readText_78 (hN8.1 6 ((I 4 1)).toNat) (by omega) (by decide) ?_
  refine z_aload_n dX5_readText_195 rfl ?_
  refine z_iconst dX5_readText_196 ?_
  obtain ⟨q44, hq45, h⟩ := bindE h
  refine z_callV (As := [vI 1]) (rest := []) (s_E_fail hz hG (inRd (x := 1) (by decide)) hq45) dX5_readText_197 mw_E_fail cl5 sh_4 (by decide) (Nat.le_trans (by decide) hz) ml_E_78 im_E_fail se_E_fail rfl rfl rfl rfl (Nat.le_refl _) (Nat.le_of_eq hb.symm) (fun hp46 => ?_)
  show Zt _ _ _ _ 200 _ [] (z, q44, J, G)
  refine z_iinc (L' := [some (vR g 4), some (vR g 2), some (vR g r2), some (vI (w32 (x3 + 1)))]) dX5_readText_200 rfl rfl rfl rfl ?_
  refine z_goto (tgt := 34) dX5_readText_203 (by decide) ?_
  exact kS _ (someE h).symm (inR_w32 _)
theorem l_E_readText_L34 {l : Launch} {g : GX} {φ : CX} {z : Nat} {G : Nat → Nat → Nat} {F : Nat} (hb : cb φ = z) (hz : 295 ≤ z) (hG : lyX G) {r2 : Nat} {J : Nat → Nat → Int} (hr2 : isRiv r2) (n : Nat) (s : Int × MI) (e : MI) (h : iter (fun s : Int × MI => f_E_readText_L34 F r2 s.1 s.2) n s = some e) (hs : inR s.1) (k : ((True) → Zt l g φ mu_E_readText 206 [some (vR g 4), none, none, none] [] (z, e, J, G))) : Zt l g φ mu_E_readText 34 [some (vR g 4), some (vR g 2), some (vR g r2), some (vI s.1)] [] (z, s.2, J, G) := by
  refine iter_ind (Z := fun s : Int × MI => Zt l g φ mu_E_readText 34 [some (vR g 4), some (vR g 2), some (vR g r2), some (vI s.1)] [] (z, s.2, J, G)) (ZE := fun e : MI => ((True) → Zt l g φ mu_E_readText 206 [some (vR g 4), none, none, none] [] (z, e, J, G))) (Rg := fun s : Int × MI => inR s.1) ?_ n s e h hs k
  intro s r hr hst kE kS
  exact t_E_readText_L34 hb hz hG hr2 hr hst kE kS
set_option maxHeartbeats 1000000 in
theorem s_E_readText {l : Launch} {g : GX} {z : Nat} {G : Nat → Nat → Nat} {F : Nat} (hz : 295 ≤ z) (hG : lyX G) {r2 : Nat} {I J : Nat → Nat → Int} (hr2 : isRiv r2) {res : Int × MI} (h : f_E_readText F r2 I = some res) : Spec l g 61 yX5_readText cX5_readText 4 (some .int) [vR g 4, vR g 2, vR g r2] (z, I, J, G) (some (vI res.1)) (inR res.1) (z, res.2, J, G) := by
  refine spec_of (μ := mu_E_readText) (k := 1) (L0 := [some (vR g 4), some (vR g 2), some (vR g r2), none]) rfl mw_E_readText rfl rfl (Nat.le_refl _) (fun φ hb hE => ?_)
  refine z_aload_n dX5_readText_0 rfl ?_
  refine y_getR dX5_readText_1 cl5 sh_4 (by decide) (Nat.le_trans (by decide) hz) 0 rfl rfl (fl_E_12) (ly_4_0 hG) (by decide) ?_
  refine z_aload_n dX5_readText_4 rfl ?_
  obtain ⟨q1, hq2, h⟩ := bindE h
  refine z_callV (As := [vR g 2]) (rest := []) (s_K_scan hz hG  hq2) dX5_readText_5 mw_K_scan cl8 sh_5 (by decide) (Nat.le_trans (by decide) hz) ml_E_22 im_K_scan se_K_scan rfl rfl rfl rfl (Nat.le_refl _) (Nat.le_of_eq hb.symm) (fun hp3 => ?_)
  show Zt _ _ _ _ 8 _ [] (z, q1, J, G)
  refine z_aload_n dX5_readText_8 rfl ?_
  obtain ⟨q4, hq5, h⟩ := bindE h
  refine z_callV (As := []) (rest := []) (s_R_clear hz hG hr2 hq5) dX5_readText_9 mw_R_clear cl6 (riv_sh hr2) (riv_pos hr2) (Nat.le_trans (riv_le hr2) hz) ml_E_26 im_R_clear se_R_clear rfl rfl rfl rfl (Nat.le_refl _) (Nat.le_of_eq hb.symm) (fun hp6 => ?_)
  show Zt _ _ _ _ 12 _ [] (z, q4, J, G)
  refine z_aload_n dX5_readText_12 rfl ?_
  refine z_iconst dX5_readText_13 ?_
  refine y_putI dX5_readText_14 cl5 sh_4 (by decide) (Nat.le_trans (by decide) hz) 1 rfl rfl rfl (fl_E_31) rfl rfl (inRd (x := 0) (by decide)) ?_
  refine z_aload_n dX5_readText_17 rfl ?_
  refine z_iconst dX5_readText_18 ?_
  refine y_putI dX5_readText_19 cl5 sh_4 (by decide) (Nat.le_trans (by decide) hz) 2 rfl rfl rfl (fl_E_35) rfl rfl (inRd (x := 0) (by decide)) ?_
  refine z_aload_n dX5_readText_22 rfl ?_
  refine z_iconst dX5_readText_23 ?_
  refine y_putI dX5_readText_24 cl5 sh_4 (by decide) (Nat.le_trans (by decide) hz) 4 rfl rfl rfl (fl_E_38) rfl rfl (inRd (x := 0) (by decide)) ?_
  refine z_aload_n dX5_readText_27 rfl ?_
  refine z_iconst dX5_readText_28 ?_
  refine y_putI dX5_readText_29 cl5 sh_4 (by decide) (Nat.le_trans (by decide) hz) 6 rfl rfl rfl (fl_E_41) rfl rfl (inRd (x := 0) (by decide)) ?_
  refine z_iconst dX5_readText_32 ?_
  refine z_istore_n (L' := [some (vR g 4), some (vR g 2), some (vR g r2), some (vI 0)]) dX5_readText_33 rfl rfl rfl ?_
  obtain ⟨e47, h48, h⟩ := bindE h
  refine l_E_readText_L34 hb hz hG hr2 _ _ _ h48 (inRd (x := 0) (by decide)) ?_
  refine fun h49 => ?_
  refine z_aload_n dX5_readText_206 rfl ?_
  refine z_nm (fun hN50 => ?_)
  refine y_getI dX5_readText_207 cl5 sh_4 (by decide) (Nat.le_trans (by decide) hz) 2 rfl rfl (fl_E_35) ?_
  refine z_if_eq (tgt := 220) dX5_readText_210 (by decide) (hN50.1 4 2) (fun hc51 => ?_) (fun hc51 => ?_)
  · replace h := ifT hc51 h
    refine z_aload_n dX5_readText_220 rfl ?_
    refine y_getI dX5_readText_221 cl5 sh_4 (by decide) (Nat.le_trans (by decide) hz) 4 rfl rfl (fl_E_38) ?_
    obtain rfl := someE h
    exact z_iret dX5_readText_224 hE (hN50.1 4 4) rfl
  replace h := ifF hc51 h
  refine z_aload_n dX5_readText_213 rfl ?_
  refine y_getI dX5_readText_214 cl5 sh_4 (by decide) (Nat.le_trans (by decide) hz) 2 rfl rfl (fl_E_35) ?_
  refine z_goto (tgt := 224) dX5_readText_217 (by decide) ?_
  obtain rfl := someE h
  exact z_iret dX5_readText_224 hE (hN50.1 4 2) rfl
set_option maxHeartbeats 1000000 in
theorem s_E_faultPlace {l : Launch} {g : GX} {z : Nat} {G : Nat → Nat → Nat} {F : Nat} (hz : 295 ≤ z) (hG : lyX G) {I J : Nat → Nat → Int} {res : Int} (h : f_E_faultPlace F I = some res) : Spec l g 0 yX5_faultPlace cX5_faultPlace 1 (some .int) [vR g 4] (z, I, J, G) (some (vI res)) (inR res) (z, I, J, G) := by
  refine spec_of (μ := mu_E_faultPlace) (k := 0) (L0 := [some (vR g 4)]) rfl mw_E_faultPlace rfl rfl (Nat.le_refl _) (fun φ hb hE => ?_)
  refine z_aload_n dX5_faultPlace_0 rfl ?_
  refine z_nm (fun hN1 => ?_)
  refine y_getI dX5_faultPlace_1 cl5 sh_4 (by decide) (Nat.le_trans (by decide) hz) 2 rfl rfl (fl_E_35) ?_
  refine z_if_eq (tgt := 14) dX5_faultPlace_4 (by decide) (hN1.1 4 2) (fun hc2 => ?_) (fun hc2 => ?_)
  · replace h := ifT hc2 h
    refine z_aload_n dX5_faultPlace_14 rfl ?_
    refine y_getI dX5_faultPlace_15 cl5 sh_4 (by decide) (Nat.le_trans (by decide) hz) 5 rfl rfl (fl_E_85) ?_
    obtain rfl := someE h
    exact z_iret dX5_faultPlace_18 hE (hN1.1 4 5) rfl
  replace h := ifF hc2 h
  refine z_aload_n dX5_faultPlace_7 rfl ?_
  refine y_getI dX5_faultPlace_8 cl5 sh_4 (by decide) (Nat.le_trans (by decide) hz) 3 rfl rfl (fl_E_82) ?_
  refine z_goto (tgt := 18) dX5_faultPlace_11 (by decide) ?_
  obtain rfl := someE h
  exact z_iret dX5_faultPlace_18 hE (hN1.1 4 3) rfl
set_option maxHeartbeats 1000000 in
theorem t_Y_firstWithCost_L3 {l : Launch} {g : GX} {φ : CX} {z : Nat} {G : Nat → Nat → Nat} {F : Nat} (hb : cb φ = z) (hz : 295 ≤ z) (hG : lyX G) {r1 : Nat} {x2 : Int} {x3 : Int} {x4 : Int} {I J : Nat → Nat → Int} (hr1 : isRiv r1) (hx2 : inR x2) (hx3 : inR x3) (hx4 : inR x4) {res : ((Int) ⊕ ((Int) ⊕ (Unit))) ⊕ (Int)} (h : f_Y_firstWithCost_L3 F r1 x2 x3 x4 I = some res) (kE : ∀ e : (Int) ⊕ ((Int) ⊕ (Unit)), res = .inl e → ((fun w : (Int) ⊕ ((Int) ⊕ (Unit)) => (match w with | .inl e0 => ((inR e0) → Zt l g φ mu_Y_firstWithCost 48 [none, none, none, none, some (vI e0)] [] (z, I, J, G)) | .inr o0 => (match o0 with | .inl e1 => ((inR e1) → Zt l g φ mu_Y_firstWithCost 61 [none, none, none, none, some (vI e1)] [] (z, I, J, G)) | .inr o1 => ((True) → Zt l g φ mu_Y_firstWithCost 70 [none, none, none, none, none] [] (z, I, J, G))))) e)) (kS : ∀ s : Int, res = .inr s → (inR s) → Zt l g φ mu_Y_firstWithCost 3 [some (vR g 244), some (vR g r1), some (vI x2), some (vI x3), some (vI s)] [] (z, I, J, G)) : Zt l g φ mu_Y_firstWithCost 3 [some (vR g 244), some (vR g r1), some (vI x2), some (vI x3), some (vI x4)] [] (z, I, J, G) := by
  refine z_iload dX9_firstWithCost_3 rfl ?_
  refine z_bipush dX9_firstWithCost_5 (by decide +kernel) ?_
  refine z_icmp_ge (tgt := 70) dX9_firstWithCost_7 (by decide) hx4 (inRd (x := 96) (by decide)) (fun hc1 => ?_) (fun hc1 => ?_)
  · replace h := ifT hc1 h
    refine z_weak (L' := [none, none, none, none, none]) (lsN (lsN (lsN (lsN (lsN ls0))))) ?_
    exact kE _ (someE h).symm trivial
  replace h := ifF hc1 h
  refine z_aload_n dX9_firstWithCost_10 rfl ?_
  refine y_getR dX9_firstWithCost_11 cl9 sh_244 (by decide) (Nat.le_trans (by decide) hz) 0 rfl rfl (fl_Y_9) (ly_244_0 hG) (by decide) ?_
  refine z_iload dX9_firstWithCost_14 rfl ?_
  obtain ⟨hg2, h⟩ := guardE h
  refine z_nm (fun hN3 => ?_)
  refine y_iald dX9_firstWithCost_16 sh_245 (by decide) (Nat.le_trans (by decide) hz) hx4 hg2 ?_
  refine z_if_lt (tgt := 64) dX9_firstWithCost_17 (by decide) (hN3.1 245 (x4).toNat) (fun hc4 => ?_) (fun hc4 => ?_)
  · replace h := ifT hc4 h
    refine z_iinc (L' := [some (vR g 244), some (vR g r1), some (vI x2), some (vI x3), some (vI (w32 (x4 + 1)))]) dX9_firstWithCost_64 rfl rfl rfl rfl ?_
    refine z_goto (tgt := 3) dX9_firstWithCost_67 (by decide) ?_
    exact kS _ (someE h).symm (inR_w32 _)
  replace h := ifF hc4 h
  refine z_aload_n dX9_firstWithCost_20 rfl ?_
  refine y_getR dX9_firstWithCost_21 cl9 sh_244 (by decide) (Nat.le_trans (by decide) hz) 3 rfl rfl (fl_Y_18) (ly_244_3 hG) (by decide) ?_
  refine z_iload dX9_firstWithCost_24 rfl ?_
  refine y_iald dX9_firstWithCost_26 sh_247 (by decide) (Nat.le_trans (by decide) hz) hx4 hg2 ?_
  refine z_iload_n dX9_firstWithCost_27 rfl ?_
  refine z_icmp_eq (tgt := 34) dX9_firstWithCost_28 (by decide) (hN3.1 247 (x4).toNat) hx3 (fun hc5 => ?_) (fun hc5 => ?_)
  · replace h := ifT hc5 h
    refine z_iload_n dX9_firstWithCost_34 rfl ?_
    refine z_iconst dX9_firstWithCost_35 ?_
    refine z_icmp_ne (tgt := 51) dX9_firstWithCost_36 (by decide) hx2 (inRd (x := (-1)) (by decide)) (fun hc6 => ?_) (fun hc6 => ?_)
    · replace h := ifT hc6 h
      refine z_aload_n dX9_firstWithCost_51 rfl ?_
      refine z_iload_n dX9_firstWithCost_52 rfl ?_
      refine z_iload dX9_firstWithCost_53 rfl ?_
      obtain ⟨q7, hq8, h⟩ := bindE h
      refine z_callV (As := [vI x2, vI x4]) (rest := []) (s_R_isWithinLeap hz hG hr1 hx2 hx4 hq8) dX9_firstWithCost_55 mw_R_isWithinLeap cl6 (riv_sh hr1) (riv_pos hr1) (Nat.le_trans (riv_le hr1) hz) ml_Y_74 im_R_isWithinLeap se_R_isWithinLeap rfl rfl rfl rfl (Nat.le_refl _) (Nat.le_of_eq hb.symm) (fun hp9 => ?_)
      show Zt _ _ _ _ 58 _ [vI q7] (z, I, J, G)
      refine z_if_eq (tgt := 64) dX9_firstWithCost_58 (by decide) (inR_bool hp9) (fun hc10 => ?_) (fun hc10 => ?_)
      · replace h := ifT hc10 h
        refine z_iinc (L' := [some (vR g 244), some (vR g r1), some (vI x2), some (vI x3), some (vI (w32 (x4 + 1)))]) dX9_firstWithCost_64 rfl rfl rfl rfl ?_
        refine z_goto (tgt := 3) dX9_firstWithCost_67 (by decide) ?_
        exact kS _ (someE h).symm (inR_w32 _)
      replace h := ifF hc10 h
      refine z_weak (L' := [none, none, none, none, some (vI x4)]) (lsN (lsN (lsN (lsN (lsS ls0))))) ?_
      exact kE _ (someE h).symm hx4
    replace h := ifF (fun q => q hc6) h
    refine z_aload_n dX9_firstWithCost_39 rfl ?_
    refine z_iload dX9_firstWithCost_40 rfl ?_
    obtain ⟨q11, hq12, h⟩ := bindE h
    refine z_callV (As := [vI x4]) (rest := []) (s_R_isNearEnough hz hG hr1 hx4 hq12) dX9_firstWithCost_42 mw_R_isNearEnough cl6 (riv_sh hr1) (riv_pos hr1) (Nat.le_trans (riv_le hr1) hz) ml_Y_43 im_R_isNearEnough se_R_isNearEnough rfl rfl rfl rfl (Nat.le_refl _) (Nat.le_of_eq hb.symm) (fun hp13 => ?_)
    show Zt _ _ _ _ 45 _ [vI q11] (z, I, J, G)
    refine z_if_eq (tgt := 64) dX9_firstWithCost_45 (by decide) (inR_bool hp13) (fun hc14 => ?_) (fun hc14 => ?_)
    · replace h := ifT hc14 h
      refine z_iinc (L' := [some (vR g 244), some (vR g r1), some (vI x2), some (vI x3), some (vI (w32 (x4 + 1)))]) dX9_firstWithCost_64 rfl rfl rfl rfl ?_
      refine z_goto (tgt := 3) dX9_firstWithCost_67 (by decide) ?_
      exact kS _ (someE h).symm (inR_w32 _)
    replace h := ifF hc14 h
    refine z_weak (L' := [none, none, none, none, some (vI x4)]) (lsN (lsN (lsN (lsN (lsS ls0))))) ?_
    exact kE _ (someE h).symm hx4
  replace h := ifF hc5 h
  refine z_goto (tgt := 64) dX9_firstWithCost_31 (by decide) ?_
  refine z_iinc (L' := [some (vR g 244), some (vR g r1), some (vI x2), some (vI x3), some (vI (w32 (x4 + 1)))]) dX9_firstWithCost_64 rfl rfl rfl rfl ?_
  refine z_goto (tgt := 3) dX9_firstWithCost_67 (by decide) ?_
  exact kS _ (someE h).symm (inR_w32 _)
theorem l_Y_firstWithCost_L3 {l : Launch} {g : GX} {φ : CX} {z : Nat} {G : Nat → Nat → Nat} {F : Nat} (hb : cb φ = z) (hz : 295 ≤ z) (hG : lyX G) {r1 : Nat} {x2 : Int} {x3 : Int} {I : Nat → Nat → Int} {J : Nat → Nat → Int} (hr1 : isRiv r1) (hx2 : inR x2) (hx3 : inR x3) (n : Nat) (s : Int) (e : (Int) ⊕ ((Int) ⊕ (Unit))) (h : iter (fun s : Int => f_Y_firstWithCost_L3 F r1 x2 x3 s I) n s = some e) (hs : inR s) (k : ((fun w : (Int) ⊕ ((Int) ⊕ (Unit)) => (match w with | .inl e0 => ((inR e0) → Zt l g φ mu_Y_firstWithCost 48 [none, none, none, none, some (vI e0)] [] (z, I, J, G)) | .inr o0 => (match o0 with | .inl e1 => ((inR e1) → Zt l g φ mu_Y_firstWithCost 61 [none, none, none, none, some (vI e1)] [] (z, I, J, G)) | .inr o1 => ((True) → Zt l g φ mu_Y_firstWithCost 70 [none, none, none, none, none] [] (z, I, J, G))))) e)) : Zt l g φ mu_Y_firstWithCost 3 [some (vR g 244), some (vR g r1), some (vI x2), some (vI x3), some (vI s)] [] (z, I, J, G) := by
  refine iter_ind (Z := fun s : Int => Zt l g φ mu_Y_firstWithCost 3 [some (vR g 244), some (vR g r1), some (vI x2), some (vI x3), some (vI s)] [] (z, I, J, G)) (ZE := fun e : (Int) ⊕ ((Int) ⊕ (Unit)) => ((fun w : (Int) ⊕ ((Int) ⊕ (Unit)) => (match w with | .inl e0 => ((inR e0) → Zt l g φ mu_Y_firstWithCost 48 [none, none, none, none, some (vI e0)] [] (z, I, J, G)) | .inr o0 => (match o0 with | .inl e1 => ((inR e1) → Zt l g φ mu_Y_firstWithCost 61 [none, none, none, none, some (vI e1)] [] (z, I, J, G)) | .inr o1 => ((True) → Zt l g φ mu_Y_firstWithCost 70 [none, none, none, none, none] [] (z, I, J, G))))) e)) (Rg := fun s : Int => inR s) ?_ n s e h hs k
  intro s r hr hst kE kS
  exact t_Y_firstWithCost_L3 hb hz hG hr1 hx2 hx3 hr hst kE kS
set_option maxHeartbeats 1000000 in
theorem s_Y_firstWithCost {l : Launch} {g : GX} {z : Nat} {G : Nat → Nat → Nat} {F : Nat} (hz : 295 ≤ z) (hG : lyX G) {r1 : Nat} {x2 : Int} {x3 : Int} {I J : Nat → Nat → Int} (hr1 : isRiv r1) (hx2 : inR x2) (hx3 : inR x3) {res : Int} (h : f_Y_firstWithCost F r1 x2 x3 I = some res) : Spec l g 15 yX9_firstWithCost cX9_firstWithCost 5 (some .int) [vR g 244, vR g r1, vI x2, vI x3] (z, I, J, G) (some (vI res)) (inR res) (z, I, J, G) := by
  refine spec_of (μ := mu_Y_firstWithCost) (k := 1) (L0 := [some (vR g 244), some (vR g r1), some (vI x2), some (vI x3), none]) rfl mw_Y_firstWithCost rfl rfl (Nat.le_refl _) (fun φ hb hE => ?_)
  refine z_iconst dX9_firstWithCost_0 ?_
  refine z_istore (L' := [some (vR g 244), some (vR g r1), some (vI x2), some (vI x3), some (vI 0)]) dX9_firstWithCost_1 rfl rfl rfl ?_
  obtain ⟨e15, h16, h⟩ := bindE h
  rcases e15 with e17 | o18
  · refine l_Y_firstWithCost_L3 hb hz hG hr1 hx2 hx3 _ _ _ h16 (inRd (x := 0) (by decide)) ?_
    refine fun h19 => ?_
    refine z_goto (tgt := 61) dX9_firstWithCost_48 (by decide) ?_
    refine z_iload dX9_firstWithCost_61 rfl ?_
    obtain rfl := someE h
    exact z_iret dX9_firstWithCost_63 hE h19 rfl
  rcases o18 with e20 | o21
  · refine l_Y_firstWithCost_L3 hb hz hG hr1 hx2 hx3 _ _ _ h16 (inRd (x := 0) (by decide)) ?_
    refine fun h22 => ?_
    refine z_iload dX9_firstWithCost_61 rfl ?_
    obtain rfl := someE h
    exact z_iret dX9_firstWithCost_63 hE h22 rfl
  refine l_Y_firstWithCost_L3 hb hz hG hr1 hx2 hx3 _ _ _ h16 (inRd (x := 0) (by decide)) ?_
  refine fun h23 => ?_
  refine z_iconst dX9_firstWithCost_70 ?_
  obtain rfl := someE h
  exact z_iret dX9_firstWithCost_71 hE (inRd (x := (-1)) (by decide)) rfl
set_option maxHeartbeats 1000000 in
theorem t_Y_drawLine_L9 {l : Launch} {g : GX} {φ : CX} {z : Nat} {G : Nat → Nat → Nat} {F : Nat} (hb : cb φ = z) (hz : 295 ≤ z) (hG : lyX G) {r1 : Nat} {x3 : Int} {x4 : Int} {x5 : Int} {x6 : Int} {x7 : Int} {I J : Nat → Nat → Int} (hr1 : isRiv r1) (hx3 : inR x3) (hx4 : inR x4) (hx5 : inR x5) (hx6 : inR x6) (hx7 : inR x7) {res : ((MI) ⊕ (MI)) ⊕ (Int × Int × Int × MI)} (h : f_Y_drawLine_L9 F r1 x3 x4 x5 x6 x7 I = some res) (kE : ∀ e : (MI) ⊕ (MI), res = .inl e → ((fun w : (MI) ⊕ (MI) => (match w with | .inl e0 => ((True) → Zt l g φ mu_Y_drawLine 43 [none, none, none, none, none, none, none, none, none] [] (z, e0, J, G)) | .inr o0 => ((True) → Zt l g φ mu_Y_drawLine 94 [none, none, none, none, none, none, none, none, none] [] (z, o0, J, G)))) e)) (kS : ∀ s : Int × Int × Int × MI, res = .inr s → (inR s.1 ∧ inR s.2.1 ∧ inR s.2.2.1) → Zt l g φ mu_Y_drawLine 9 [some (vR g 244), some (vR g r1), none, some (vI x3), some (vI x4), some (vI s.1), some (vI s.2.1), some (vI s.2.2.1), none] [] (z, s.2.2.2, J, G)) : Zt l g φ mu_Y_drawLine 9 [some (vR g 244), some (vR g r1), none, some (vI x3), some (vI x4), some (vI x5), some (vI x6), some (vI x7), none] [] (z, I, J, G) := by
  refine z_iload dX9_drawLine_9 rfl ?_
  refine z_bipush dX9_drawLine_11 (by decide +kernel) ?_
  refine z_icmp_ge (tgt := 94) dX9_drawLine_13 (by decide) hx7 (inRd (x := 96) (by decide)) (fun hc1 => ?_) (fun hc1 => ?_)
  · replace h := ifT hc1 h
    refine z_weak (L' := [none, none, none, none, none, none, none, none, none]) (lsN (lsN (lsN (lsN (lsN (lsN (lsN (lsN (lsN ls0))))))))) ?_
    exact kE _ (someE h).symm trivial
  replace h := ifF hc1 h
  refine z_iload dX9_drawLine_16 rfl ?_
  refine z_iload dX9_drawLine_18 rfl ?_
  refine z_icmp_le (tgt := 94) dX9_drawLine_20 (by decide) hx6 hx4 (fun hc2 => ?_) (fun hc2 => ?_)
  · replace h := ifT hc2 h
    refine z_weak (L' := [none, none, none, none, none, none, none, none, none]) (lsN (lsN (lsN (lsN (lsN (lsN (lsN (lsN (lsN ls0))))))))) ?_
    exact kE _ (someE h).symm trivial
  replace h := ifF hc2 h
  refine z_aload_n dX9_drawLine_23 rfl ?_
  refine z_aload_n dX9_drawLine_24 rfl ?_
  refine z_iload dX9_drawLine_25 rfl ?_
  refine z_iload dX9_drawLine_27 rfl ?_
  refine z_iload dX9_drawLine_29 rfl ?_
  refine z_isub dX9_drawLine_31 ?_
  obtain ⟨q3, hq4, h⟩ := bindE h
  refine z_callV (As := [vR g r1, vI x5, vI (w32 (x6 - x4))]) (rest := []) (s_Y_firstWithCost hz hG hr1 hx5 (inR_w32 _) hq4) dX9_drawLine_32 mw_Y_firstWithCost cl9 sh_244 (by decide) (Nat.le_trans (by decide) hz) ml_Y_70 im_Y_firstWithCost se_Y_firstWithCost rfl rfl rfl rfl (Nat.le_refl _) (Nat.le_of_eq hb.symm) (fun hp5 => ?_)
  show Zt _ _ _ _ 35 _ [vI q3] (z, I, J, G)
  refine z_istore (L' := [some (vR g 244), some (vR g r1), none, some (vI x3), some (vI x4), some (vI x5), some (vI x6), some (vI x7), some (vI q3)]) dX9_drawLine_35 rfl rfl rfl ?_
  refine z_iload dX9_drawLine_37 rfl ?_
  refine z_iconst dX9_drawLine_39 ?_
  refine z_icmp_ne (tgt := 44) dX9_drawLine_40 (by decide) hp5 (inRd (x := (-1)) (by decide)) (fun hc6 => ?_) (fun hc6 => ?_)
  · replace h := ifT hc6 h
    refine z_aload_n dX9_drawLine_44 rfl ?_
    refine y_getR dX9_drawLine_45 cl9 sh_244 (by decide) (Nat.le_trans (by decide) hz) 1 rfl rfl (fl_Y_15) (ly_244_1 hG) (by decide) ?_
    refine z_aload_n dX9_drawLine_48 rfl ?_
    refine z_nm (fun hN7 => ?_)
    refine y_getI dX9_drawLine_49 cl9 sh_244 (by decide) (Nat.le_trans (by decide) hz) 2 rfl rfl (fl_Y_28) ?_
    refine z_iload dX9_drawLine_52 rfl ?_
    obtain ⟨hg8, h⟩ := guardE h
    refine y_iast dX9_drawLine_54 sh_246 (by decide) (Nat.le_trans (by decide) hz) (hN7.1 244 2) hg8 hp5 ?_
    refine z_aload_n dX9_drawLine_55 rfl ?_
    refine z_dup dX9_drawLine_56 rfl ?_
    refine z_nm (fun hN9 => ?_)
    refine y_getI dX9_drawLine_57 cl9 sh_244 (by decide) (Nat.le_trans (by decide) hz) 2 rfl rfl (fl_Y_28) ?_
    refine z_iconst dX9_drawLine_60 ?_
    refine z_iadd dX9_drawLine_61 ?_
    refine y_putI dX9_drawLine_62 cl9 sh_244 (by decide) (Nat.le_trans (by decide) hz) 2 rfl rfl rfl (fl_Y_28) rfl rfl (inR_w32 _) ?_
    refine z_aload_n dX9_drawLine_65 rfl ?_
    refine y_getR dX9_drawLine_66 cl9 sh_244 (by decide) (Nat.le_trans (by decide) hz) 3 rfl rfl (fl_Y_18) (ly_244_3 hG) (by decide) ?_
    refine z_iload dX9_drawLine_69 rfl ?_
    obtain ⟨hg10, h⟩ := guardE h
    refine z_nm (fun hN11 => ?_)
    refine y_iald dX9_drawLine_71 sh_247 (by decide) (Nat.le_trans (by decide) hz) hp5 hg10 ?_
    refine z_iload_n dX9_drawLine_72 rfl ?_
    refine z_aload_n dX9_drawLine_73 rfl ?_
    refine y_getR dX9_drawLine_74 cl9 sh_244 (by decide) (Nat.le_trans (by decide) hz) 0 rfl rfl (fl_Y_9) (ly_244_0 hG) (by decide) ?_
    refine z_iload dX9_drawLine_77 rfl ?_
    refine y_iald dX9_drawLine_79 sh_245 (by decide) (Nat.le_trans (by decide) hz) hp5 hg10 ?_
    refine z_imul dX9_drawLine_80 ?_
    refine z_isub dX9_drawLine_81 ?_
    refine z_istore (L' := [some (vR g 244), some (vR g r1), none, some (vI x3), some (vI x4), some (vI x5), some (vI (w32 (((up2 (up2 I 246 ((I 244 2)).toNat q3) 244 2 (w32 (((up2 I 246 ((I 244 2)).toNat q3) 244 2) + 1))) 247 (q3).toNat) - (w32 (x3 * ((up2 (up2 I 246 ((I 244 2)).toNat q3) 244 2 (w32 (((up2 I 246 ((I 244 2)).toNat q3) 244 2) + 1))) 245 (q3).toNat)))))), some (vI x7), some (vI q3)]) dX9_drawLine_82 rfl rfl rfl ?_
    refine z_iload dX9_drawLine_84 rfl ?_
    refine z_istore (L' := [some (vR g 244), some (vR g r1), none, some (vI x3), some (vI x4), some (vI q3), some (vI (w32 (((up2 (up2 I 246 ((I 244 2)).toNat q3) 244 2 (w32 (((up2 I 246 ((I 244 2)).toNat q3) 244 2) + 1))) 247 (q3).toNat) - (w32 (x3 * ((up2 (up2 I 246 ((I 244 2)).toNat q3) 244 2 (w32 (((up2 I 246 ((I 244 2)).toNat q3) 244 2) + 1))) 245 (q3).toNat)))))), some (vI x7), some (vI q3)]) dX9_drawLine_86 rfl rfl rfl ?_
    refine z_iinc (L' := [some (vR g 244), some (vR g r1), none, some (vI x3), some (vI x4), some (vI q3), some (vI (w32 (((up2 (up2 I 246 ((I 244 2)).toNat q3) 244 2 (w32 (((up2 I 246 ((I 244 2)).toNat q3) 244 2) + 1))) 247 (q3).toNat) - (w32 (x3 * ((up2 (up2 I 246 ((I 244 2)).toNat q3) 244 2 (w32 (((up2 I 246 ((I 244 2)).toNat q3) 244 2) + 1))) 245 (q3).toNat)))))), some (vI (w32 (x7 + 1))), some (vI q3)]) dX9_drawLine_88 rfl rfl rfl rfl ?_
    refine z_goto (tgt := 9) dX9_drawLine_91 (by decide) ?_
    refine z_weak (L' := [some (vR g 244), some (vR g r1), none, some (vI x3), some (vI x4), some (vI q3), some (vI (w32 (((up2 (up2 I 246 ((I 244 2)).toNat q3) 244 2 (w32 (((up2 I 246 ((I 244 2)).toNat q3) 244 2) + 1))) 247 (q3).toNat) - (w32 (x3 * ((up2 (up2 I 246 ((I 244 2)).toNat q3) 244 2 (w32 (((up2 I 246 ((I 244 2)).toNat q3) 244 2) + 1))) 245 (q3).toNat)))))), some (vI (w32 (x7 + 1))), none]) (lsS (lsS (lsN (lsS (lsS (lsS (lsS (lsS (lsN ls0))))))))) ?_
    exact kS _ (someE h).symm ⟨hp5, (inR_w32 _), (inR_w32 _)⟩
  replace h := ifF (fun q => q hc6) h
  refine z_weak (L' := [none, none, none, none, none, none, none, none, none]) (lsN (lsN (lsN (lsN (lsN (lsN (lsN (lsN (lsN ls0))))))))) ?_
  exact kE _ (someE h).symm trivial
theorem l_Y_drawLine_L9 {l : Launch} {g : GX} {φ : CX} {z : Nat} {G : Nat → Nat → Nat} {F : Nat} (hb : cb φ = z) (hz : 295 ≤ z) (hG : lyX G) {r1 : Nat} {x3 : Int} {x4 : Int} {J : Nat → Nat → Int} (hr1 : isRiv r1) (hx3 : inR x3) (hx4 : inR x4) (n : Nat) (s : Int × Int × Int × MI) (e : (MI) ⊕ (MI)) (h : iter (fun s : Int × Int × Int × MI => f_Y_drawLine_L9 F r1 x3 x4 s.1 s.2.1 s.2.2.1 s.2.2.2) n s = some e) (hs : inR s.1 ∧ inR s.2.1 ∧ inR s.2.2.1) (k : ((fun w : (MI) ⊕ (MI) => (match w with | .inl e0 => ((True) → Zt l g φ mu_Y_drawLine 43 [none, none, none, none, none, none, none, none, none] [] (z, e0, J, G)) | .inr o0 => ((True) → Zt l g φ mu_Y_drawLine 94 [none, none, none, none, none, none, none, none, none] [] (z, o0, J, G)))) e)) : Zt l g φ mu_Y_drawLine 9 [some (vR g 244), some (vR g r1), none, some (vI x3), some (vI x4), some (vI s.1), some (vI s.2.1), some (vI s.2.2.1), none] [] (z, s.2.2.2, J, G) := by
  refine iter_ind (Z := fun s : Int × Int × Int × MI => Zt l g φ mu_Y_drawLine 9 [some (vR g 244), some (vR g r1), none, some (vI x3), some (vI x4), some (vI s.1), some (vI s.2.1), some (vI s.2.2.1), none] [] (z, s.2.2.2, J, G)) (ZE := fun e : (MI) ⊕ (MI) => ((fun w : (MI) ⊕ (MI) => (match w with | .inl e0 => ((True) → Zt l g φ mu_Y_drawLine 43 [none, none, none, none, none, none, none, none, none] [] (z, e0, J, G)) | .inr o0 => ((True) → Zt l g φ mu_Y_drawLine 94 [none, none, none, none, none, none, none, none, none] [] (z, o0, J, G)))) e)) (Rg := fun s : Int × Int × Int × MI => inR s.1 ∧ inR s.2.1 ∧ inR s.2.2.1) ?_ n s e h hs k
  intro s r hr hst kE kS
  exact t_Y_drawLine_L9 hb hz hG hr1 hx3 hx4 hr.1 hr.2.1 hr.2.2 hst kE kS
set_option maxHeartbeats 1000000 in
theorem s_Y_drawLine {l : Launch} {g : GX} {z : Nat} {G : Nat → Nat → Nat} {F : Nat} (hz : 295 ≤ z) (hG : lyX G) {r1 : Nat} {x2 : Int} {x3 : Int} {x4 : Int} {I J : Nat → Nat → Int} (hr1 : isRiv r1) (hx2 : inR x2) (hx3 : inR x3) (hx4 : inR x4) {res : MI} (h : f_Y_drawLine F r1 x2 x3 x4 I = some res) : Spec l g 16 yX9_drawLine cX9_drawLine 9 none [vR g 244, vR g r1, vI x2, vI x3, vI x4] (z, I, J, G) none True (z, res, J, G) := by
  refine spec_of (μ := mu_Y_drawLine) (k := 4) (L0 := [some (vR g 244), some (vR g r1), some (vI x2), some (vI x3), some (vI x4), none, none, none, none]) rfl mw_Y_drawLine rfl rfl (Nat.le_refl _) (fun φ hb hE => ?_)
  refine z_iconst dX9_drawLine_0 ?_
  refine z_istore (L' := [some (vR g 244), some (vR g r1), some (vI x2), some (vI x3), some (vI x4), some (vI (-1)), none, none, none]) dX9_drawLine_1 rfl rfl rfl ?_
  refine z_iload_n dX9_drawLine_3 rfl ?_
  refine z_istore (L' := [some (vR g 244), some (vR g r1), some (vI x2), some (vI x3), some (vI x4), some (vI (-1)), some (vI x2), none, none]) dX9_drawLine_4 rfl rfl rfl ?_
  refine z_iconst dX9_drawLine_6 ?_
  refine z_istore (L' := [some (vR g 244), some (vR g r1), some (vI x2), some (vI x3), some (vI x4), some (vI (-1)), some (vI x2), some (vI 0), none]) dX9_drawLine_7 rfl rfl rfl ?_
  refine z_weak (L' := [some (vR g 244), some (vR g r1), none, some (vI x3), some (vI x4), some (vI (-1)), some (vI x2), some (vI 0), none]) (lsS (lsS (lsN (lsS (lsS (lsS (lsS (lsS (lsN ls0))))))))) ?_
  obtain ⟨e12, h13, h⟩ := bindE h
  rcases e12 with e14 | o15
  · refine l_Y_drawLine_L9 hb hz hG hr1 hx3 hx4 _ _ _ h13 ⟨(inRd (x := (-1)) (by decide)), hx2, (inRd (x := 0) (by decide))⟩ ?_
    refine fun h16 => ?_
    obtain rfl := someE h
    exact z_vret dX9_drawLine_43 hE trivial rfl
  refine l_Y_drawLine_L9 hb hz hG hr1 hx3 hx4 _ _ _ h13 ⟨(inRd (x := (-1)) (by decide)), hx2, (inRd (x := 0) (by decide))⟩ ?_
  refine fun h17 => ?_
  obtain rfl := someE h
  exact z_vret dX9_drawLine_94 hE trivial rfl
set_option maxHeartbeats 1000000 in
theorem t_Y_cheapest_L7 {l : Launch} {g : GX} {φ : CX} {z : Nat} {G : Nat → Nat → Nat} {F : Nat} (hb : cb φ = z) (hz : 295 ≤ z) (hG : lyX G) {x1 : Int} {x2 : Int} {x3 : Int} {I J : Nat → Nat → Int} (hx1 : inR x1) (hx2 : inR x2) (hx3 : inR x3) {res : (Int) ⊕ (Int × Int × Int)} (h : f_Y_cheapest_L7 F x1 x2 x3 I = some res) (kE : ∀ e : Int, res = .inl e → ((inR e) → Zt l g φ mu_Y_cheapest 50 [none, some (vI e), none, none] [] (z, I, J, G))) (kS : ∀ s : Int × Int × Int, res = .inr s → (inR s.1 ∧ inR s.2.1 ∧ inR s.2.2) → Zt l g φ mu_Y_cheapest 7 [some (vR g 244), some (vI s.1), some (vI s.2.1), some (vI s.2.2)] [] (z, I, J, G)) : Zt l g φ mu_Y_cheapest 7 [some (vR g 244), some (vI x1), some (vI x2), some (vI x3)] [] (z, I, J, G) := by
  refine z_iload_n dX9_cheapest_7 rfl ?_
  refine z_bipush dX9_cheapest_8 (by decide +kernel) ?_
  refine z_icmp_ge (tgt := 50) dX9_cheapest_10 (by decide) hx3 (inRd (x := 96) (by decide)) (fun hc1 => ?_) (fun hc1 => ?_)
  · replace h := ifT hc1 h
    refine z_weak (L' := [none, some (vI x1), none, none]) (lsN (lsS (lsN (lsN ls0)))) ?_
    exact kE _ (someE h).symm hx1
  replace h := ifF hc1 h
  refine z_aload_n dX9_cheapest_13 rfl ?_
  refine y_getR dX9_cheapest_14 cl9 sh_244 (by decide) (Nat.le_trans (by decide) hz) 4 rfl rfl (fl_Y_21) (ly_244_4 hG) (by decide) ?_
  refine z_iload_n dX9_cheapest_17 rfl ?_
  obtain ⟨hg2, h⟩ := guardE h
  refine z_nm (fun hN3 => ?_)
  refine y_zald dX9_cheapest_18 sh_248 (by decide) (Nat.le_trans (by decide) hz) hx3 hg2 ?_
  refine z_if_ne (tgt := 44) dX9_cheapest_19 (by decide) (hN3.1 248 (x3).toNat) (fun hc4 => ?_) (fun hc4 => ?_)
  · replace h := ifT hc4 h
    refine z_iinc (L' := [some (vR g 244), some (vI x1), some (vI x2), some (vI (w32 (x3 + 1)))]) dX9_cheapest_44 rfl rfl rfl rfl ?_
    refine z_goto (tgt := 7) dX9_cheapest_47 (by decide) ?_
    exact kS _ (someE h).symm ⟨hx1, hx2, (inR_w32 _)⟩
  replace h := ifF (fun q => q hc4) h
  refine z_aload_n dX9_cheapest_22 rfl ?_
  refine y_getR dX9_cheapest_23 cl9 sh_244 (by decide) (Nat.le_trans (by decide) hz) 3 rfl rfl (fl_Y_18) (ly_244_3 hG) (by decide) ?_
  refine z_iload_n dX9_cheapest_26 rfl ?_
  refine y_iald dX9_cheapest_27 sh_247 (by decide) (Nat.le_trans (by decide) hz) hx3 hg2 ?_
  refine z_iload_n dX9_cheapest_28 rfl ?_
  refine z_icmp_lt (tgt := 35) dX9_cheapest_29 (by decide) (hN3.1 247 (x3).toNat) hx2 (fun hc5 => ?_) (fun hc5 => ?_)
  · replace h := ifT hc5 h
    refine z_iload_n dX9_cheapest_35 rfl ?_
    refine z_istore_n (L' := [some (vR g 244), some (vI x3), some (vI x2), some (vI x3)]) dX9_cheapest_36 rfl rfl rfl ?_
    refine z_aload_n dX9_cheapest_37 rfl ?_
    refine y_getR dX9_cheapest_38 cl9 sh_244 (by decide) (Nat.le_trans (by decide) hz) 3 rfl rfl (fl_Y_18) (ly_244_3 hG) (by decide) ?_
    refine z_iload_n dX9_cheapest_41 rfl ?_
    refine y_iald dX9_cheapest_42 sh_247 (by decide) (Nat.le_trans (by decide) hz) hx3 hg2 ?_
    refine z_istore_n (L' := [some (vR g 244), some (vI x3), some (vI (I 247 (x3).toNat)), some (vI x3)]) dX9_cheapest_43 rfl rfl rfl ?_
    refine z_iinc (L' := [some (vR g 244), some (vI x3), some (vI (I 247 (x3).toNat)), some (vI (w32 (x3 + 1)))]) dX9_cheapest_44 rfl rfl rfl rfl ?_
    refine z_goto (tgt := 7) dX9_cheapest_47 (by decide) ?_
    exact kS _ (someE h).symm ⟨hx3, (hN3.1 247 (x3).toNat), (inR_w32 _)⟩
  replace h := ifF hc5 h
  refine z_goto (tgt := 44) dX9_cheapest_32 (by decide) ?_
  refine z_iinc (L' := [some (vR g 244), some (vI x1), some (vI x2), some (vI (w32 (x3 + 1)))]) dX9_cheapest_44 rfl rfl rfl rfl ?_
  refine z_goto (tgt := 7) dX9_cheapest_47 (by decide) ?_
  exact kS _ (someE h).symm ⟨hx1, hx2, (inR_w32 _)⟩
theorem l_Y_cheapest_L7 {l : Launch} {g : GX} {φ : CX} {z : Nat} {G : Nat → Nat → Nat} {F : Nat} (hb : cb φ = z) (hz : 295 ≤ z) (hG : lyX G) {I : Nat → Nat → Int} {J : Nat → Nat → Int} (n : Nat) (s : Int × Int × Int) (e : Int) (h : iter (fun s : Int × Int × Int => f_Y_cheapest_L7 F s.1 s.2.1 s.2.2 I) n s = some e) (hs : inR s.1 ∧ inR s.2.1 ∧ inR s.2.2) (k : ((inR e) → Zt l g φ mu_Y_cheapest 50 [none, some (vI e), none, none] [] (z, I, J, G))) : Zt l g φ mu_Y_cheapest 7 [some (vR g 244), some (vI s.1), some (vI s.2.1), some (vI s.2.2)] [] (z, I, J, G) := by
  refine iter_ind (Z := fun s : Int × Int × Int => Zt l g φ mu_Y_cheapest 7 [some (vR g 244), some (vI s.1), some (vI s.2.1), some (vI s.2.2)] [] (z, I, J, G)) (ZE := fun e : Int => ((inR e) → Zt l g φ mu_Y_cheapest 50 [none, some (vI e), none, none] [] (z, I, J, G))) (Rg := fun s : Int × Int × Int => inR s.1 ∧ inR s.2.1 ∧ inR s.2.2) ?_ n s e h hs k
  intro s r hr hst kE kS
  exact t_Y_cheapest_L7 hb hz hG hr.1 hr.2.1 hr.2.2 hst kE kS
set_option maxHeartbeats 1000000 in
theorem s_Y_cheapest {l : Launch} {g : GX} {z : Nat} {G : Nat → Nat → Nat} {F : Nat} (hz : 295 ≤ z) (hG : lyX G) {I J : Nat → Nat → Int} {res : Int} (h : f_Y_cheapest F I = some res) : Spec l g 0 yX9_cheapest cX9_cheapest 4 (some .int) [vR g 244] (z, I, J, G) (some (vI res)) (inR res) (z, I, J, G) := by
  refine spec_of (μ := mu_Y_cheapest) (k := 3) (L0 := [some (vR g 244), none, none, none]) rfl mw_Y_cheapest rfl rfl (Nat.le_refl _) (fun φ hb hE => ?_)
  refine z_iconst dX9_cheapest_0 ?_
  refine z_istore_n (L' := [some (vR g 244), some (vI (-1)), none, none]) dX9_cheapest_1 rfl rfl rfl ?_
  refine z_ldc (n := 1073741824) dX9_cheapest_2 (tin4 149 (by decide +kernel) rfl) ?_
  refine z_istore_n (L' := [some (vR g 244), some (vI (-1)), some (vI 1073741824), none]) dX9_cheapest_4 rfl rfl rfl ?_
  refine z_iconst dX9_cheapest_5 ?_
  refine z_istore_n (L' := [some (vR g 244), some (vI (-1)), some (vI 1073741824), some (vI 0)]) dX9_cheapest_6 rfl rfl rfl ?_
  obtain ⟨e6, h7, h⟩ := bindE h
  refine l_Y_cheapest_L7 hb hz hG  _ _ _ h7 ⟨(inRd (x := (-1)) (by decide)), (inRd (x := 1073741824) (by decide)), (inRd (x := 0) (by decide))⟩ ?_
  refine fun h8 => ?_
  refine z_iload_n dX9_cheapest_50 rfl ?_
  obtain rfl := someE h
  exact z_iret dX9_cheapest_51 hE h8 rfl
set_option maxHeartbeats 1000000 in
theorem t_Y_weighCosts_b63in3 {l : Launch} {g : GX} {φ : CX} {z : Nat} {G : Nat → Nat → Nat} {F : Nat} (hb : cb φ = z) (hz : 295 ≤ z) (hG : lyX G) {r1 : Nat} {x2 : Int} {x3 : Int} {x4 : Int} {s1 : Int} {s2 : Int} {I J : Nat → Nat → Int} (hr1 : isRiv r1) (hx2 : inR x2) (hx3 : inR x3) (hx4 : inR x4) (hs1 : inR s1) (hs2 : inR s2) {res : (MI) ⊕ (Int × MI)} (h : f_Y_weighCosts_b63in3 F r1 x2 x3 x4 s1 s2 I = some res) (kE : ∀ e : MI, res = .inl e → ((True) → Zt l g φ mu_Y_weighCosts 78 [some (vR g 244), some (vR g r1), some (vI x2), some (vI x3), none, none, none, none, none] [] (z, e, J, G))) (kS : ∀ s : Int × MI, res = .inr s → (inR s.1) → Zt l g φ mu_Y_weighCosts 3 [some (vR g 244), some (vR g r1), some (vI x2), some (vI x3), some (vI s.1), none, none, none, none] [] (z, s.2, J, G)) : Zt l g φ mu_Y_weighCosts 63 [some (vR g 244), some (vR g r1), some (vI x2), some (vI x3), some (vI x4), none, none, none, none] [vI s2, vI s1, vR g 247] (z, I, J, G) := by
  obtain ⟨hg6, h⟩ := guardE h
  refine y_iast dX9_weighCosts_63 sh_247 (by decide) (Nat.le_trans (by decide) hz) hs1 hg6 hs2 ?_
  refine z_aload_n dX9_weighCosts_64 rfl ?_
  refine y_getR dX9_weighCosts_65 cl9 sh_244 (by decide) (Nat.le_trans (by decide) hz) 4 rfl rfl (fl_Y_21) (ly_244_4 hG) (by decide) ?_
  refine z_iload dX9_weighCosts_68 rfl ?_
  refine z_iconst dX9_weighCosts_70 ?_
  obtain ⟨hg7, h⟩ := guardE h
  refine y_zast dX9_weighCosts_71 sh_248 (by decide) (Nat.le_trans (by decide) hz) hx4 hg7 b01_0 ?_
  refine z_iinc (L' := [some (vR g 244), some (vR g r1), some (vI x2), some (vI x3), some (vI (w32 (x4 + 1))), none, none, none, none]) dX9_weighCosts_72 rfl rfl rfl rfl ?_
  refine z_goto (tgt := 3) dX9_weighCosts_75 (by decide) ?_
  exact kS _ (someE h).symm (inR_w32 _)
set_option maxHeartbeats 1000000 in
theorem t_Y_weighCosts_b34in3 {l : Launch} {g : GX} {φ : CX} {z : Nat} {G : Nat → Nat → Nat} {F : Nat} (hb : cb φ = z) (hz : 295 ≤ z) (hG : lyX G) {r1 : Nat} {x2 : Int} {x3 : Int} {x4 : Int} {s0 : Int} {I J : Nat → Nat → Int} (hr1 : isRiv r1) (hx2 : inR x2) (hx3 : inR x3) (hx4 : inR x4) (hs0 : inR s0) (hb0 : s0 = 0 ∨ s0 = 1) {res : (MI) ⊕ (Int × MI)} (h : f_Y_weighCosts_b34in3 F r1 x2 x3 x4 s0 I = some res) (kE : ∀ e : MI, res = .inl e → ((True) → Zt l g φ mu_Y_weighCosts 78 [some (vR g 244), some (vR g r1), some (vI x2), some (vI x3), none, none, none, none, none] [] (z, e, J, G))) (kS : ∀ s : Int × MI, res = .inr s → (inR s.1) → Zt l g φ mu_Y_weighCosts 3 [some (vR g 244), some (vR g r1), some (vI x2), some (vI x3), some (vI s.1), none, none, none, none] [] (z, s.2, J, G)) : Zt l g φ mu_Y_weighCosts 34 [some (vR g 244), some (vR g r1), some (vI x2), some (vI x3), some (vI x4), none, none, none, none] [vI s0] (z, I, J, G) := by
  refine z_istore (L' := [some (vR g 244), some (vR g r1), some (vI x2), some (vI x3), some (vI x4), some (vI s0), none, none, none]) dX9_weighCosts_34 rfl rfl rfl ?_
  refine z_aload_n dX9_weighCosts_36 rfl ?_
  refine y_getR dX9_weighCosts_37 cl9 sh_244 (by decide) (Nat.le_trans (by decide) hz) 3 rfl rfl (fl_Y_18) (ly_244_3 hG) (by decide) ?_
  refine z_iload dX9_weighCosts_40 rfl ?_
  refine z_iload dX9_weighCosts_42 rfl ?_
  refine z_if_eq (tgt := 61) dX9_weighCosts_44 (by decide) hs0 (fun hc5 => ?_) (fun hc5 => ?_)
  · replace h := ifT hc5 h
    refine z_ldc (n := 1073741824) dX9_weighCosts_61 (tin4 149 (by decide +kernel) rfl) ?_
    refine z_weak (L' := [some (vR g 244), some (vR g r1), some (vI x2), some (vI x3), some (vI x4), none, none, none, none]) (lsS (lsS (lsS (lsS (lsS (lsN (lsN (lsN (lsN ls0))))))))) ?_
    exact t_Y_weighCosts_b63in3 hb hz hG hr1 hx2 hx3 hx4 hx4 (inRd (x := 1073741824) (by decide)) h kE kS
  replace h := ifF hc5 h
  refine z_iload_n dX9_weighCosts_47 rfl ?_
  refine z_aload_n dX9_weighCosts_48 rfl ?_
  refine y_getR dX9_weighCosts_49 cl9 sh_244 (by decide) (Nat.le_trans (by decide) hz) 0 rfl rfl (fl_Y_9) (ly_244_0 hG) (by decide) ?_
  refine z_iload dX9_weighCosts_52 rfl ?_
  obtain ⟨hg8, h⟩ := guardE h
  refine z_nm (fun hN9 => ?_)
  refine y_iald dX9_weighCosts_54 sh_245 (by decide) (Nat.le_trans (by decide) hz) hx4 hg8 ?_
  refine z_imul dX9_weighCosts_55 ?_
  refine z_iload_n dX9_weighCosts_56 rfl ?_
  refine z_iadd dX9_weighCosts_57 ?_
  refine z_goto (tgt := 63) dX9_weighCosts_58 (by decide) ?_
  refine z_weak (L' := [some (vR g 244), some (vR g r1), some (vI x2), some (vI x3), some (vI x4), none, none, none, none]) (lsS (lsS (lsS (lsS (lsS (lsN (lsN (lsN (lsN ls0))))))))) ?_
  exact t_Y_weighCosts_b63in3 hb hz hG hr1 hx2 hx3 hx4 hx4 (inR_w32 _) h kE kS
set_option maxHeartbeats 1000000 in
theorem t_Y_weighCosts_b33in3 {l : Launch} {g : GX} {φ : CX} {z : Nat} {G : Nat → Nat → Nat} {F : Nat} (hb : cb φ = z) (hz : 295 ≤ z) (hG : lyX G) {r1 : Nat} {x2 : Int} {x3 : Int} {x4 : Int} {I J : Nat → Nat → Int} (hr1 : isRiv r1) (hx2 : inR x2) (hx3 : inR x3) (hx4 : inR x4) {res : (MI) ⊕ (Int × MI)} (h : f_Y_weighCosts_b33in3 F r1 x2 x3 x4 I = some res) (kE : ∀ e : MI, res = .inl e → ((True) → Zt l g φ mu_Y_weighCosts 78 [some (vR g 244), some (vR g r1), some (vI x2), some (vI x3), none, none, none, none, none] [] (z, e, J, G))) (kS : ∀ s : Int × MI, res = .inr s → (inR s.1) → Zt l g φ mu_Y_weighCosts 3 [some (vR g 244), some (vR g r1), some (vI x2), some (vI x3), some (vI s.1), none, none, none, none] [] (z, s.2, J, G)) : Zt l g φ mu_Y_weighCosts 33 [some (vR g 244), some (vR g r1), some (vI x2), some (vI x3), some (vI x4), none, none, none, none] [] (z, I, J, G) := by
  refine z_iconst dX9_weighCosts_33 ?_
  exact t_Y_weighCosts_b34in3 hb hz hG hr1 hx2 hx3 hx4 (inRd (x := 0) (by decide)) b01_0 h kE kS
set_option maxHeartbeats 1000000 in
theorem t_Y_weighCosts_L3 {l : Launch} {g : GX} {φ : CX} {z : Nat} {G : Nat → Nat → Nat} {F : Nat} (hb : cb φ = z) (hz : 295 ≤ z) (hG : lyX G) {r1 : Nat} {x2 : Int} {x3 : Int} {x4 : Int} {I J : Nat → Nat → Int} (hr1 : isRiv r1) (hx2 : inR x2) (hx3 : inR x3) (hx4 : inR x4) {res : (MI) ⊕ (Int × MI)} (h : f_Y_weighCosts_L3 F r1 x2 x3 x4 I = some res) (kE : ∀ e : MI, res = .inl e → ((True) → Zt l g φ mu_Y_weighCosts 78 [some (vR g 244), some (vR g r1), some (vI x2), some (vI x3), none, none, none, none, none] [] (z, e, J, G))) (kS : ∀ s : Int × MI, res = .inr s → (inR s.1) → Zt l g φ mu_Y_weighCosts 3 [some (vR g 244), some (vR g r1), some (vI x2), some (vI x3), some (vI s.1), none, none, none, none] [] (z, s.2, J, G)) : Zt l g φ mu_Y_weighCosts 3 [some (vR g 244), some (vR g r1), some (vI x2), some (vI x3), some (vI x4), none, none, none, none] [] (z, I, J, G) := by
  refine z_iload dX9_weighCosts_3 rfl ?_
  refine z_bipush dX9_weighCosts_5 (by decide +kernel) ?_
  refine z_icmp_ge (tgt := 78) dX9_weighCosts_7 (by decide) hx4 (inRd (x := 96) (by decide)) (fun hc1 => ?_) (fun hc1 => ?_)
  · replace h := ifT hc1 h
    refine z_weak (L' := [some (vR g 244), some (vR g r1), some (vI x2), some (vI x3), none, none, none, none, none]) (lsS (lsS (lsS (lsS (lsN (lsN (lsN (lsN (lsN ls0))))))))) ?_
    exact kE _ (someE h).symm trivial
  replace h := ifF hc1 h
  refine z_aload_n dX9_weighCosts_10 rfl ?_
  refine y_getR dX9_weighCosts_11 cl9 sh_244 (by decide) (Nat.le_trans (by decide) hz) 0 rfl rfl (fl_Y_9) (ly_244_0 hG) (by decide) ?_
  refine z_iload dX9_weighCosts_14 rfl ?_
  obtain ⟨hg2, h⟩ := guardE h
  refine z_nm (fun hN3 => ?_)
  refine y_iald dX9_weighCosts_16 sh_245 (by decide) (Nat.le_trans (by decide) hz) hx4 hg2 ?_
  refine z_if_lt (tgt := 33) dX9_weighCosts_17 (by decide) (hN3.1 245 (x4).toNat) (fun hc4 => ?_) (fun hc4 => ?_)
  · replace h := ifT hc4 h
    exact t_Y_weighCosts_b33in3 hb hz hG hr1 hx2 hx3 hx4 h kE kS
  replace h := ifF hc4 h
  refine z_aload_n dX9_weighCosts_20 rfl ?_
  refine z_iload dX9_weighCosts_21 rfl ?_
  obtain ⟨q10, hq11, h⟩ := bindE h
  refine z_callV (As := [vI x4]) (rest := []) (s_R_isFarEnough hz hG hr1 hx4 hq11) dX9_weighCosts_23 mw_R_isFarEnough cl6 (riv_sh hr1) (riv_pos hr1) (Nat.le_trans (riv_le hr1) hz) ml_Y_57 im_R_isFarEnough se_R_isFarEnough rfl rfl rfl rfl (Nat.le_refl _) (Nat.le_of_eq hb.symm) (fun hp12 => ?_)
  show Zt _ _ _ _ 26 _ [vI q10] (z, I, J, G)
  refine z_if_eq (tgt := 33) dX9_weighCosts_26 (by decide) (inR_bool hp12) (fun hc13 => ?_) (fun hc13 => ?_)
  · replace h := ifT hc13 h
    exact t_Y_weighCosts_b33in3 hb hz hG hr1 hx2 hx3 hx4 h kE kS
  replace h := ifF hc13 h
  refine z_iconst dX9_weighCosts_29 ?_
  refine z_goto (tgt := 34) dX9_weighCosts_30 (by decide) ?_
  exact t_Y_weighCosts_b34in3 hb hz hG hr1 hx2 hx3 hx4 (inRd (x := 1) (by decide)) b01_1 h kE kS
theorem l_Y_weighCosts_L3 {l : Launch} {g : GX} {φ : CX} {z : Nat} {G : Nat → Nat → Nat} {F : Nat} (hb : cb φ = z) (hz : 295 ≤ z) (hG : lyX G) {r1 : Nat} {x2 : Int} {x3 : Int} {J : Nat → Nat → Int} (hr1 : isRiv r1) (hx2 : inR x2) (hx3 : inR x3) (n : Nat) (s : Int × MI) (e : MI) (h : iter (fun s : Int × MI => f_Y_weighCosts_L3 F r1 x2 x3 s.1 s.2) n s = some e) (hs : inR s.1) (k : ((True) → Zt l g φ mu_Y_weighCosts 78 [some (vR g 244), some (vR g r1), some (vI x2), some (vI x3), none, none, none, none, none] [] (z, e, J, G))) : Zt l g φ mu_Y_weighCosts 3 [some (vR g 244), some (vR g r1), some (vI x2), some (vI x3), some (vI s.1), none, none, none, none] [] (z, s.2, J, G) := by
  refine iter_ind (Z := fun s : Int × MI => Zt l g φ mu_Y_weighCosts 3 [some (vR g 244), some (vR g r1), some (vI x2), some (vI x3), some (vI s.1), none, none, none, none] [] (z, s.2, J, G)) (ZE := fun e : MI => ((True) → Zt l g φ mu_Y_weighCosts 78 [some (vR g 244), some (vR g r1), some (vI x2), some (vI x3), none, none, none, none, none] [] (z, e, J, G))) (Rg := fun s : Int × MI => inR s.1) ?_ n s e h hs k
  intro s r hr hst kE kS
  exact t_Y_weighCosts_L3 hb hz hG hr1 hx2 hx3 hr hst kE kS
set_option maxHeartbeats 1000000 in
theorem t_Y_weighCosts_L118 {l : Launch} {g : GX} {φ : CX} {z : Nat} {G : Nat → Nat → Nat} {F : Nat} (hb : cb φ = z) (hz : 295 ≤ z) (hG : lyX G) {r1 : Nat} {x2 : Int} {x3 : Int} {x4 : Int} {x5 : Int} {x6 : Int} {x7 : Int} {I J : Nat → Nat → Int} (hr1 : isRiv r1) (hx2 : inR x2) (hx3 : inR x3) (hx4 : inR x4) (hx5 : inR x5) (hx6 : inR x6) (hx7 : inR x7) {res : (MI) ⊕ (Int × MI)} (h : f_Y_weighCosts_L118 F r1 x2 x3 x4 x5 x6 x7 I = some res) (kE : ∀ e : MI, res = .inl e → ((True) → Zt l g φ mu_Y_weighCosts 196 [some (vR g 244), some (vR g r1), some (vI x2), some (vI x3), some (vI x4), some (vI x5), none, none, none] [] (z, e, J, G))) (kS : ∀ s : Int × MI, res = .inr s → (inR s.1) → Zt l g φ mu_Y_weighCosts 118 [some (vR g 244), some (vR g r1), some (vI x2), some (vI x3), some (vI x4), some (vI x5), some (vI x6), some (vI s.1), none] [] (z, s.2, J, G)) : Zt l g φ mu_Y_weighCosts 118 [some (vR g 244), some (vR g r1), some (vI x2), some (vI x3), some (vI x4), some (vI x5), some (vI x6), some (vI x7), none] [] (z, I, J, G) := by
  refine z_iload dX9_weighCosts_118 rfl ?_
  refine z_iload dX9_weighCosts_120 rfl ?_
  refine z_icmp_ge (tgt := 196) dX9_weighCosts_122 (by decide) hx7 hx4 (fun hc26 => ?_) (fun hc26 => ?_)
  · replace h := ifT hc26 h
    refine z_weak (L' := [some (vR g 244), some (vR g r1), some (vI x2), some (vI x3), some (vI x4), some (vI x5), none, none, none]) (lsS (lsS (lsS (lsS (lsS (lsS (lsN (lsN (lsN ls0))))))))) ?_
    exact kE _ (someE h).symm trivial
  replace h := ifF hc26 h
  refine z_aload_n dX9_weighCosts_125 rfl ?_
  refine z_iload dX9_weighCosts_126 rfl ?_
  refine z_iload dX9_weighCosts_128 rfl ?_
  obtain ⟨q27, hq28, h⟩ := bindE h
  refine z_callV (As := [vI x6, vI x7]) (rest := []) (s_R_leapFrom hz hG hr1 hx6 hx7 hq28) dX9_weighCosts_130 mw_R_leapFrom cl6 (riv_sh hr1) (riv_pos hr1) (Nat.le_trans (riv_le hr1) hz) ml_Y_67 im_R_leapFrom se_R_leapFrom rfl rfl rfl rfl (Nat.le_refl _) (Nat.le_of_eq hb.symm) (fun hp29 => ?_)
  show Zt _ _ _ _ 133 _ [vI q27] (z, I, J, G)
  refine z_istore (L' := [some (vR g 244), some (vR g r1), some (vI x2), some (vI x3), some (vI x4), some (vI x5), some (vI x6), some (vI x7), some (vI q27)]) dX9_weighCosts_133 rfl rfl rfl ?_
  refine z_iload dX9_weighCosts_135 rfl ?_
  refine z_iconst dX9_weighCosts_137 ?_
  refine z_icmp_eq (tgt := 190) dX9_weighCosts_138 (by decide) hp29 (inRd (x := (-1)) (by decide)) (fun hc30 => ?_) (fun hc30 => ?_)
  · replace h := ifT hc30 h
    refine z_iinc (L' := [some (vR g 244), some (vR g r1), some (vI x2), some (vI x3), some (vI x4), some (vI x5), some (vI x6), some (vI (w32 (x7 + 1))), some (vI q27)]) dX9_weighCosts_190 rfl rfl rfl rfl ?_
    refine z_goto (tgt := 118) dX9_weighCosts_193 (by decide) ?_
    refine z_weak (L' := [some (vR g 244), some (vR g r1), some (vI x2), some (vI x3), some (vI x4), some (vI x5), some (vI x6), some (vI (w32 (x7 + 1))), none]) (lsS (lsS (lsS (lsS (lsS (lsS (lsS (lsS (lsN ls0))))))))) ?_
    exact kS _ (someE h).symm (inR_w32 _)
  replace h := ifF hc30 h
  refine z_aload_n dX9_weighCosts_141 rfl ?_
  refine y_getR dX9_weighCosts_142 cl9 sh_244 (by decide) (Nat.le_trans (by decide) hz) 0 rfl rfl (fl_Y_9) (ly_244_0 hG) (by decide) ?_
  refine z_iload dX9_weighCosts_145 rfl ?_
  obtain ⟨hg31, h⟩ := guardE h
  refine z_nm (fun hN32 => ?_)
  refine y_iald dX9_weighCosts_147 sh_245 (by decide) (Nat.le_trans (by decide) hz) hp29 hg31 ?_
  refine z_if_ge (tgt := 154) dX9_weighCosts_148 (by decide) (hN32.1 245 (q27).toNat) (fun hc33 => ?_) (fun hc33 => ?_)
  · replace h := ifT hc33 h
    refine z_aload_n dX9_weighCosts_154 rfl ?_
    refine y_getR dX9_weighCosts_155 cl9 sh_244 (by decide) (Nat.le_trans (by decide) hz) 3 rfl rfl (fl_Y_18) (ly_244_3 hG) (by decide) ?_
    refine z_iload dX9_weighCosts_158 rfl ?_
    refine z_aload_n dX9_weighCosts_160 rfl ?_
    refine y_getR dX9_weighCosts_161 cl9 sh_244 (by decide) (Nat.le_trans (by decide) hz) 3 rfl rfl (fl_Y_18) (ly_244_3 hG) (by decide) ?_
    refine z_iload dX9_weighCosts_164 rfl ?_
    refine y_iald dX9_weighCosts_166 sh_247 (by decide) (Nat.le_trans (by decide) hz) hp29 hg31 ?_
    refine z_iload_n dX9_weighCosts_167 rfl ?_
    refine z_aload_n dX9_weighCosts_168 rfl ?_
    refine y_getR dX9_weighCosts_169 cl9 sh_244 (by decide) (Nat.le_trans (by decide) hz) 0 rfl rfl (fl_Y_9) (ly_244_0 hG) (by decide) ?_
    refine z_iload dX9_weighCosts_172 rfl ?_
    refine y_iald dX9_weighCosts_174 sh_245 (by decide) (Nat.le_trans (by decide) hz) hp29 hg31 ?_
    refine z_imul dX9_weighCosts_175 ?_
    refine z_iload_n dX9_weighCosts_176 rfl ?_
    refine z_iadd dX9_weighCosts_177 ?_
    refine z_aload_n dX9_weighCosts_178 rfl ?_
    refine y_getR dX9_weighCosts_179 cl9 sh_244 (by decide) (Nat.le_trans (by decide) hz) 3 rfl rfl (fl_Y_18) (ly_244_3 hG) (by decide) ?_
    refine z_iload dX9_weighCosts_182 rfl ?_
    obtain ⟨hg34, h⟩ := guardE h
    refine y_iald dX9_weighCosts_184 sh_247 (by decide) (Nat.le_trans (by decide) hz) hx6 hg34 ?_
    refine z_iadd dX9_weighCosts_185 ?_
    refine z_min dX9_weighCosts_186 (hN32.1 247 (q27).toNat) (inR_w32 _) (tin4 169 (by decide +kernel) rfl) math_min_s math_i math_min_c rfl rfl (Nat.le_of_eq hb.symm) ?_
    refine y_iast dX9_weighCosts_189 sh_247 (by decide) (Nat.le_trans (by decide) hz) hp29 hg31 (inR_min (hN32.1 247 (q27).toNat) (inR_w32 _)) ?_
    refine z_iinc (L' := [some (vR g 244), some (vR g r1), some (vI x2), some (vI x3), some (vI x4), some (vI x5), some (vI x6), some (vI (w32 (x7 + 1))), some (vI q27)]) dX9_weighCosts_190 rfl rfl rfl rfl ?_
    refine z_goto (tgt := 118) dX9_weighCosts_193 (by decide) ?_
    refine z_weak (L' := [some (vR g 244), some (vR g r1), some (vI x2), some (vI x3), some (vI x4), some (vI x5), some (vI x6), some (vI (w32 (x7 + 1))), none]) (lsS (lsS (lsS (lsS (lsS (lsS (lsS (lsS (lsN ls0))))))))) ?_
    exact kS _ (someE h).symm (inR_w32 _)
  replace h := ifF hc33 h
  refine z_goto (tgt := 190) dX9_weighCosts_151 (by decide) ?_
  refine z_iinc (L' := [some (vR g 244), some (vR g r1), some (vI x2), some (vI x3), some (vI x4), some (vI x5), some (vI x6), some (vI (w32 (x7 + 1))), some (vI q27)]) dX9_weighCosts_190 rfl rfl rfl rfl ?_
  refine z_goto (tgt := 118) dX9_weighCosts_193 (by decide) ?_
  refine z_weak (L' := [some (vR g 244), some (vR g r1), some (vI x2), some (vI x3), some (vI x4), some (vI x5), some (vI x6), some (vI (w32 (x7 + 1))), none]) (lsS (lsS (lsS (lsS (lsS (lsS (lsS (lsS (lsN ls0))))))))) ?_
  exact kS _ (someE h).symm (inR_w32 _)
theorem l_Y_weighCosts_L118 {l : Launch} {g : GX} {φ : CX} {z : Nat} {G : Nat → Nat → Nat} {F : Nat} (hb : cb φ = z) (hz : 295 ≤ z) (hG : lyX G) {r1 : Nat} {x2 : Int} {x3 : Int} {x4 : Int} {x5 : Int} {x6 : Int} {J : Nat → Nat → Int} (hr1 : isRiv r1) (hx2 : inR x2) (hx3 : inR x3) (hx4 : inR x4) (hx5 : inR x5) (hx6 : inR x6) (n : Nat) (s : Int × MI) (e : MI) (h : iter (fun s : Int × MI => f_Y_weighCosts_L118 F r1 x2 x3 x4 x5 x6 s.1 s.2) n s = some e) (hs : inR s.1) (k : ((True) → Zt l g φ mu_Y_weighCosts 196 [some (vR g 244), some (vR g r1), some (vI x2), some (vI x3), some (vI x4), some (vI x5), none, none, none] [] (z, e, J, G))) : Zt l g φ mu_Y_weighCosts 118 [some (vR g 244), some (vR g r1), some (vI x2), some (vI x3), some (vI x4), some (vI x5), some (vI x6), some (vI s.1), none] [] (z, s.2, J, G) := by
  refine iter_ind (Z := fun s : Int × MI => Zt l g φ mu_Y_weighCosts 118 [some (vR g 244), some (vR g r1), some (vI x2), some (vI x3), some (vI x4), some (vI x5), some (vI x6), some (vI s.1), none] [] (z, s.2, J, G)) (ZE := fun e : MI => ((True) → Zt l g φ mu_Y_weighCosts 196 [some (vR g 244), some (vR g r1), some (vI x2), some (vI x3), some (vI x4), some (vI x5), none, none, none] [] (z, e, J, G))) (Rg := fun s : Int × MI => inR s.1) ?_ n s e h hs k
  intro s r hr hst kE kS
  exact t_Y_weighCosts_L118 hb hz hG hr1 hx2 hx3 hx4 hx5 hx6 hr hst kE kS
set_option maxHeartbeats 1000000 in
theorem t_Y_weighCosts_L87 {l : Launch} {g : GX} {φ : CX} {z : Nat} {G : Nat → Nat → Nat} {F : Nat} (hb : cb φ = z) (hz : 295 ≤ z) (hG : lyX G) {r1 : Nat} {x2 : Int} {x3 : Int} {x4 : Int} {x5 : Int} {I J : Nat → Nat → Int} (hr1 : isRiv r1) (hx2 : inR x2) (hx3 : inR x3) (hx4 : inR x4) (hx5 : inR x5) {res : ((MI) ⊕ (MI)) ⊕ (Int × MI)} (h : f_Y_weighCosts_L87 F r1 x2 x3 x4 x5 I = some res) (kE : ∀ e : (MI) ⊕ (MI), res = .inl e → ((fun w : (MI) ⊕ (MI) => (match w with | .inl e0 => ((True) → Zt l g φ mu_Y_weighCosts 106 [none, none, none, none, none, none, none, none, none] [] (z, e0, J, G)) | .inr o0 => ((True) → Zt l g φ mu_Y_weighCosts 202 [none, none, none, none, none, none, none, none, none] [] (z, o0, J, G)))) e)) (kS : ∀ s : Int × MI, res = .inr s → (inR s.1) → Zt l g φ mu_Y_weighCosts 87 [some (vR g 244), some (vR g r1), some (vI x2), some (vI x3), some (vI x4), some (vI s.1), none, none, none] [] (z, s.2, J, G)) : Zt l g φ mu_Y_weighCosts 87 [some (vR g 244), some (vR g r1), some (vI x2), some (vI x3), some (vI x4), some (vI x5), none, none, none] [] (z, I, J, G) := by
  refine z_iload dX9_weighCosts_87 rfl ?_
  refine z_bipush dX9_weighCosts_89 (by decide +kernel) ?_
  refine z_icmp_ge (tgt := 202) dX9_weighCosts_91 (by decide) hx5 (inRd (x := 96) (by decide)) (fun hc20 => ?_) (fun hc20 => ?_)
  · replace h := ifT hc20 h
    refine z_weak (L' := [none, none, none, none, none, none, none, none, none]) (lsN (lsN (lsN (lsN (lsN (lsN (lsN (lsN (lsN ls0))))))))) ?_
    exact kE _ (someE h).symm trivial
  replace h := ifF hc20 h
  refine z_aload_n dX9_weighCosts_94 rfl ?_
  obtain ⟨q21, hq22, h⟩ := bindE h
  refine z_callV (As := []) (rest := []) (s_Y_cheapest hz hG  hq22) dX9_weighCosts_95 mw_Y_cheapest cl9 sh_244 (by decide) (Nat.le_trans (by decide) hz) ml_Y_64 im_Y_cheapest se_Y_cheapest rfl rfl rfl rfl (Nat.le_refl _) (Nat.le_of_eq hb.symm) (fun hp23 => ?_)
  show Zt _ _ _ _ 98 _ [vI q21] (z, I, J, G)
  refine z_istore (L' := [some (vR g 244), some (vR g r1), some (vI x2), some (vI x3), some (vI x4), some (vI x5), some (vI q21), none, none]) dX9_weighCosts_98 rfl rfl rfl ?_
  refine z_iload dX9_weighCosts_100 rfl ?_
  refine z_iconst dX9_weighCosts_102 ?_
  refine z_icmp_ne (tgt := 107) dX9_weighCosts_103 (by decide) hp23 (inRd (x := (-1)) (by decide)) (fun hc24 => ?_) (fun hc24 => ?_)
  · replace h := ifT hc24 h
    refine z_aload_n dX9_weighCosts_107 rfl ?_
    refine y_getR dX9_weighCosts_108 cl9 sh_244 (by decide) (Nat.le_trans (by decide) hz) 4 rfl rfl (fl_Y_21) (ly_244_4 hG) (by decide) ?_
    refine z_iload dX9_weighCosts_111 rfl ?_
    refine z_iconst dX9_weighCosts_113 ?_
    obtain ⟨hg25, h⟩ := guardE h
    refine y_zast dX9_weighCosts_114 sh_248 (by decide) (Nat.le_trans (by decide) hz) hp23 hg25 b01_1 ?_
    refine z_iconst dX9_weighCosts_115 ?_
    refine z_istore (L' := [some (vR g 244), some (vR g r1), some (vI x2), some (vI x3), some (vI x4), some (vI x5), some (vI q21), some (vI 0), none]) dX9_weighCosts_116 rfl rfl rfl ?_
    obtain ⟨e35, h36, h⟩ := bindE h
    refine l_Y_weighCosts_L118 hb hz hG hr1 hx2 hx3 hx4 hx5 hp23 _ _ _ h36 (inRd (x := 0) (by decide)) ?_
    refine fun h37 => ?_
    refine z_iinc (L' := [some (vR g 244), some (vR g r1), some (vI x2), some (vI x3), some (vI x4), some (vI (w32 (x5 + 1))), none, none, none]) dX9_weighCosts_196 rfl rfl rfl rfl ?_
    refine z_goto (tgt := 87) dX9_weighCosts_199 (by decide) ?_
    exact kS _ (someE h).symm (inR_w32 _)
  replace h := ifF (fun q => q hc24) h
  refine z_weak (L' := [none, none, none, none, none, none, none, none, none]) (lsN (lsN (lsN (lsN (lsN (lsN (lsN (lsN (lsN ls0))))))))) ?_
  exact kE _ (someE h).symm trivial
theorem l_Y_weighCosts_L87 {l : Launch} {g : GX} {φ : CX} {z : Nat} {G : Nat → Nat → Nat} {F : Nat} (hb : cb φ = z) (hz : 295 ≤ z) (hG : lyX G) {r1 : Nat} {x2 : Int} {x3 : Int} {x4 : Int} {J : Nat → Nat → Int} (hr1 : isRiv r1) (hx2 : inR x2) (hx3 : inR x3) (hx4 : inR x4) (n : Nat) (s : Int × MI) (e : (MI) ⊕ (MI)) (h : iter (fun s : Int × MI => f_Y_weighCosts_L87 F r1 x2 x3 x4 s.1 s.2) n s = some e) (hs : inR s.1) (k : ((fun w : (MI) ⊕ (MI) => (match w with | .inl e0 => ((True) → Zt l g φ mu_Y_weighCosts 106 [none, none, none, none, none, none, none, none, none] [] (z, e0, J, G)) | .inr o0 => ((True) → Zt l g φ mu_Y_weighCosts 202 [none, none, none, none, none, none, none, none, none] [] (z, o0, J, G)))) e)) : Zt l g φ mu_Y_weighCosts 87 [some (vR g 244), some (vR g r1), some (vI x2), some (vI x3), some (vI x4), some (vI s.1), none, none, none] [] (z, s.2, J, G) := by
  refine iter_ind (Z := fun s : Int × MI => Zt l g φ mu_Y_weighCosts 87 [some (vR g 244), some (vR g r1), some (vI x2), some (vI x3), some (vI x4), some (vI s.1), none, none, none] [] (z, s.2, J, G)) (ZE := fun e : (MI) ⊕ (MI) => ((fun w : (MI) ⊕ (MI) => (match w with | .inl e0 => ((True) → Zt l g φ mu_Y_weighCosts 106 [none, none, none, none, none, none, none, none, none] [] (z, e0, J, G)) | .inr o0 => ((True) → Zt l g φ mu_Y_weighCosts 202 [none, none, none, none, none, none, none, none, none] [] (z, o0, J, G)))) e)) (Rg := fun s : Int × MI => inR s.1) ?_ n s e h hs k
  intro s r hr hst kE kS
  exact t_Y_weighCosts_L87 hb hz hG hr1 hx2 hx3 hx4 hr hst kE kS
set_option maxHeartbeats 1000000 in
theorem s_Y_weighCosts {l : Launch} {g : GX} {z : Nat} {G : Nat → Nat → Nat} {F : Nat} (hz : 295 ≤ z) (hG : lyX G) {r1 : Nat} {x2 : Int} {x3 : Int} {I J : Nat → Nat → Int} (hr1 : isRiv r1) (hx2 : inR x2) (hx3 : inR x3) {res : MI} (h : f_Y_weighCosts F r1 x2 x3 I = some res) : Spec l g 15 yX9_weighCosts cX9_weighCosts 9 none [vR g 244, vR g r1, vI x2, vI x3] (z, I, J, G) none True (z, res, J, G) := by
  refine spec_of (μ := mu_Y_weighCosts) (k := 5) (L0 := [some (vR g 244), some (vR g r1), some (vI x2), some (vI x3), none, none, none, none, none]) rfl mw_Y_weighCosts rfl rfl (Nat.le_refl _) (fun φ hb hE => ?_)
  refine z_iconst dX9_weighCosts_0 ?_
  refine z_istore (L' := [some (vR g 244), some (vR g r1), some (vI x2), some (vI x3), some (vI 0), none, none, none, none]) dX9_weighCosts_1 rfl rfl rfl ?_
  obtain ⟨e14, h15, h⟩ := bindE h
  refine l_Y_weighCosts_L3 hb hz hG hr1 hx2 hx3 _ _ _ h15 (inRd (x := 0) (by decide)) ?_
  refine fun h16 => ?_
  refine z_aload_n dX9_weighCosts_78 rfl ?_
  obtain ⟨q17, hq18, h⟩ := bindE h
  refine z_callV (As := []) (rest := []) (s_R_countLeaps hz hG hr1 hq18) dX9_weighCosts_79 mw_R_countLeaps cl6 (riv_sh hr1) (riv_pos hr1) (Nat.le_trans (riv_le hr1) hz) ml_Y_60 im_R_countLeaps se_R_countLeaps rfl rfl rfl rfl (Nat.le_refl _) (Nat.le_of_eq hb.symm) (fun hp19 => ?_)
  show Zt _ _ _ _ 82 _ [vI q17] (z, e14, J, G)
  refine z_istore (L' := [some (vR g 244), some (vR g r1), some (vI x2), some (vI x3), some (vI q17), none, none, none, none]) dX9_weighCosts_82 rfl rfl rfl ?_
  refine z_iconst dX9_weighCosts_84 ?_
  refine z_istore (L' := [some (vR g 244), some (vR g r1), some (vI x2), some (vI x3), some (vI q17), some (vI 0), none, none, none]) dX9_weighCosts_85 rfl rfl rfl ?_
  obtain ⟨e38, h39, h⟩ := bindE h
  rcases e38 with e40 | o41
  · refine l_Y_weighCosts_L87 hb hz hG hr1 hx2 hx3 hp19 _ _ _ h39 (inRd (x := 0) (by decide)) ?_
    refine fun h42 => ?_
    obtain rfl := someE h
    exact z_vret dX9_weighCosts_106 hE trivial rfl
  refine l_Y_weighCosts_L87 hb hz hG hr1 hx2 hx3 hp19 _ _ _ h39 (inRd (x := 0) (by decide)) ?_
  refine fun h43 => ?_
  obtain rfl := someE h
  exact z_vret dX9_weighCosts_202 hE trivial rfl
set_option maxHeartbeats 1000000 in
theorem t_Y_find_L30 {l : Launch} {g : GX} {φ : CX} {z : Nat} {G : Nat → Nat → Nat} {F : Nat} (hb : cb φ = z) (hz : 295 ≤ z) (hG : lyX G) {r1 : Nat} {x2 : Int} {x3 : Int} {x4 : Int} {x5 : Int} {I J : Nat → Nat → Int} (hr1 : isRiv r1) (hx2 : inR x2) (hx3 : inR x3) (hx4 : inR x4) (hx5 : inR x5) {res : (Int) ⊕ (Int × Int)} (h : f_Y_find_L30 F r1 x2 x3 x4 x5 I = some res) (kE : ∀ e : Int, res = .inl e → ((inR e) → Zt l g φ mu_Y_find 80 [some (vR g 244), some (vR g r1), some (vI x2), some (vI x3), some (vI e), none] [] (z, I, J, G))) (kS : ∀ s : Int × Int, res = .inr s → (inR s.1 ∧ inR s.2) → Zt l g φ mu_Y_find 30 [some (vR g 244), some (vR g r1), some (vI x2), some (vI x3), some (vI s.1), some (vI s.2)] [] (z, I, J, G)) : Zt l g φ mu_Y_find 30 [some (vR g 244), some (vR g r1), some (vI x2), some (vI x3), some (vI x4), some (vI x5)] [] (z, I, J, G) := by
  refine z_iload dX9_find_30 rfl ?_
  refine z_bipush dX9_find_32 (by decide +kernel) ?_
  refine z_icmp_ge (tgt := 80) dX9_find_34 (by decide) hx5 (inRd (x := 96) (by decide)) (fun hc8 => ?_) (fun hc8 => ?_)
  · replace h := ifT hc8 h
    refine z_weak (L' := [some (vR g 244), some (vR g r1), some (vI x2), some (vI x3), some (vI x4), none]) (lsS (lsS (lsS (lsS (lsS (lsN ls0)))))) ?_
    exact kE _ (someE h).symm hx4
  replace h := ifF hc8 h
  refine z_aload_n dX9_find_37 rfl ?_
  refine y_getR dX9_find_38 cl9 sh_244 (by decide) (Nat.le_trans (by decide) hz) 3 rfl rfl (fl_Y_18) (ly_244_3 hG) (by decide) ?_
  refine z_iload dX9_find_41 rfl ?_
  obtain ⟨hg9, h⟩ := guardE h
  refine z_nm (fun hN10 => ?_)
  refine y_iald dX9_find_43 sh_247 (by decide) (Nat.le_trans (by decide) hz) hx5 hg9 ?_
  refine z_ldc (n := 1073741824) dX9_find_44 (tin4 149 (by decide +kernel) rfl) ?_
  refine z_icmp_ge (tgt := 74) dX9_find_46 (by decide) (hN10.1 247 (x5).toNat) (inRd (x := 1073741824) (by decide)) (fun hc11 => ?_) (fun hc11 => ?_)
  · replace h := ifT hc11 h
    refine z_iinc (L' := [some (vR g 244), some (vR g r1), some (vI x2), some (vI x3), some (vI x4), some (vI (w32 (x5 + 1)))]) dX9_find_74 rfl rfl rfl rfl ?_
    refine z_goto (tgt := 30) dX9_find_77 (by decide) ?_
    exact kS _ (someE h).symm ⟨hx4, (inR_w32 _)⟩
  replace h := ifF hc11 h
  refine z_aload_n dX9_find_49 rfl ?_
  refine z_iload dX9_find_50 rfl ?_
  obtain ⟨q12, hq13, h⟩ := bindE h
  refine z_callV (As := [vI x5]) (rest := []) (s_R_isNearEnough hz hG hr1 hx5 hq13) dX9_find_52 mw_R_isNearEnough cl6 (riv_sh hr1) (riv_pos hr1) (Nat.le_trans (riv_le hr1) hz) ml_Y_43 im_R_isNearEnough se_R_isNearEnough rfl rfl rfl rfl (Nat.le_refl _) (Nat.le_of_eq hb.symm) (fun hp14 => ?_)
  show Zt _ _ _ _ 55 _ [vI q12] (z, I, J, G)
  refine z_if_eq (tgt := 74) dX9_find_55 (by decide) (inR_bool hp14) (fun hc15 => ?_) (fun hc15 => ?_)
  · replace h := ifT hc15 h
    refine z_iinc (L' := [some (vR g 244), some (vR g r1), some (vI x2), some (vI x3), some (vI x4), some (vI (w32 (x5 + 1)))]) dX9_find_74 rfl rfl rfl rfl ?_
    refine z_goto (tgt := 30) dX9_find_77 (by decide) ?_
    exact kS _ (someE h).symm ⟨hx4, (inR_w32 _)⟩
  replace h := ifF hc15 h
  refine z_iload dX9_find_58 rfl ?_
  refine z_iload_n dX9_find_60 rfl ?_
  refine z_aload_n dX9_find_61 rfl ?_
  refine y_getR dX9_find_62 cl9 sh_244 (by decide) (Nat.le_trans (by decide) hz) 3 rfl rfl (fl_Y_18) (ly_244_3 hG) (by decide) ?_
  refine z_iload dX9_find_65 rfl ?_
  refine y_iald dX9_find_67 sh_247 (by decide) (Nat.le_trans (by decide) hz) hx5 hg9 ?_
  refine z_iadd dX9_find_68 ?_
  refine z_min dX9_find_69 hx4 (inR_w32 _) (tin4 169 (by decide +kernel) rfl) math_min_s math_i math_min_c rfl rfl (Nat.le_of_eq hb.symm) ?_
  refine z_istore (L' := [some (vR g 244), some (vR g r1), some (vI x2), some (vI x3), some (vI (min x4 (w32 (x3 + (I 247 (x5).toNat))))), some (vI x5)]) dX9_find_72 rfl rfl rfl ?_
  refine z_iinc (L' := [some (vR g 244), some (vR g r1), some (vI x2), some (vI x3), some (vI (min x4 (w32 (x3 + (I 247 (x5).toNat))))), some (vI (w32 (x5 + 1)))]) dX9_find_74 rfl rfl rfl rfl ?_
  refine z_goto (tgt := 30) dX9_find_77 (by decide) ?_
  exact kS _ (someE h).symm ⟨(inR_min hx4 (inR_w32 _)), (inR_w32 _)⟩
theorem l_Y_find_L30 {l : Launch} {g : GX} {φ : CX} {z : Nat} {G : Nat → Nat → Nat} {F : Nat} (hb : cb φ = z) (hz : 295 ≤ z) (hG : lyX G) {r1 : Nat} {x2 : Int} {x3 : Int} {I : Nat → Nat → Int} {J : Nat → Nat → Int} (hr1 : isRiv r1) (hx2 : inR x2) (hx3 : inR x3) (n : Nat) (s : Int × Int) (e : Int) (h : iter (fun s : Int × Int => f_Y_find_L30 F r1 x2 x3 s.1 s.2 I) n s = some e) (hs : inR s.1 ∧ inR s.2) (k : ((inR e) → Zt l g φ mu_Y_find 80 [some (vR g 244), some (vR g r1), some (vI x2), some (vI x3), some (vI e), none] [] (z, I, J, G))) : Zt l g φ mu_Y_find 30 [some (vR g 244), some (vR g r1), some (vI x2), some (vI x3), some (vI s.1), some (vI s.2)] [] (z, I, J, G) := by
  refine iter_ind (Z := fun s : Int × Int => Zt l g φ mu_Y_find 30 [some (vR g 244), some (vR g r1), some (vI x2), some (vI x3), some (vI s.1), some (vI s.2)] [] (z, I, J, G)) (ZE := fun e : Int => ((inR e) → Zt l g φ mu_Y_find 80 [some (vR g 244), some (vR g r1), some (vI x2), some (vI x3), some (vI e), none] [] (z, I, J, G))) (Rg := fun s : Int × Int => inR s.1 ∧ inR s.2) ?_ n s e h hs k
  intro s r hr hst kE kS
  exact t_Y_find_L30 hb hz hG hr1 hx2 hx3 hr.1 hr.2 hst kE kS
set_option maxHeartbeats 1000000 in
theorem t_Y_find_b25 {l : Launch} {g : GX} {φ : CX} {z : Nat} {G : Nat → Nat → Nat} {F : Nat} (hb : cb φ = z) (hz : 295 ≤ z) (hG : lyX G) {r1 : Nat} {x2 : Int} {x3 : Int} {s0 : Int} {I J : Nat → Nat → Int} (hr1 : isRiv r1) (hx2 : inR x2) (hx3 : inR x3) (hs0 : inR s0) {res : Int × MI} (h : f_Y_find_b25 F r1 x2 x3 s0 I = some res) (hE : ends g φ (some .boolean) (some (vI res.1)) (res.1 = 0 ∨ res.1 = 1) (z, res.2, J, G)) : Zt l g φ mu_Y_find 25 [some (vR g 244), some (vR g r1), some (vI x2), some (vI x3), none, none] [vI s0] (z, I, J, G) := by
  refine z_istore (L' := [some (vR g 244), some (vR g r1), some (vI x2), some (vI x3), some (vI s0), none]) dX9_find_25 rfl rfl rfl ?_
  refine z_iconst dX9_find_27 ?_
  refine z_istore (L' := [some (vR g 244), some (vR g r1), some (vI x2), some (vI x3), some (vI s0), some (vI 0)]) dX9_find_28 rfl rfl rfl ?_
  obtain ⟨e16, h17, h⟩ := bindE h
  refine l_Y_find_L30 hb hz hG hr1 hx2 hx3 _ _ _ h17 ⟨hs0, (inRd (x := 0) (by decide))⟩ ?_
  refine fun h18 => ?_
  refine z_iload dX9_find_80 rfl ?_
  refine z_ldc (n := 1073741824) dX9_find_82 (tin4 149 (by decide +kernel) rfl) ?_
  refine z_icmp_lt (tgt := 89) dX9_find_84 (by decide) h18 (inRd (x := 1073741824) (by decide)) (fun hc19 => ?_) (fun hc19 => ?_)
  · replace h := ifT hc19 h
    refine z_aload_n dX9_find_89 rfl ?_
    refine z_aload_n dX9_find_90 rfl ?_
    refine z_iload dX9_find_91 rfl ?_
    refine z_iload_n dX9_find_93 rfl ?_
    refine z_iload_n dX9_find_94 rfl ?_
    obtain ⟨q20, hq21, h⟩ := bindE h
    refine z_callV (As := [vR g r1, vI e16, vI x2, vI x3]) (rest := []) (s_Y_drawLine hz hG hr1 h18 hx2 hx3 hq21) dX9_find_95 mw_Y_drawLine cl9 sh_244 (by decide) (Nat.le_trans (by decide) hz) ml_Y_53 im_Y_drawLine se_Y_drawLine rfl rfl rfl rfl (Nat.le_refl _) (Nat.le_of_eq hb.symm) (fun hp22 => ?_)
    show Zt _ _ _ _ 98 _ [] (z, q20, J, G)
    refine z_iconst dX9_find_98 ?_
    obtain rfl := someE h
    exact z_zret dX9_find_99 hE b01_1 b01_1 rfl
  replace h := ifF hc19 h
  refine z_iconst dX9_find_87 ?_
  obtain rfl := someE h
  exact z_zret dX9_find_88 hE b01_0 b01_0 rfl
set_option maxHeartbeats 1000000 in
theorem s_Y_find {l : Launch} {g : GX} {z : Nat} {G : Nat → Nat → Nat} {F : Nat} (hz : 295 ≤ z) (hG : lyX G) {r1 : Nat} {x2 : Int} {x3 : Int} {I J : Nat → Nat → Int} (hr1 : isRiv r1) (hx2 : inR x2) (hx3 : inR x3) {res : Int × MI} (h : f_Y_find F r1 x2 x3 I = some res) : Spec l g 17 yX9_find cX9_find 6 (some .boolean) [vR g 244, vR g r1, vI x2, vI x3] (z, I, J, G) (some (vI res.1)) (res.1 = 0 ∨ res.1 = 1) (z, res.2, J, G) := by
  refine spec_of (μ := mu_Y_find) (k := 2) (L0 := [some (vR g 244), some (vR g r1), some (vI x2), some (vI x3), none, none]) rfl mw_Y_find rfl rfl (Nat.le_refl _) (fun φ hb hE => ?_)
  refine z_aload_n dX9_find_0 rfl ?_
  refine z_iconst dX9_find_1 ?_
  refine y_putI dX9_find_2 cl9 sh_244 (by decide) (Nat.le_trans (by decide) hz) 2 rfl rfl rfl (fl_Y_28) rfl rfl (inRd (x := 0) (by decide)) ?_
  refine z_aload_n dX9_find_5 rfl ?_
  refine z_aload_n dX9_find_6 rfl ?_
  refine z_iload_n dX9_find_7 rfl ?_
  refine z_iload_n dX9_find_8 rfl ?_
  obtain ⟨q1, hq2, h⟩ := bindE h
  refine z_callV (As := [vR g r1, vI x2, vI x3]) (rest := []) (s_Y_weighCosts hz hG hr1 hx2 hx3 hq2) dX9_find_9 mw_Y_weighCosts cl9 sh_244 (by decide) (Nat.le_trans (by decide) hz) ml_Y_32 im_Y_weighCosts se_Y_weighCosts rfl rfl rfl rfl (Nat.le_refl _) (Nat.le_of_eq hb.symm) (fun hp3 => ?_)
  show Zt _ _ _ _ 12 _ [] (z, q1, J, G)
  refine z_aload_n dX9_find_12 rfl ?_
  obtain ⟨q4, hq5, h⟩ := bindE h
  refine z_callV (As := []) (rest := []) (s_R_isLeptAtOnce hz hG hr1 hq5) dX9_find_13 mw_R_isLeptAtOnce cl6 (riv_sh hr1) (riv_pos hr1) (Nat.le_trans (riv_le hr1) hz) ml_Y_36 im_R_isLeptAtOnce se_R_isLeptAtOnce rfl rfl rfl rfl (Nat.le_refl _) (Nat.le_of_eq hb.symm) (fun hp6 => ?_)
  show Zt _ _ _ _ 16 _ [vI q4] (z, q1, J, G)
  refine z_if_eq (tgt := 23) dX9_find_16 (by decide) (inR_bool hp6) (fun hc7 => ?_) (fun hc7 => ?_)
  · replace h := ifT hc7 h
    refine z_ldc (n := 1073741824) dX9_find_23 (tin4 149 (by decide +kernel) rfl) ?_
    exact t_Y_find_b25 hb hz hG hr1 hx2 hx3 (inRd (x := 1073741824) (by decide)) h hE
  replace h := ifF hc7 h
  refine z_iload_n dX9_find_19 rfl ?_
  refine z_goto (tgt := 25) dX9_find_20 (by decide) ?_
  exact t_Y_find_b25 hb hz hG hr1 hx2 hx3 hx3 h hE
set_option maxHeartbeats 1000000 in
theorem s_Y_leaps {l : Launch} {g : GX} {z : Nat} {G : Nat → Nat → Nat} {F : Nat} (hz : 295 ≤ z) (hG : lyX G) {I J : Nat → Nat → Int} {res : Int} (h : f_Y_leaps F I = some res) : Spec l g 0 yX9_leaps cX9_leaps 1 (some .int) [vR g 244] (z, I, J, G) (some (vI res)) (inR res) (z, I, J, G) := by
  refine spec_of (μ := mu_Y_leaps) (k := 0) (L0 := [some (vR g 244)]) rfl mw_Y_leaps rfl rfl (Nat.le_refl _) (fun φ hb hE => ?_)
  refine z_aload_n dX9_leaps_0 rfl ?_
  refine z_nm (fun hN1 => ?_)
  refine y_getI dX9_leaps_1 cl9 sh_244 (by decide) (Nat.le_trans (by decide) hz) 2 rfl rfl (fl_Y_28) ?_
  refine z_iconst dX9_leaps_4 ?_
  refine z_iadd dX9_leaps_5 ?_
  obtain rfl := someE h
  exact z_iret dX9_leaps_6 hE (inR_w32 _) rfl
set_option maxHeartbeats 1000000 in
theorem t_Y_leadOver_b56in19 {l : Launch} {g : GX} {φ : CX} {z : Nat} {G : Nat → Nat → Nat} {F : Nat} (hb : cb φ = z) (hz : 295 ≤ z) (hG : lyX G) {r1 : Nat} {x2 : Int} {x3 : Int} {x4 : Int} {s1 : Int} {s2 : Int} {I J : Nat → Nat → Int} (hr1 : isRiv r1) (hx2 : inR x2) (hx3 : inR x3) (hx4 : inR x4) (hs1 : inR s1) (hs2 : inR s2) (hb2 : s2 = 0 ∨ s2 = 1) {res : (Int × MI) ⊕ (Int × Int × MI)} (h : f_Y_leadOver_b56in19 F r1 x2 x3 x4 s1 s2 I = some res) (kE : ∀ e : Int × MI, res = .inl e → ((inR e.1) → Zt l g φ mu_Y_leadOver 87 [some (vR g 244), some (vR g r1), some (vI x2), some (vI e.1), none, none, none, none] [] (z, e.2, J, G))) (kS : ∀ s : Int × Int × MI, res = .inr s → (inR s.1 ∧ inR s.2.1) → Zt l g φ mu_Y_leadOver 19 [some (vR g 244), some (vR g r1), some (vI x2), some (vI s.1), some (vI s.2.1), none, none, none] [] (z, s.2.2, J, G)) : Zt l g φ mu_Y_leadOver 56 [some (vR g 244), some (vR g r1), some (vI x2), some (vI x3), some (vI x4), none, none, none] [vI s2, vI s1, vR g 248] (z, I, J, G) := by
  obtain ⟨hg12, h⟩ := guardE h
  refine y_zast dX9_leadOver_56 sh_248 (by decide) (Nat.le_trans (by decide) hz) hs1 hg12 hb2 ?_
  refine z_aload_n dX9_leadOver_57 rfl ?_
  refine y_getR dX9_leadOver_58 cl9 sh_244 (by decide) (Nat.le_trans (by decide) hz) 4 rfl rfl (fl_Y_21) (ly_244_4 hG) (by decide) ?_
  refine z_iload dX9_leadOver_61 rfl ?_
  obtain ⟨hg13, h⟩ := guardE h
  refine z_nm (fun hN14 => ?_)
  refine y_zald dX9_leadOver_63 sh_248 (by decide) (Nat.le_trans (by decide) hz) hx4 hg13 ?_
  refine z_if_ne (tgt := 70) dX9_leadOver_64 (by decide) (hN14.1 248 (x4).toNat) (fun hc15 => ?_) (fun hc15 => ?_)
  · replace h := ifT hc15 h
    refine z_aload_n dX9_leadOver_70 rfl ?_
    refine y_getR dX9_leadOver_71 cl9 sh_244 (by decide) (Nat.le_trans (by decide) hz) 5 rfl rfl (fl_Y_25) (ly_244_5 hG) (by decide) ?_
    refine z_iload_n dX9_leadOver_74 rfl ?_
    refine z_iload dX9_leadOver_75 rfl ?_
    obtain ⟨hg16, h⟩ := guardE h
    refine y_iast dX9_leadOver_77 sh_249 (by decide) (Nat.le_trans (by decide) hz) hx3 hg16 hx4 ?_
    refine z_iinc (L' := [some (vR g 244), some (vR g r1), some (vI x2), some (vI (w32 (x3 + 1))), some (vI x4), none, none, none]) dX9_leadOver_78 rfl rfl rfl rfl ?_
    refine z_iinc (L' := [some (vR g 244), some (vR g r1), some (vI x2), some (vI (w32 (x3 + 1))), some (vI (w32 (x4 + 1))), none, none, none]) dX9_leadOver_81 rfl rfl rfl rfl ?_
    refine z_goto (tgt := 19) dX9_leadOver_84 (by decide) ?_
    exact kS _ (someE h).symm ⟨(inR_w32 _), (inR_w32 _)⟩
  replace h := ifF (fun q => q hc15) h
  refine z_goto (tgt := 81) dX9_leadOver_67 (by decide) ?_
  refine z_iinc (L' := [some (vR g 244), some (vR g r1), some (vI x2), some (vI x3), some (vI (w32 (x4 + 1))), none, none, none]) dX9_leadOver_81 rfl rfl rfl rfl ?_
  refine z_goto (tgt := 19) dX9_leadOver_84 (by decide) ?_
  exact kS _ (someE h).symm ⟨hx3, (inR_w32 _)⟩
set_option maxHeartbeats 1000000 in
theorem t_Y_leadOver_b55in19 {l : Launch} {g : GX} {φ : CX} {z : Nat} {G : Nat → Nat → Nat} {F : Nat} (hb : cb φ = z) (hz : 295 ≤ z) (hG : lyX G) {r1 : Nat} {x2 : Int} {x3 : Int} {x4 : Int} {s1 : Int} {I J : Nat → Nat → Int} (hr1 : isRiv r1) (hx2 : inR x2) (hx3 : inR x3) (hx4 : inR x4) (hs1 : inR s1) {res : (Int × MI) ⊕ (Int × Int × MI)} (h : f_Y_leadOver_b55in19 F r1 x2 x3 x4 s1 I = some res) (kE : ∀ e : Int × MI, res = .inl e → ((inR e.1) → Zt l g φ mu_Y_leadOver 87 [some (vR g 244), some (vR g r1), some (vI x2), some (vI e.1), none, none, none, none] [] (z, e.2, J, G))) (kS : ∀ s : Int × Int × MI, res = .inr s → (inR s.1 ∧ inR s.2.1) → Zt l g φ mu_Y_leadOver 19 [some (vR g 244), some (vR g r1), some (vI x2), some (vI s.1), some (vI s.2.1), none, none, none] [] (z, s.2.2, J, G)) : Zt l g φ mu_Y_leadOver 55 [some (vR g 244), some (vR g r1), some (vI x2), some (vI x3), some (vI x4), none, none, none] [vI s1, vR g 248] (z, I, J, G) := by
  refine z_iconst dX9_leadOver_55 ?_
  exact t_Y_leadOver_b56in19 hb hz hG hr1 hx2 hx3 hx4 hs1 (inRd (x := 0) (by decide)) b01_0 h kE kS
set_option maxHeartbeats 1000000 in
theorem t_Y_leadOver_L19 {l : Launch} {g : GX} {φ : CX} {z : Nat} {G : Nat → Nat → Nat} {F : Nat} (hb : cb φ = z) (hz : 295 ≤ z) (hG : lyX G) {r1 : Nat} {x2 : Int} {x3 : Int} {x4 : Int} {I J : Nat → Nat → Int} (hr1 : isRiv r1) (hx2 : inR x2) (hx3 : inR x3) (hx4 : inR x4) {res : (Int × MI) ⊕ (Int × Int × MI)} (h : f_Y_leadOver_L19 F r1 x2 x3 x4 I = some res) (kE : ∀ e : Int × MI, res = .inl e → ((inR e.1) → Zt l g φ mu_Y_leadOver 87 [some (vR g 244), some (vR g r1), some (vI x2), some (vI e.1), none, none, none, none] [] (z, e.2, J, G))) (kS : ∀ s : Int × Int × MI, res = .inr s → (inR s.1 ∧ inR s.2.1) → Zt l g φ mu_Y_leadOver 19 [some (vR g 244), some (vR g r1), some (vI x2), some (vI s.1), some (vI s.2.1), none, none, none] [] (z, s.2.2, J, G)) : Zt l g φ mu_Y_leadOver 19 [some (vR g 244), some (vR g r1), some (vI x2), some (vI x3), some (vI x4), none, none, none] [] (z, I, J, G) := by
  refine z_iload dX9_leadOver_19 rfl ?_
  refine z_bipush dX9_leadOver_21 (by decide +kernel) ?_
  refine z_icmp_ge (tgt := 87) dX9_leadOver_23 (by decide) hx4 (inRd (x := 96) (by decide)) (fun hc8 => ?_) (fun hc8 => ?_)
  · replace h := ifT hc8 h
    refine z_weak (L' := [some (vR g 244), some (vR g r1), some (vI x2), some (vI x3), none, none, none, none]) (lsS (lsS (lsS (lsS (lsN (lsN (lsN (lsN ls0)))))))) ?_
    exact kE _ (someE h).symm hx3
  replace h := ifF hc8 h
  refine z_aload_n dX9_leadOver_26 rfl ?_
  refine y_getR dX9_leadOver_27 cl9 sh_244 (by decide) (Nat.le_trans (by decide) hz) 4 rfl rfl (fl_Y_21) (ly_244_4 hG) (by decide) ?_
  refine z_iload dX9_leadOver_30 rfl ?_
  refine z_aload_n dX9_leadOver_32 rfl ?_
  refine y_getR dX9_leadOver_33 cl9 sh_244 (by decide) (Nat.le_trans (by decide) hz) 0 rfl rfl (fl_Y_9) (ly_244_0 hG) (by decide) ?_
  refine z_iload dX9_leadOver_36 rfl ?_
  obtain ⟨hg9, h⟩ := guardE h
  refine z_nm (fun hN10 => ?_)
  refine y_iald dX9_leadOver_38 sh_245 (by decide) (Nat.le_trans (by decide) hz) hx4 hg9 ?_
  refine z_if_lt (tgt := 55) dX9_leadOver_39 (by decide) (hN10.1 245 (x4).toNat) (fun hc11 => ?_) (fun hc11 => ?_)
  · replace h := ifT hc11 h
    exact t_Y_leadOver_b55in19 hb hz hG hr1 hx2 hx3 hx4 hx4 h kE kS
  replace h := ifF hc11 h
  refine z_aload_n dX9_leadOver_42 rfl ?_
  refine z_iload dX9_leadOver_43 rfl ?_
  obtain ⟨q17, hq18, h⟩ := bindE h
  refine z_callV (As := [vI x4]) (rest := [vI x4, vR g 248]) (s_R_isNearEnough hz hG hr1 hx4 hq18) dX9_leadOver_45 mw_R_isNearEnough cl6 (riv_sh hr1) (riv_pos hr1) (Nat.le_trans (riv_le hr1) hz) ml_Y_43 im_R_isNearEnough se_R_isNearEnough rfl rfl rfl rfl (Nat.le_refl _) (Nat.le_of_eq hb.symm) (fun hp19 => ?_)
  show Zt _ _ _ _ 48 _ [vI q17, vI x4, vR g 248] (z, I, J, G)
  refine z_if_eq (tgt := 55) dX9_leadOver_48 (by decide) (inR_bool hp19) (fun hc20 => ?_) (fun hc20 => ?_)
  · replace h := ifT hc20 h
    exact t_Y_leadOver_b55in19 hb hz hG hr1 hx2 hx3 hx4 hx4 h kE kS
  replace h := ifF hc20 h
  refine z_iconst dX9_leadOver_51 ?_
  refine z_goto (tgt := 56) dX9_leadOver_52 (by decide) ?_
  exact t_Y_leadOver_b56in19 hb hz hG hr1 hx2 hx3 hx4 hx4 (inRd (x := 1) (by decide)) b01_1 h kE kS
theorem l_Y_leadOver_L19 {l : Launch} {g : GX} {φ : CX} {z : Nat} {G : Nat → Nat → Nat} {F : Nat} (hb : cb φ = z) (hz : 295 ≤ z) (hG : lyX G) {r1 : Nat} {x2 : Int} {J : Nat → Nat → Int} (hr1 : isRiv r1) (hx2 : inR x2) (n : Nat) (s : Int × Int × MI) (e : Int × MI) (h : iter (fun s : Int × Int × MI => f_Y_leadOver_L19 F r1 x2 s.1 s.2.1 s.2.2) n s = some e) (hs : inR s.1 ∧ inR s.2.1) (k : ((inR e.1) → Zt l g φ mu_Y_leadOver 87 [some (vR g 244), some (vR g r1), some (vI x2), some (vI e.1), none, none, none, none] [] (z, e.2, J, G))) : Zt l g φ mu_Y_leadOver 19 [some (vR g 244), some (vR g r1), some (vI x2), some (vI s.1), some (vI s.2.1), none, none, none] [] (z, s.2.2, J, G) := by
  refine iter_ind (Z := fun s : Int × Int × MI => Zt l g φ mu_Y_leadOver 19 [some (vR g 244), some (vR g r1), some (vI x2), some (vI s.1), some (vI s.2.1), none, none, none] [] (z, s.2.2, J, G)) (ZE := fun e : Int × MI => ((inR e.1) → Zt l g φ mu_Y_leadOver 87 [some (vR g 244), some (vR g r1), some (vI x2), some (vI e.1), none, none, none, none] [] (z, e.2, J, G))) (Rg := fun s : Int × Int × MI => inR s.1 ∧ inR s.2.1) ?_ n s e h hs k
  intro s r hr hst kE kS
  exact t_Y_leadOver_L19 hb hz hG hr1 hx2 hr.1 hr.2 hst kE kS
set_option maxHeartbeats 1000000 in
theorem t_Y_leadOver_L126 {l : Launch} {g : GX} {φ : CX} {z : Nat} {G : Nat → Nat → Nat} {F : Nat} (hb : cb φ = z) (hz : 295 ≤ z) (hG : lyX G) {r1 : Nat} {x2 : Int} {x3 : Int} {x4 : Int} {x5 : Int} {x6 : Int} {I J : Nat → Nat → Int} (hr1 : isRiv r1) (hx2 : inR x2) (hx3 : inR x3) (hx4 : inR x4) (hx5 : inR x5) (hx6 : inR x6) {res : (Int × MI) ⊕ (Int × Int × MI)} (h : f_Y_leadOver_L126 F r1 x2 x3 x4 x5 x6 I = some res) (kE : ∀ e : Int × MI, res = .inl e → ((inR e.1) → Zt l g φ mu_Y_leadOver 196 [some (vR g 244), some (vR g r1), some (vI x2), some (vI e.1), some (vI x4), none, none, none] [] (z, e.2, J, G))) (kS : ∀ s : Int × Int × MI, res = .inr s → (inR s.1 ∧ inR s.2.1) → Zt l g φ mu_Y_leadOver 126 [some (vR g 244), some (vR g r1), some (vI x2), some (vI s.1), some (vI x4), some (vI x5), some (vI s.2.1), none] [] (z, s.2.2, J, G)) : Zt l g φ mu_Y_leadOver 126 [some (vR g 244), some (vR g r1), some (vI x2), some (vI x3), some (vI x4), some (vI x5), some (vI x6), none] [] (z, I, J, G) := by
  refine z_iload dX9_leadOver_126 rfl ?_
  refine z_iload_n dX9_leadOver_128 rfl ?_
  refine z_icmp_ge (tgt := 196) dX9_leadOver_129 (by decide) hx6 hx2 (fun hc32 => ?_) (fun hc32 => ?_)
  · replace h := ifT hc32 h
    refine z_weak (L' := [some (vR g 244), some (vR g r1), some (vI x2), some (vI x3), some (vI x4), none, none, none]) (lsS (lsS (lsS (lsS (lsS (lsN (lsN (lsN ls0)))))))) ?_
    exact kE _ (someE h).symm hx3
  replace h := ifF hc32 h
  refine z_aload_n dX9_leadOver_132 rfl ?_
  refine z_iload dX9_leadOver_133 rfl ?_
  refine z_iload dX9_leadOver_135 rfl ?_
  obtain ⟨q33, hq34, h⟩ := bindE h
  refine z_callV (As := [vI x5, vI x6]) (rest := []) (s_R_leapFrom hz hG hr1 hx5 hx6 hq34) dX9_leadOver_137 mw_R_leapFrom cl6 (riv_sh hr1) (riv_pos hr1) (Nat.le_trans (riv_le hr1) hz) ml_Y_67 im_R_leapFrom se_R_leapFrom rfl rfl rfl rfl (Nat.le_refl _) (Nat.le_of_eq hb.symm) (fun hp35 => ?_)
  show Zt _ _ _ _ 140 _ [vI q33] (z, I, J, G)
  refine z_istore (L' := [some (vR g 244), some (vR g r1), some (vI x2), some (vI x3), some (vI x4), some (vI x5), some (vI x6), some (vI q33)]) dX9_leadOver_140 rfl rfl rfl ?_
  refine z_iload dX9_leadOver_142 rfl ?_
  refine z_iconst dX9_leadOver_144 ?_
  refine z_icmp_eq (tgt := 190) dX9_leadOver_145 (by decide) hp35 (inRd (x := (-1)) (by decide)) (fun hc36 => ?_) (fun hc36 => ?_)
  · replace h := ifT hc36 h
    refine z_iinc (L' := [some (vR g 244), some (vR g r1), some (vI x2), some (vI x3), some (vI x4), some (vI x5), some (vI (w32 (x6 + 1))), some (vI q33)]) dX9_leadOver_190 rfl rfl rfl rfl ?_
    refine z_goto (tgt := 126) dX9_leadOver_193 (by decide) ?_
    refine z_weak (L' := [some (vR g 244), some (vR g r1), some (vI x2), some (vI x3), some (vI x4), some (vI x5), some (vI (w32 (x6 + 1))), none]) (lsS (lsS (lsS (lsS (lsS (lsS (lsS (lsN ls0)))))))) ?_
    exact kS _ (someE h).symm ⟨hx3, (inR_w32 _)⟩
  replace h := ifF hc36 h
  refine z_aload_n dX9_leadOver_148 rfl ?_
  refine y_getR dX9_leadOver_149 cl9 sh_244 (by decide) (Nat.le_trans (by decide) hz) 0 rfl rfl (fl_Y_9) (ly_244_0 hG) (by decide) ?_
  refine z_iload dX9_leadOver_152 rfl ?_
  obtain ⟨hg37, h⟩ := guardE h
  refine z_nm (fun hN38 => ?_)
  refine y_iald dX9_leadOver_154 sh_245 (by decide) (Nat.le_trans (by decide) hz) hp35 hg37 ?_
  refine z_if_lt (tgt := 190) dX9_leadOver_155 (by decide) (hN38.1 245 (q33).toNat) (fun hc39 => ?_) (fun hc39 => ?_)
  · replace h := ifT hc39 h
    refine z_iinc (L' := [some (vR g 244), some (vR g r1), some (vI x2), some (vI x3), some (vI x4), some (vI x5), some (vI (w32 (x6 + 1))), some (vI q33)]) dX9_leadOver_190 rfl rfl rfl rfl ?_
    refine z_goto (tgt := 126) dX9_leadOver_193 (by decide) ?_
    refine z_weak (L' := [some (vR g 244), some (vR g r1), some (vI x2), some (vI x3), some (vI x4), some (vI x5), some (vI (w32 (x6 + 1))), none]) (lsS (lsS (lsS (lsS (lsS (lsS (lsS (lsN ls0)))))))) ?_
    exact kS _ (someE h).symm ⟨hx3, (inR_w32 _)⟩
  replace h := ifF hc39 h
  refine z_aload_n dX9_leadOver_158 rfl ?_
  refine y_getR dX9_leadOver_159 cl9 sh_244 (by decide) (Nat.le_trans (by decide) hz) 4 rfl rfl (fl_Y_21) (ly_244_4 hG) (by decide) ?_
  refine z_iload dX9_leadOver_162 rfl ?_
  refine y_zald dX9_leadOver_164 sh_248 (by decide) (Nat.le_trans (by decide) hz) hp35 hg37 ?_
  refine z_if_eq (tgt := 171) dX9_leadOver_165 (by decide) (hN38.1 248 (q33).toNat) (fun hc40 => ?_) (fun hc40 => ?_)
  · replace h := ifT hc40 h
    refine z_aload_n dX9_leadOver_171 rfl ?_
    refine y_getR dX9_leadOver_172 cl9 sh_244 (by decide) (Nat.le_trans (by decide) hz) 4 rfl rfl (fl_Y_21) (ly_244_4 hG) (by decide) ?_
    refine z_iload dX9_leadOver_175 rfl ?_
    refine z_iconst dX9_leadOver_177 ?_
    refine y_zast dX9_leadOver_178 sh_248 (by decide) (Nat.le_trans (by decide) hz) hp35 hg37 b01_1 ?_
    refine z_aload_n dX9_leadOver_179 rfl ?_
    refine y_getR dX9_leadOver_180 cl9 sh_244 (by decide) (Nat.le_trans (by decide) hz) 5 rfl rfl (fl_Y_25) (ly_244_5 hG) (by decide) ?_
    refine z_iload_n dX9_leadOver_183 rfl ?_
    refine z_iload dX9_leadOver_184 rfl ?_
    obtain ⟨hg41, h⟩ := guardE h
    refine y_iast dX9_leadOver_186 sh_249 (by decide) (Nat.le_trans (by decide) hz) hx3 hg41 hp35 ?_
    refine z_iinc (L' := [some (vR g 244), some (vR g r1), some (vI x2), some (vI (w32 (x3 + 1))), some (vI x4), some (vI x5), some (vI x6), some (vI q33)]) dX9_leadOver_187 rfl rfl rfl rfl ?_
    refine z_iinc (L' := [some (vR g 244), some (vR g r1), some (vI x2), some (vI (w32 (x3 + 1))), some (vI x4), some (vI x5), some (vI (w32 (x6 + 1))), some (vI q33)]) dX9_leadOver_190 rfl rfl rfl rfl ?_
    refine z_goto (tgt := 126) dX9_leadOver_193 (by decide) ?_
    refine z_weak (L' := [some (vR g 244), some (vR g r1), some (vI x2), some (vI (w32 (x3 + 1))), some (vI x4), some (vI x5), some (vI (w32 (x6 + 1))), none]) (lsS (lsS (lsS (lsS (lsS (lsS (lsS (lsN ls0)))))))) ?_
    exact kS _ (someE h).symm ⟨(inR_w32 _), (inR_w32 _)⟩
  replace h := ifF hc40 h
  refine z_goto (tgt := 190) dX9_leadOver_168 (by decide) ?_
  refine z_iinc (L' := [some (vR g 244), some (vR g r1), some (vI x2), some (vI x3), some (vI x4), some (vI x5), some (vI (w32 (x6 + 1))), some (vI q33)]) dX9_leadOver_190 rfl rfl rfl rfl ?_
  refine z_goto (tgt := 126) dX9_leadOver_193 (by decide) ?_
  refine z_weak (L' := [some (vR g 244), some (vR g r1), some (vI x2), some (vI x3), some (vI x4), some (vI x5), some (vI (w32 (x6 + 1))), none]) (lsS (lsS (lsS (lsS (lsS (lsS (lsS (lsN ls0)))))))) ?_
  exact kS _ (someE h).symm ⟨hx3, (inR_w32 _)⟩
theorem l_Y_leadOver_L126 {l : Launch} {g : GX} {φ : CX} {z : Nat} {G : Nat → Nat → Nat} {F : Nat} (hb : cb φ = z) (hz : 295 ≤ z) (hG : lyX G) {r1 : Nat} {x2 : Int} {x4 : Int} {x5 : Int} {J : Nat → Nat → Int} (hr1 : isRiv r1) (hx2 : inR x2) (hx4 : inR x4) (hx5 : inR x5) (n : Nat) (s : Int × Int × MI) (e : Int × MI) (h : iter (fun s : Int × Int × MI => f_Y_leadOver_L126 F r1 x2 s.1 x4 x5 s.2.1 s.2.2) n s = some e) (hs : inR s.1 ∧ inR s.2.1) (k : ((inR e.1) → Zt l g φ mu_Y_leadOver 196 [some (vR g 244), some (vR g r1), some (vI x2), some (vI e.1), some (vI x4), none, none, none] [] (z, e.2, J, G))) : Zt l g φ mu_Y_leadOver 126 [some (vR g 244), some (vR g r1), some (vI x2), some (vI s.1), some (vI x4), some (vI x5), some (vI s.2.1), none] [] (z, s.2.2, J, G) := by
  refine iter_ind (Z := fun s : Int × Int × MI => Zt l g φ mu_Y_leadOver 126 [some (vR g 244), some (vR g r1), some (vI x2), some (vI s.1), some (vI x4), some (vI x5), some (vI s.2.1), none] [] (z, s.2.2, J, G)) (ZE := fun e : Int × MI => ((inR e.1) → Zt l g φ mu_Y_leadOver 196 [some (vR g 244), some (vR g r1), some (vI x2), some (vI e.1), some (vI x4), none, none, none] [] (z, e.2, J, G))) (Rg := fun s : Int × Int × MI => inR s.1 ∧ inR s.2.1) ?_ n s e h hs k
  intro s r hr hst kE kS
  exact t_Y_leadOver_L126 hb hz hG hr1 hx2 hr.1 hx4 hx5 hr.2 hst kE kS
set_option maxHeartbeats 1000000 in
theorem t_Y_leadOver_L90 {l : Launch} {g : GX} {φ : CX} {z : Nat} {G : Nat → Nat → Nat} {F : Nat} (hb : cb φ = z) (hz : 295 ≤ z) (hG : lyX G) {r1 : Nat} {x2 : Int} {x3 : Int} {x4 : Int} {I J : Nat → Nat → Int} (hr1 : isRiv r1) (hx2 : inR x2) (hx3 : inR x3) (hx4 : inR x4) {res : ((MI) ⊕ (MI)) ⊕ (Int × Int × MI)} (h : f_Y_leadOver_L90 F r1 x2 x3 x4 I = some res) (kE : ∀ e : (MI) ⊕ (MI), res = .inl e → ((fun w : (MI) ⊕ (MI) => (match w with | .inl e0 => ((True) → Zt l g φ mu_Y_leadOver 121 [none, none, none, none, none, none, none, none] [] (z, e0, J, G)) | .inr o0 => ((True) → Zt l g φ mu_Y_leadOver 202 [none, none, none, none, none, none, none, none] [] (z, o0, J, G)))) e)) (kS : ∀ s : Int × Int × MI, res = .inr s → (inR s.1 ∧ inR s.2.1) → Zt l g φ mu_Y_leadOver 90 [some (vR g 244), some (vR g r1), some (vI x2), some (vI s.1), some (vI s.2.1), none, none, none] [] (z, s.2.2, J, G)) : Zt l g φ mu_Y_leadOver 90 [some (vR g 244), some (vR g r1), some (vI x2), some (vI x3), some (vI x4), none, none, none] [] (z, I, J, G) := by
  refine z_iload dX9_leadOver_90 rfl ?_
  refine z_iload_n dX9_leadOver_92 rfl ?_
  refine z_icmp_ge (tgt := 202) dX9_leadOver_93 (by decide) hx4 hx3 (fun hc24 => ?_) (fun hc24 => ?_)
  · replace h := ifT hc24 h
    refine z_weak (L' := [none, none, none, none, none, none, none, none]) (lsN (lsN (lsN (lsN (lsN (lsN (lsN (lsN ls0)))))))) ?_
    exact kE _ (someE h).symm trivial
  replace h := ifF hc24 h
  refine z_iload dX9_leadOver_96 rfl ?_
  refine z_bipush dX9_leadOver_98 (by decide +kernel) ?_
  refine z_icmp_ge (tgt := 202) dX9_leadOver_100 (by decide) hx4 (inRd (x := 96) (by decide)) (fun hc25 => ?_) (fun hc25 => ?_)
  · replace h := ifT hc25 h
    refine z_weak (L' := [none, none, none, none, none, none, none, none]) (lsN (lsN (lsN (lsN (lsN (lsN (lsN (lsN ls0)))))))) ?_
    exact kE _ (someE h).symm trivial
  replace h := ifF hc25 h
  refine z_aload_n dX9_leadOver_103 rfl ?_
  refine y_getR dX9_leadOver_104 cl9 sh_244 (by decide) (Nat.le_trans (by decide) hz) 5 rfl rfl (fl_Y_25) (ly_244_5 hG) (by decide) ?_
  refine z_iload dX9_leadOver_107 rfl ?_
  obtain ⟨hg26, h⟩ := guardE h
  refine z_nm (fun hN27 => ?_)
  refine y_iald dX9_leadOver_109 sh_249 (by decide) (Nat.le_trans (by decide) hz) hx4 hg26 ?_
  refine z_istore (L' := [some (vR g 244), some (vR g r1), some (vI x2), some (vI x3), some (vI x4), some (vI (I 249 (x4).toNat)), none, none]) dX9_leadOver_110 rfl rfl rfl ?_
  refine z_aload_n dX9_leadOver_112 rfl ?_
  refine z_iload dX9_leadOver_113 rfl ?_
  obtain ⟨q28, hq29, h⟩ := bindE h
  refine z_callV (As := [vI (I 249 (x4).toNat)]) (rest := []) (s_R_isFarEnough hz hG hr1 (hN27.1 249 (x4).toNat) hq29) dX9_leadOver_115 mw_R_isFarEnough cl6 (riv_sh hr1) (riv_pos hr1) (Nat.le_trans (riv_le hr1) hz) ml_Y_57 im_R_isFarEnough se_R_isFarEnough rfl rfl rfl rfl (Nat.le_refl _) (Nat.le_of_eq hb.symm) (fun hp30 => ?_)
  show Zt _ _ _ _ 118 _ [vI q28] (z, I, J, G)
  refine z_if_eq (tgt := 123) dX9_leadOver_118 (by decide) (inR_bool hp30) (fun hc31 => ?_) (fun hc31 => ?_)
  · replace h := ifT hc31 h
    refine z_iconst dX9_leadOver_123 ?_
    refine z_istore (L' := [some (vR g 244), some (vR g r1), some (vI x2), some (vI x3), some (vI x4), some (vI (I 249 (x4).toNat)), some (vI 0), none]) dX9_leadOver_124 rfl rfl rfl ?_
    obtain ⟨e42, h43, h⟩ := bindE h
    refine l_Y_leadOver_L126 hb hz hG hr1 hx2 hx4 (hN27.1 249 (x4).toNat) _ _ _ h43 ⟨hx3, (inRd (x := 0) (by decide))⟩ ?_
    refine fun h44 => ?_
    refine z_iinc (L' := [some (vR g 244), some (vR g r1), some (vI x2), some (vI e42.1), some (vI (w32 (x4 + 1))), none, none, none]) dX9_leadOver_196 rfl rfl rfl rfl ?_
    refine z_goto (tgt := 90) dX9_leadOver_199 (by decide) ?_
    exact kS _ (someE h).symm ⟨h44, (inR_w32 _)⟩
  replace h := ifF hc31 h
  refine z_weak (L' := [none, none, none, none, none, none, none, none]) (lsN (lsN (lsN (lsN (lsN (lsN (lsN (lsN ls0)))))))) ?_
  exact kE _ (someE h).symm trivial
theorem l_Y_leadOver_L90 {l : Launch} {g : GX} {φ : CX} {z : Nat} {G : Nat → Nat → Nat} {F : Nat} (hb : cb φ = z) (hz : 295 ≤ z) (hG : lyX G) {r1 : Nat} {x2 : Int} {J : Nat → Nat → Int} (hr1 : isRiv r1) (hx2 : inR x2) (n : Nat) (s : Int × Int × MI) (e : (MI) ⊕ (MI)) (h : iter (fun s : Int × Int × MI => f_Y_leadOver_L90 F r1 x2 s.1 s.2.1 s.2.2) n s = some e) (hs : inR s.1 ∧ inR s.2.1) (k : ((fun w : (MI) ⊕ (MI) => (match w with | .inl e0 => ((True) → Zt l g φ mu_Y_leadOver 121 [none, none, none, none, none, none, none, none] [] (z, e0, J, G)) | .inr o0 => ((True) → Zt l g φ mu_Y_leadOver 202 [none, none, none, none, none, none, none, none] [] (z, o0, J, G)))) e)) : Zt l g φ mu_Y_leadOver 90 [some (vR g 244), some (vR g r1), some (vI x2), some (vI s.1), some (vI s.2.1), none, none, none] [] (z, s.2.2, J, G) := by
  refine iter_ind (Z := fun s : Int × Int × MI => Zt l g φ mu_Y_leadOver 90 [some (vR g 244), some (vR g r1), some (vI x2), some (vI s.1), some (vI s.2.1), none, none, none] [] (z, s.2.2, J, G)) (ZE := fun e : (MI) ⊕ (MI) => ((fun w : (MI) ⊕ (MI) => (match w with | .inl e0 => ((True) → Zt l g φ mu_Y_leadOver 121 [none, none, none, none, none, none, none, none] [] (z, e0, J, G)) | .inr o0 => ((True) → Zt l g φ mu_Y_leadOver 202 [none, none, none, none, none, none, none, none] [] (z, o0, J, G)))) e)) (Rg := fun s : Int × Int × MI => inR s.1 ∧ inR s.2.1) ?_ n s e h hs k
  intro s r hr hst kE kS
  exact t_Y_leadOver_L90 hb hz hG hr1 hx2 hr.1 hr.2 hst kE kS
set_option maxHeartbeats 1000000 in
theorem s_Y_leadOver {l : Launch} {g : GX} {z : Nat} {G : Nat → Nat → Nat} {F : Nat} (hz : 295 ≤ z) (hG : lyX G) {r1 : Nat} {I J : Nat → Nat → Int} (hr1 : isRiv r1) {res : Int × MI} (h : f_Y_leadOver F r1 I = some res) : Spec l g 15 yX9_leadOver cX9_leadOver 8 (some .boolean) [vR g 244, vR g r1] (z, I, J, G) (some (vI res.1)) (res.1 = 0 ∨ res.1 = 1) (z, res.2, J, G) := by
  refine spec_of (μ := mu_Y_leadOver) (k := 6) (L0 := [some (vR g 244), some (vR g r1), none, none, none, none, none, none]) rfl mw_Y_leadOver rfl rfl (Nat.le_refl _) (fun φ hb hE => ?_)
  refine z_aload_n dX9_leadOver_0 rfl ?_
  obtain ⟨q1, hq2, h⟩ := bindE h
  refine z_callV (As := []) (rest := []) (s_R_isLeptAtOnce hz hG hr1 hq2) dX9_leadOver_1 mw_R_isLeptAtOnce cl6 (riv_sh hr1) (riv_pos hr1) (Nat.le_trans (riv_le hr1) hz) ml_Y_36 im_R_isLeptAtOnce se_R_isLeptAtOnce rfl rfl rfl rfl (Nat.le_refl _) (Nat.le_of_eq hb.symm) (fun hp3 => ?_)
  show Zt _ _ _ _ 4 _ [vI q1] (z, I, J, G)
  refine z_if_eq (tgt := 9) dX9_leadOver_4 (by decide) (inR_bool hp3) (fun hc4 => ?_) (fun hc4 => ?_)
  · replace h := ifT hc4 h
    refine z_aload_n dX9_leadOver_9 rfl ?_
    obtain ⟨q5, hq6, h⟩ := bindE h
    refine z_callV (As := []) (rest := []) (s_R_countLeaps hz hG hr1 hq6) dX9_leadOver_10 mw_R_countLeaps cl6 (riv_sh hr1) (riv_pos hr1) (Nat.le_trans (riv_le hr1) hz) ml_Y_60 im_R_countLeaps se_R_countLeaps rfl rfl rfl rfl (Nat.le_refl _) (Nat.le_of_eq hb.symm) (fun hp7 => ?_)
    show Zt _ _ _ _ 13 _ [vI q5] (z, I, J, G)
    refine z_istore_n (L' := [some (vR g 244), some (vR g r1), some (vI q5), none, none, none, none, none]) dX9_leadOver_13 rfl rfl rfl ?_
    refine z_iconst dX9_leadOver_14 ?_
    refine z_istore_n (L' := [some (vR g 244), some (vR g r1), some (vI q5), some (vI 0), none, none, none, none]) dX9_leadOver_15 rfl rfl rfl ?_
    refine z_iconst dX9_leadOver_16 ?_
    refine z_istore (L' := [some (vR g 244), some (vR g r1), some (vI q5), some (vI 0), some (vI 0), none, none, none]) dX9_leadOver_17 rfl rfl rfl ?_
    obtain ⟨e21, h22, h⟩ := bindE h
    refine l_Y_leadOver_L19 hb hz hG hr1 hp7 _ _ _ h22 ⟨(inRd (x := 0) (by decide)), (inRd (x := 0) (by decide))⟩ ?_
    refine fun h23 => ?_
    refine z_iconst dX9_leadOver_87 ?_
    refine z_istore (L' := [some (vR g 244), some (vR g r1), some (vI q5), some (vI e21.1), some (vI 0), none, none, none]) dX9_leadOver_88 rfl rfl rfl ?_
    obtain ⟨e45, h46, h⟩ := bindE h
    rcases e45 with e47 | o48
    · refine l_Y_leadOver_L90 hb hz hG hr1 hp7 _ _ _ h46 ⟨h23, (inRd (x := 0) (by decide))⟩ ?_
      refine fun h49 => ?_
      refine z_iconst dX9_leadOver_121 ?_
      obtain rfl := someE h
      exact z_zret dX9_leadOver_122 hE b01_1 b01_1 rfl
    refine l_Y_leadOver_L90 hb hz hG hr1 hp7 _ _ _ h46 ⟨h23, (inRd (x := 0) (by decide))⟩ ?_
    refine fun h50 => ?_
    refine z_iconst dX9_leadOver_202 ?_
    obtain rfl := someE h
    exact z_zret dX9_leadOver_203 hE b01_0 b01_0 rfl
  replace h := ifF hc4 h
  refine z_iconst dX9_leadOver_7 ?_
  obtain rfl := someE h
  exact z_zret dX9_leadOver_8 hE b01_1 b01_1 rfl
