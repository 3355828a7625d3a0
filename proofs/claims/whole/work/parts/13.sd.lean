set_option maxHeartbeats 1000000 in
theorem t_M_put_L3 {l : Launch} {g : GX} {φ : CX} {z : Nat} {G : Nat → Nat → Nat} {F : Nat} (hb : cb φ = z) (hz : 353 ≤ z) (hG : lyM G) {x1 : Int} {x2 : Int} {I J : Nat → Nat → Int} (hx1 : inR x1) (hx2 : inR x2) {res : (MI) ⊕ (Int × MI)} (h : f_M_put_L3 F x1 x2 I J = some res) (kE : ∀ e : MI, res = .inl e → ((True) → Zt l g φ mu_M_put 36 [none, none, none] [] (z, e, J, G))) (kS : ∀ s : Int × MI, res = .inr s → (inR s.1) → Zt l g φ mu_M_put 3 [some (vR g 296), some (vI x1), some (vI s.1)] [] (z, s.2, J, G)) : Zt l g φ mu_M_put 3 [some (vR g 296), some (vI x1), some (vI x2)] [] (z, I, J, G) := by
  refine z_iload_n dX11_put_3 rfl ?_
  refine z_if_lt (tgt := 36) dX11_put_4 (by decide) hx2 (fun hc1 => ?_) (fun hc1 => ?_)
  · replace h := ifT hc1 h
    refine z_weak (L' := [none, none, none]) (lsN (lsN (lsN ls0))) ?_
    exact kE _ (someE h).symm trivial
  replace h := ifF hc1 h
  refine z_aload_n dX11_put_7 rfl ?_
  refine y_getR dX11_put_8 cl11 sh_296 (by decide) (Nat.le_trans (by decide) hz) 1 rfl rfl (fl_M_13) (ly_296_1 hG) (by decide) ?_
  refine z_aload_n dX11_put_11 rfl ?_
  refine z_nm (fun hN2 => ?_)
  refine y_getI dX11_put_12 cl11 sh_296 (by decide) (Nat.le_trans (by decide) hz) 2 rfl rfl (fl_M_202) ?_
  refine z_iload_n dX11_put_15 rfl ?_
  refine z_iload_n dX11_put_16 rfl ?_
  refine z_ishr dX11_put_17 ?_
  refine z_i2b dX11_put_18 ?_
  obtain ⟨hg3, h⟩ := guardE h
  refine y_bast dX11_put_19 sh_297 (by decide) (Nat.le_trans (by decide) hz) (hN2.1 296 2) hg3 ?_
  refine z_aload_n dX11_put_20 rfl ?_
  refine z_dup dX11_put_21 rfl ?_
  refine z_nm (fun hN4 => ?_)
  refine y_getI dX11_put_22 cl11 sh_296 (by decide) (Nat.le_trans (by decide) hz) 2 rfl rfl (fl_M_202) ?_
  refine z_iconst dX11_put_25 ?_
  refine z_iadd dX11_put_26 ?_
  refine y_putI dX11_put_27 cl11 sh_296 (by decide) (Nat.le_trans (by decide) hz) 2 rfl rfl rfl (fl_M_202) rfl rfl (inR_w32 _) ?_
  refine z_iinc (L' := [some (vR g 296), some (vI x1), some (vI (w32 (x2 + (-8))))]) dX11_put_30 rfl rfl rfl rfl ?_
  refine z_goto (tgt := 3) dX11_put_33 (by decide) ?_
  exact kS _ (someE h).symm (inR_w32 _)
theorem l_M_put_L3 {l : Launch} {g : GX} {φ : CX} {z : Nat} {G : Nat → Nat → Nat} {F : Nat} (hb : cb φ = z) (hz : 353 ≤ z) (hG : lyM G) {x1 : Int} {J : Nat → Nat → Int} (hx1 : inR x1) (n : Nat) (s : Int × MI) (e : MI) (h : iter (fun s : Int × MI => f_M_put_L3 F x1 s.1 s.2 J) n s = some e) (hs : inR s.1) (k : ((True) → Zt l g φ mu_M_put 36 [none, none, none] [] (z, e, J, G))) : Zt l g φ mu_M_put 3 [some (vR g 296), some (vI x1), some (vI s.1)] [] (z, s.2, J, G) := by
  refine iter_ind (Z := fun s : Int × MI => Zt l g φ mu_M_put 3 [some (vR g 296), some (vI x1), some (vI s.1)] [] (z, s.2, J, G)) (ZE := fun e : MI => ((True) → Zt l g φ mu_M_put 36 [none, none, none] [] (z, e, J, G))) (Rg := fun s : Int × MI => inR s.1) ?_ n s e h hs k
  intro s r hr hst kE kS
  exact t_M_put_L3 hb hz hG hx1 hr hst kE kS
set_option maxHeartbeats 1000000 in
theorem s_M_put {l : Launch} {g : GX} {z : Nat} {G : Nat → Nat → Nat} {F : Nat} (hz : 353 ≤ z) (hG : lyM G) {x1 : Int} {I J : Nat → Nat → Int} (hx1 : inR x1) {res : MI} (h : f_M_put F x1 I J = some res) : Spec l g 0 yX11_put cX11_put 3 none [vR g 296, vI x1] (z, I, J, G) none True (z, res, J, G) := by
  refine spec_of (μ := mu_M_put) (k := 1) (L0 := [some (vR g 296), some (vI x1), none]) rfl mw_M_put rfl rfl (Nat.le_refl _) (fun φ hb hE => ?_)
  refine z_bipush dX11_put_0 (by decide +kernel) ?_
  refine z_istore_n (L' := [some (vR g 296), some (vI x1), some (vI 24)]) dX11_put_2 rfl rfl rfl ?_
  obtain ⟨e5, h6, h⟩ := bindE h
  refine l_M_put_L3 hb hz hG hx1 _ _ _ h6 (inRd (x := 24) (by decide)) ?_
  refine fun h7 => ?_
  obtain rfl := someE h
  exact z_vret dX11_put_36 hE trivial rfl
set_option maxHeartbeats 1000000 in
theorem s_M_feed {l : Launch} {g : GX} {z : Nat} {G : Nat → Nat → Nat} {F : Nat} (hz : 353 ≤ z) (hG : lyM G) {x1 : Int} {x2 : Int} {x3 : Int} {x4 : Int} {x5 : Int} {I J : Nat → Nat → Int} (hx1 : inR x1) (hx2 : inR x2) (hx3 : inR x3) (hx4 : inR x4) (hx5 : inR x5) {res : Int × MI} (h : f_M_feed F x1 x2 x3 x4 x5 I J = some res) : Spec l g 1 yX11_feed cX11_feed 6 (some .int) [vR g 296, vI x1, vI x2, vI x3, vI x4, vI x5] (z, I, J, G) (some (vI res.1)) (inR res.1) (z, res.2, J, G) := by
  refine spec_of (μ := mu_M_feed) (k := 0) (L0 := [some (vR g 296), some (vI x1), some (vI x2), some (vI x3), some (vI x4), some (vI x5)]) rfl mw_M_feed rfl rfl (Nat.le_refl _) (fun φ hb hE => ?_)
  refine z_aload_n dX11_feed_0 rfl ?_
  refine z_nm (fun hN1 => ?_)
  refine y_getI dX11_feed_1 cl11 sh_296 (by decide) (Nat.le_trans (by decide) hz) 2 rfl rfl (fl_M_202) ?_
  refine z_bipush dX11_feed_4 (by decide +kernel) ?_
  refine z_iadd dX11_feed_6 ?_
  refine z_sipush dX11_feed_7 (by decide +kernel) ?_
  refine z_icmp_le (tgt := 15) dX11_feed_10 (by decide) (inR_w32 _) (inRd (x := 2000) (by decide)) (fun hc2 => ?_) (fun hc2 => ?_)
  · replace h := ifT hc2 h
    refine z_aload_n dX11_feed_15 rfl ?_
    refine z_iload_n dX11_feed_16 rfl ?_
    obtain ⟨q3, hq4, h⟩ := bindE h
    refine z_callV (As := [vI x1]) (rest := []) (s_M_put hz hG hx1 hq4) dX11_feed_17 mw_M_put cl11 sh_296 (by decide) (Nat.le_trans (by decide) hz) ml_M_205 im_M_put se_M_put rfl rfl rfl rfl (Nat.le_refl _) (Nat.le_of_eq hb.symm) (fun hp5 => ?_)
    show Zt _ _ _ _ 20 _ [] (z, q3, J, G)
    refine z_aload_n dX11_feed_20 rfl ?_
    refine z_iload_n dX11_feed_21 rfl ?_
    obtain ⟨q6, hq7, h⟩ := bindE h
    refine z_callV (As := [vI x2]) (rest := []) (s_M_put hz hG hx2 hq7) dX11_feed_22 mw_M_put cl11 sh_296 (by decide) (Nat.le_trans (by decide) hz) ml_M_205 im_M_put se_M_put rfl rfl rfl rfl (Nat.le_refl _) (Nat.le_of_eq hb.symm) (fun hp8 => ?_)
    show Zt _ _ _ _ 25 _ [] (z, q6, J, G)
    refine z_aload_n dX11_feed_25 rfl ?_
    refine z_iload_n dX11_feed_26 rfl ?_
    obtain ⟨q9, hq10, h⟩ := bindE h
    refine z_callV (As := [vI x3]) (rest := []) (s_M_put hz hG hx3 hq10) dX11_feed_27 mw_M_put cl11 sh_296 (by decide) (Nat.le_trans (by decide) hz) ml_M_205 im_M_put se_M_put rfl rfl rfl rfl (Nat.le_refl _) (Nat.le_of_eq hb.symm) (fun hp11 => ?_)
    show Zt _ _ _ _ 30 _ [] (z, q9, J, G)
    refine z_aload_n dX11_feed_30 rfl ?_
    refine z_iload dX11_feed_31 rfl ?_
    obtain ⟨q12, hq13, h⟩ := bindE h
    refine z_callV (As := [vI x4]) (rest := []) (s_M_put hz hG hx4 hq13) dX11_feed_33 mw_M_put cl11 sh_296 (by decide) (Nat.le_trans (by decide) hz) ml_M_205 im_M_put se_M_put rfl rfl rfl rfl (Nat.le_refl _) (Nat.le_of_eq hb.symm) (fun hp14 => ?_)
    show Zt _ _ _ _ 36 _ [] (z, q12, J, G)
    refine z_aload_n dX11_feed_36 rfl ?_
    refine z_iload dX11_feed_37 rfl ?_
    obtain ⟨q15, hq16, h⟩ := bindE h
    refine z_callV (As := [vI x5]) (rest := []) (s_M_put hz hG hx5 hq16) dX11_feed_39 mw_M_put cl11 sh_296 (by decide) (Nat.le_trans (by decide) hz) ml_M_205 im_M_put se_M_put rfl rfl rfl rfl (Nat.le_refl _) (Nat.le_of_eq hb.symm) (fun hp17 => ?_)
    show Zt _ _ _ _ 42 _ [] (z, q15, J, G)
    refine z_aload_n dX11_feed_42 rfl ?_
    refine z_nm (fun hN18 => ?_)
    refine y_getI dX11_feed_43 cl11 sh_296 (by decide) (Nat.le_trans (by decide) hz) 2 rfl rfl (fl_M_202) ?_
    obtain rfl := someE h
    exact z_iret dX11_feed_46 hE (hN18.1 296 2) rfl
  replace h := ifF hc2 h
  refine z_iconst dX11_feed_13 ?_
  obtain rfl := someE h
  exact z_iret dX11_feed_14 hE (inRd (x := (-1)) (by decide)) rfl
set_option maxHeartbeats 1000000 in
theorem s_M_back {l : Launch} {g : GX} {z : Nat} {G : Nat → Nat → Nat} {F : Nat} (hz : 353 ≤ z) (hG : lyM G) {x1 : Int} {I J : Nat → Nat → Int} (hx1 : inR x1) {res : Int × MI} (h : f_M_back F x1 I J = some res) : Spec l g 0 yX11_back cX11_back 2 (some .int) [vR g 296, vI x1] (z, I, J, G) (some (vI res.1)) (inR res.1) (z, res.2, J, G) := by
  refine spec_of (μ := mu_M_back) (k := 0) (L0 := [some (vR g 296), some (vI x1)]) rfl mw_M_back rfl rfl (Nat.le_refl _) (fun φ hb hE => ?_)
  refine z_iload_n dX11_back_0 rfl ?_
  refine z_if_lt (tgt := 12) dX11_back_1 (by decide) hx1 (fun hc1 => ?_) (fun hc1 => ?_)
  · replace h := ifT hc1 h
    refine z_iconst dX11_back_12 ?_
    obtain rfl := someE h
    exact z_iret dX11_back_13 hE (inRd (x := (-1)) (by decide)) rfl
  replace h := ifF hc1 h
  refine z_iload_n dX11_back_4 rfl ?_
  refine z_aload_n dX11_back_5 rfl ?_
  refine z_nm (fun hN2 => ?_)
  refine y_getI dX11_back_6 cl11 sh_296 (by decide) (Nat.le_trans (by decide) hz) 2 rfl rfl (fl_M_202) ?_
  refine z_icmp_le (tgt := 14) dX11_back_9 (by decide) hx1 (hN2.1 296 2) (fun hc3 => ?_) (fun hc3 => ?_)
  · replace h := ifT hc3 h
    refine z_aload_n dX11_back_14 rfl ?_
    refine z_dup dX11_back_15 rfl ?_
    refine y_getI dX11_back_16 cl11 sh_296 (by decide) (Nat.le_trans (by decide) hz) 2 rfl rfl (fl_M_202) ?_
    refine z_iload_n dX11_back_19 rfl ?_
    refine z_isub dX11_back_20 ?_
    refine y_putI dX11_back_21 cl11 sh_296 (by decide) (Nat.le_trans (by decide) hz) 2 rfl rfl rfl (fl_M_202) rfl rfl (inR_w32 _) ?_
    refine z_aload_n dX11_back_24 rfl ?_
    refine z_nm (fun hN4 => ?_)
    refine y_getI dX11_back_25 cl11 sh_296 (by decide) (Nat.le_trans (by decide) hz) 2 rfl rfl (fl_M_202) ?_
    obtain rfl := someE h
    exact z_iret dX11_back_28 hE (hN4.1 296 2) rfl
  replace h := ifF hc3 h
  refine z_iconst dX11_back_12 ?_
  obtain rfl := someE h
  exact z_iret dX11_back_13 hE (inRd (x := (-1)) (by decide)) rfl
set_option maxHeartbeats 1000000 in
theorem s_M_byteAt {l : Launch} {g : GX} {z : Nat} {G : Nat → Nat → Nat} {F : Nat} (hz : 353 ≤ z) (hG : lyM G) {x1 : Int} {I J : Nat → Nat → Int} (hx1 : inR x1) {res : Int} (h : f_M_byteAt F x1 I J = some res) : Spec l g 0 yX11_byteAt cX11_byteAt 2 (some .int) [vR g 296, vI x1] (z, I, J, G) (some (vI res)) (inR res) (z, I, J, G) := by
  refine spec_of (μ := mu_M_byteAt) (k := 0) (L0 := [some (vR g 296), some (vI x1)]) rfl mw_M_byteAt rfl rfl (Nat.le_refl _) (fun φ hb hE => ?_)
  refine z_iload_n dX11_byteAt_0 rfl ?_
  refine z_aload_n dX11_byteAt_1 rfl ?_
  refine z_nm (fun hN1 => ?_)
  refine y_getI dX11_byteAt_2 cl11 sh_296 (by decide) (Nat.le_trans (by decide) hz) 4 rfl rfl (fl_M_208) ?_
  refine z_icmp_ge (tgt := 21) dX11_byteAt_5 (by decide) hx1 (hN1.1 296 4) (fun hc2 => ?_) (fun hc2 => ?_)
  · replace h := ifT hc2 h
    refine z_iconst dX11_byteAt_21 ?_
    obtain rfl := someE h
    exact z_iret dX11_byteAt_22 hE (inRd (x := 0) (by decide)) rfl
  replace h := ifF hc2 h
  refine z_aload_n dX11_byteAt_8 rfl ?_
  refine y_getR dX11_byteAt_9 cl11 sh_296 (by decide) (Nat.le_trans (by decide) hz) 3 rfl rfl (fl_M_17) (ly_296_3 hG) (by decide) ?_
  refine z_iload_n dX11_byteAt_12 rfl ?_
  obtain ⟨hg3, h⟩ := guardE h
  refine y_bald dX11_byteAt_13 sh_298 (by decide) (Nat.le_trans (by decide) hz) hx1 hg3 ?_
  refine z_sipush dX11_byteAt_14 (by decide +kernel) ?_
  refine z_iand dX11_byteAt_17 ?_
  refine z_goto (tgt := 22) dX11_byteAt_18 (by decide) ?_
  obtain rfl := someE h
  exact z_iret dX11_byteAt_22 hE inR_and rfl
set_option maxHeartbeats 1000000 in
theorem s_M_isDigit {l : Launch} {g : GX} {z : Nat} {G : Nat → Nat → Nat} {F : Nat} (hz : 353 ≤ z) (hG : lyM G) {x0 : Int} {I J : Nat → Nat → Int} (hx0 : inR x0) {res : Int} (h : f_M_isDigit F x0 I J = some res) : Spec l g 0 yX11_isDigit cX11_isDigit 1 (some .boolean) [vI x0] (z, I, J, G) (some (vI res)) (res = 0 ∨ res = 1) (z, I, J, G) := by
  refine spec_of (μ := mu_M_isDigit) (k := 0) (L0 := [some (vI x0)]) rfl mw_M_isDigit rfl rfl (Nat.le_refl _) (fun φ hb hE => ?_)
  refine z_iload_n dX11_isDigit_0 rfl ?_
  refine z_bipush dX11_isDigit_1 (by decide +kernel) ?_
  refine z_icmp_lt (tgt := 16) dX11_isDigit_3 (by decide) hx0 (inRd (x := 48) (by decide)) (fun hc1 => ?_) (fun hc1 => ?_)
  · replace h := ifT hc1 h
    refine z_iconst dX11_isDigit_16 ?_
    obtain rfl := someE h
    exact z_zret dX11_isDigit_17 hE b01_0 b01_0 rfl
  replace h := ifF hc1 h
  refine z_iload_n dX11_isDigit_6 rfl ?_
  refine z_bipush dX11_isDigit_7 (by decide +kernel) ?_
  refine z_icmp_gt (tgt := 16) dX11_isDigit_9 (by decide) hx0 (inRd (x := 57) (by decide)) (fun hc2 => ?_) (fun hc2 => ?_)
  · replace h := ifT hc2 h
    refine z_iconst dX11_isDigit_16 ?_
    obtain rfl := someE h
    exact z_zret dX11_isDigit_17 hE b01_0 b01_0 rfl
  replace h := ifF hc2 h
  refine z_iconst dX11_isDigit_12 ?_
  refine z_goto (tgt := 17) dX11_isDigit_13 (by decide) ?_
  obtain rfl := someE h
  exact z_zret dX11_isDigit_17 hE b01_1 b01_1 rfl
set_option maxHeartbeats 1000000 in
theorem s_M_isLetter {l : Launch} {g : GX} {z : Nat} {G : Nat → Nat → Nat} {F : Nat} (hz : 353 ≤ z) (hG : lyM G) {x0 : Int} {I J : Nat → Nat → Int} (hx0 : inR x0) {res : Int} (h : f_M_isLetter F x0 I J = some res) : Spec l g 0 yX11_isLetter cX11_isLetter 1 (some .boolean) [vI x0] (z, I, J, G) (some (vI res)) (res = 0 ∨ res = 1) (z, I, J, G) := by
  refine spec_of (μ := mu_M_isLetter) (k := 0) (L0 := [some (vI x0)]) rfl mw_M_isLetter rfl rfl (Nat.le_refl _) (fun φ hb hE => ?_)
  refine z_iload_n dX11_isLetter_0 rfl ?_
  refine z_bipush dX11_isLetter_1 (by decide +kernel) ?_
  refine z_icmp_lt (tgt := 16) dX11_isLetter_3 (by decide) hx0 (inRd (x := 97) (by decide)) (fun hc1 => ?_) (fun hc1 => ?_)
  · replace h := ifT hc1 h
    refine z_iconst dX11_isLetter_16 ?_
    obtain rfl := someE h
    exact z_zret dX11_isLetter_17 hE b01_0 b01_0 rfl
  replace h := ifF hc1 h
  refine z_iload_n dX11_isLetter_6 rfl ?_
  refine z_bipush dX11_isLetter_7 (by decide +kernel) ?_
  refine z_icmp_gt (tgt := 16) dX11_isLetter_9 (by decide) hx0 (inRd (x := 122) (by decide)) (fun hc2 => ?_) (fun hc2 => ?_)
  · replace h := ifT hc2 h
    refine z_iconst dX11_isLetter_16 ?_
    obtain rfl := someE h
    exact z_zret dX11_isLetter_17 hE b01_0 b01_0 rfl
  replace h := ifF hc2 h
  refine z_iconst dX11_isLetter_12 ?_
  refine z_goto (tgt := 17) dX11_isLetter_13 (by decide) ?_
  obtain rfl := someE h
  exact z_zret dX11_isLetter_17 hE b01_1 b01_1 rfl
set_option maxHeartbeats 1000000 in
theorem s_M_appends {l : Launch} {g : GX} {z : Nat} {G : Nat → Nat → Nat} {F : Nat} (hz : 353 ≤ z) (hG : lyM G) {x0 : Int} {x2 : Int} {I J : Nat → Nat → Int} (hx0 : inL x0) (hx2 : inR x2) {res : Int} (h : f_M_appends F x0 x2 I J = some res) : Spec l g 0 yX11_appends cX11_appends 3 (some .long) [vL x0, vI x2] (z, I, J, G) (some (vL res)) (inL res) (z, I, J, G) := by
  refine spec_of (μ := mu_M_appends) (k := 0) (L0 := [some (vL x0), none, some (vI x2)]) rfl mw_M_appends rfl rfl (Nat.le_refl _) (fun φ hb hE => ?_)
  refine z_iload_n dX11_appends_0 rfl ?_
  refine z_if_ne (tgt := 8) dX11_appends_1 (by decide) hx2 (fun hc1 => ?_) (fun hc1 => ?_)
  · replace h := ifT hc1 h
    refine z_ldc2 (n := 27) dX11_appends_8 (tin5 172 (by decide +kernel) rfl) ?_
    refine z_lload_n dX11_appends_11 rfl ?_
    refine z_lmul dX11_appends_12 ?_
    refine z_iload_n dX11_appends_13 rfl ?_
    refine z_bipush dX11_appends_14 (by decide +kernel) ?_
    refine z_isub dX11_appends_16 ?_
    refine z_iconst dX11_appends_17 ?_
    refine z_iadd dX11_appends_18 ?_
    refine z_i2l dX11_appends_19 ?_
    refine z_ladd dX11_appends_20 ?_
    obtain rfl := someE h
    exact z_lret dX11_appends_21 hE (inL_w64 _) rfl
  replace h := ifF (fun q => q hc1) h
  refine z_lload_n dX11_appends_4 rfl ?_
  refine z_goto (tgt := 21) dX11_appends_5 (by decide) ?_
  obtain rfl := someE h
  exact z_lret dX11_appends_21 hE hx0 rfl
set_option maxHeartbeats 1000000 in
theorem s_M_word {l : Launch} {g : GX} {z : Nat} {G : Nat → Nat → Nat} {F : Nat} (hz : 353 ≤ z) (hG : lyM G) {x0 : Int} {x1 : Int} {x2 : Int} {x3 : Int} {x4 : Int} {x5 : Int} {x6 : Int} {I J : Nat → Nat → Int} (hx0 : inR x0) (hx1 : inR x1) (hx2 : inR x2) (hx3 : inR x3) (hx4 : inR x4) (hx5 : inR x5) (hx6 : inR x6) {res : Int} (h : f_M_word F x0 x1 x2 x3 x4 x5 x6 I J = some res) : Spec l g 1 yX11_word cX11_word 7 (some .long) [vI x0, vI x1, vI x2, vI x3, vI x4, vI x5, vI x6] (z, I, J, G) (some (vL res)) (inL res) (z, I, J, G) := by
  refine spec_of (μ := mu_M_word) (k := 0) (L0 := [some (vI x0), some (vI x1), some (vI x2), some (vI x3), some (vI x4), some (vI x5), some (vI x6)]) rfl mw_M_word rfl rfl (Nat.le_refl _) (fun φ hb hE => ?_)
  refine z_lconst0 dX11_word_0 ?_
  refine z_iload_n dX11_word_1 rfl ?_
  obtain ⟨q1, hq2, h⟩ := bindE h
  refine z_callS (As := [vL 0, vI x0]) (rest := []) (s_M_appends hz hG (inLd (x := 0) (by decide)) hx0 hq2) dX11_word_2 mw_M_appends ml_M_213 st_M_appends rfl rfl rfl rfl (Nat.le_refl _) (Nat.le_of_eq hb.symm) (fun hp3 => ?_)
  show Zt _ _ _ _ 5 _ [vL q1] (z, I, J, G)
  refine z_iload_n dX11_word_5 rfl ?_
  obtain ⟨q4, hq5, h⟩ := bindE h
  refine z_callS (As := [vL q1, vI x1]) (rest := []) (s_M_appends hz hG hp3 hx1 hq5) dX11_word_6 mw_M_appends ml_M_213 st_M_appends rfl rfl rfl rfl (Nat.le_refl _) (Nat.le_of_eq hb.symm) (fun hp6 => ?_)
  show Zt _ _ _ _ 9 _ [vL q4] (z, I, J, G)
  refine z_iload_n dX11_word_9 rfl ?_
  obtain ⟨q7, hq8, h⟩ := bindE h
  refine z_callS (As := [vL q4, vI x2]) (rest := []) (s_M_appends hz hG hp6 hx2 hq8) dX11_word_10 mw_M_appends ml_M_213 st_M_appends rfl rfl rfl rfl (Nat.le_refl _) (Nat.le_of_eq hb.symm) (fun hp9 => ?_)
  show Zt _ _ _ _ 13 _ [vL q7] (z, I, J, G)
  refine z_iload_n dX11_word_13 rfl ?_
  obtain ⟨q10, hq11, h⟩ := bindE h
  refine z_callS (As := [vL q7, vI x3]) (rest := []) (s_M_appends hz hG hp9 hx3 hq11) dX11_word_14 mw_M_appends ml_M_213 st_M_appends rfl rfl rfl rfl (Nat.le_refl _) (Nat.le_of_eq hb.symm) (fun hp12 => ?_)
  show Zt _ _ _ _ 17 _ [vL q10] (z, I, J, G)
  refine z_iload dX11_word_17 rfl ?_
  obtain ⟨q13, hq14, h⟩ := bindE h
  refine z_callS (As := [vL q10, vI x4]) (rest := []) (s_M_appends hz hG hp12 hx4 hq14) dX11_word_19 mw_M_appends ml_M_213 st_M_appends rfl rfl rfl rfl (Nat.le_refl _) (Nat.le_of_eq hb.symm) (fun hp15 => ?_)
  show Zt _ _ _ _ 22 _ [vL q13] (z, I, J, G)
  refine z_iload dX11_word_22 rfl ?_
  obtain ⟨q16, hq17, h⟩ := bindE h
  refine z_callS (As := [vL q13, vI x5]) (rest := []) (s_M_appends hz hG hp15 hx5 hq17) dX11_word_24 mw_M_appends ml_M_213 st_M_appends rfl rfl rfl rfl (Nat.le_refl _) (Nat.le_of_eq hb.symm) (fun hp18 => ?_)
  show Zt _ _ _ _ 27 _ [vL q16] (z, I, J, G)
  refine z_iload dX11_word_27 rfl ?_
  obtain ⟨q19, hq20, h⟩ := bindE h
  refine z_callS (As := [vL q16, vI x6]) (rest := []) (s_M_appends hz hG hp18 hx6 hq20) dX11_word_29 mw_M_appends ml_M_213 st_M_appends rfl rfl rfl rfl (Nat.le_refl _) (Nat.le_of_eq hb.symm) (fun hp21 => ?_)
  show Zt _ _ _ _ 32 _ [vL q19] (z, I, J, G)
  obtain rfl := someE h
  exact z_lret dX11_word_32 hE hp21 rfl
set_option maxHeartbeats 1000000 in
theorem s_M_token {l : Launch} {g : GX} {z : Nat} {G : Nat → Nat → Nat} {F : Nat} (hz : 353 ≤ z) (hG : lyM G) {x1 : Int} {x2 : Int} {x3 : Int} {x4 : Int} {I J : Nat → Nat → Int} (hx1 : inR x1) (hx2 : inR x2) (hx3 : inR x3) (hx4 : inL x4) {res : MI × MI} (h : f_M_token F x1 x2 x3 x4 I J = some res) : Spec l g 0 yX11_token cX11_token 6 none [vR g 296, vI x1, vI x2, vI x3, vL x4] (z, I, J, G) none True (z, res.1, res.2, G) := by
  refine spec_of (μ := mu_M_token) (k := 0) (L0 := [some (vR g 296), some (vI x1), some (vI x2), some (vI x3), some (vL x4), none]) rfl mw_M_token rfl rfl (Nat.le_refl _) (fun φ hb hE => ?_)
  refine z_aload_n dX11_token_0 rfl ?_
  refine y_getR dX11_token_1 cl11 sh_296 (by decide) (Nat.le_trans (by decide) hz) 5 rfl rfl (fl_M_20) (ly_296_5 hG) (by decide) ?_
  refine z_aload_n dX11_token_4 rfl ?_
  refine z_nm (fun hN1 => ?_)
  refine y_getI dX11_token_5 cl11 sh_296 (by decide) (Nat.le_trans (by decide) hz) 10 rfl rfl (fl_M_217) ?_
  refine z_iload_n dX11_token_8 rfl ?_
  obtain ⟨hg2, h⟩ := guardE h
  refine y_iast dX11_token_9 sh_299 (by decide) (Nat.le_trans (by decide) hz) (hN1.1 296 10) hg2 hx1 ?_
  refine z_aload_n dX11_token_10 rfl ?_
  refine y_getR dX11_token_11 cl11 sh_296 (by decide) (Nat.le_trans (by decide) hz) 6 rfl rfl (fl_M_24) (ly_296_6 hG) (by decide) ?_
  refine z_aload_n dX11_token_14 rfl ?_
  refine z_nm (fun hN3 => ?_)
  refine y_getI dX11_token_15 cl11 sh_296 (by decide) (Nat.le_trans (by decide) hz) 10 rfl rfl (fl_M_217) ?_
  refine z_iload_n dX11_token_18 rfl ?_
  obtain ⟨hg4, h⟩ := guardE h
  refine y_iast dX11_token_19 sh_300 (by decide) (Nat.le_trans (by decide) hz) (hN3.1 296 10) hg4 hx2 ?_
  refine z_aload_n dX11_token_20 rfl ?_
  refine y_getR dX11_token_21 cl11 sh_296 (by decide) (Nat.le_trans (by decide) hz) 7 rfl rfl (fl_M_27) (ly_296_7 hG) (by decide) ?_
  refine z_aload_n dX11_token_24 rfl ?_
  refine z_nm (fun hN5 => ?_)
  refine y_getI dX11_token_25 cl11 sh_296 (by decide) (Nat.le_trans (by decide) hz) 10 rfl rfl (fl_M_217) ?_
  refine z_iload_n dX11_token_28 rfl ?_
  obtain ⟨hg6, h⟩ := guardE h
  refine y_iast dX11_token_29 sh_301 (by decide) (Nat.le_trans (by decide) hz) (hN5.1 296 10) hg6 hx3 ?_
  refine z_aload_n dX11_token_30 rfl ?_
  refine y_getR dX11_token_31 cl11 sh_296 (by decide) (Nat.le_trans (by decide) hz) 8 rfl rfl (fl_M_30) (ly_296_8 hG) (by decide) ?_
  refine z_aload_n dX11_token_34 rfl ?_
  refine z_nm (fun hN7 => ?_)
  refine y_getI dX11_token_35 cl11 sh_296 (by decide) (Nat.le_trans (by decide) hz) 10 rfl rfl (fl_M_217) ?_
  refine z_lload dX11_token_38 rfl ?_
  obtain ⟨hg8, h⟩ := guardE h
  refine y_last dX11_token_40 sh_302 (by decide) (Nat.le_trans (by decide) hz) (hN7.1 296 10) hg8 hx4 ?_
  refine z_aload_n dX11_token_41 rfl ?_
  refine z_dup dX11_token_42 rfl ?_
  refine z_nm (fun hN9 => ?_)
  refine y_getI dX11_token_43 cl11 sh_296 (by decide) (Nat.le_trans (by decide) hz) 10 rfl rfl (fl_M_217) ?_
  refine z_iconst dX11_token_46 ?_
  refine z_iadd dX11_token_47 ?_
  refine y_putI dX11_token_48 cl11 sh_296 (by decide) (Nat.le_trans (by decide) hz) 10 rfl rfl rfl (fl_M_217) rfl rfl (inR_w32 _) ?_
  obtain rfl := someE h
  exact z_vret dX11_token_51 hE trivial rfl
set_option maxHeartbeats 1000000 in
theorem t_M_sign_b95 {l : Launch} {g : GX} {φ : CX} {z : Nat} {G : Nat → Nat → Nat} {F : Nat} (hb : cb φ = z) (hz : 353 ≤ z) (hG : lyM G) {x1 : Int} {x4 : Int} {I J : Nat → Nat → Int} (hx1 : inR x1) (hx4 : inR x4) {res : Int × MI × MI} (h : f_M_sign_b95 F x1 x4 I J = some res) (hE : ends g φ (some .int) (some (vI res.1)) (inR res.1) (z, res.2.1, res.2.2, G)) : Zt l g φ mu_M_sign 95 [some (vR g 296), some (vI x1), none, none, some (vI x4)] [] (z, I, J, G) := by
  refine z_aload_n dX11_sign_95 rfl ?_
  refine z_iload dX11_sign_96 rfl ?_
  refine z_iload_n dX11_sign_98 rfl ?_
  refine z_iconst dX11_sign_99 ?_
  refine z_lconst0 dX11_sign_100 ?_
  obtain ⟨q10, hq11, h⟩ := bindE h
  refine z_callV (As := [vI x4, vI x1, vI 0, vL 0]) (rest := []) (s_M_token hz hG hx4 hx1 (inRd (x := 0) (by decide)) (inLd (x := 0) (by decide)) hq11) dX11_sign_101 mw_M_token cl11 sh_296 (by decide) (Nat.le_trans (by decide) hz) ml_M_224 im_M_token se_M_token rfl rfl rfl rfl (Nat.le_refl _) (Nat.le_of_eq hb.symm) (fun hp12 => ?_)
  show Zt _ _ _ _ 104 _ [] (z, q10.1, q10.2, G)
  refine z_iconst dX11_sign_104 ?_
  obtain rfl := someE h
  exact z_iret dX11_sign_105 hE (inRd (x := 1) (by decide)) rfl
set_option maxHeartbeats 1000000 in
theorem t_M_sign_b85 {l : Launch} {g : GX} {φ : CX} {z : Nat} {G : Nat → Nat → Nat} {F : Nat} (hb : cb φ = z) (hz : 353 ≤ z) (hG : lyM G) {x1 : Int} {x2 : Int} {x4 : Int} {I J : Nat → Nat → Int} (hx1 : inR x1) (hx2 : inR x2) (hx4 : inR x4) {res : Int × MI × MI} (h : f_M_sign_b85 F x1 x2 x4 I J = some res) (hE : ends g φ (some .int) (some (vI res.1)) (inR res.1) (z, res.2.1, res.2.2, G)) : Zt l g φ mu_M_sign 85 [some (vR g 296), some (vI x1), some (vI x2), none, some (vI x4)] [] (z, I, J, G) := by
  refine z_iload_n dX11_sign_85 rfl ?_
  refine z_bipush dX11_sign_86 (by decide +kernel) ?_
  refine z_icmp_ne (tgt := 95) dX11_sign_88 (by decide) hx2 (inRd (x := 60) (by decide)) (fun hc9 => ?_) (fun hc9 => ?_)
  · replace h := ifT hc9 h
    refine z_weak (L' := [some (vR g 296), some (vI x1), none, none, some (vI x4)]) (lsS (lsS (lsN (lsN (lsS ls0))))) ?_
    exact t_M_sign_b95 hb hz hG hx1 hx4 h hE
  replace h := ifF (fun q => q hc9) h
  refine z_bipush dX11_sign_91 (by decide +kernel) ?_
  refine z_istore (L' := [some (vR g 296), some (vI x1), some (vI x2), none, some (vI 13)]) dX11_sign_93 rfl rfl rfl ?_
  refine z_weak (L' := [some (vR g 296), some (vI x1), none, none, some (vI 13)]) (lsS (lsS (lsN (lsN (lsS ls0))))) ?_
  exact t_M_sign_b95 hb hz hG hx1 (inRd (x := 13) (by decide)) h hE
set_option maxHeartbeats 1000000 in
theorem t_M_sign_b75 {l : Launch} {g : GX} {φ : CX} {z : Nat} {G : Nat → Nat → Nat} {F : Nat} (hb : cb φ = z) (hz : 353 ≤ z) (hG : lyM G) {x1 : Int} {x2 : Int} {x4 : Int} {I J : Nat → Nat → Int} (hx1 : inR x1) (hx2 : inR x2) (hx4 : inR x4) {res : Int × MI × MI} (h : f_M_sign_b75 F x1 x2 x4 I J = some res) (hE : ends g φ (some .int) (some (vI res.1)) (inR res.1) (z, res.2.1, res.2.2, G)) : Zt l g φ mu_M_sign 75 [some (vR g 296), some (vI x1), some (vI x2), none, some (vI x4)] [] (z, I, J, G) := by
  refine z_iload_n dX11_sign_75 rfl ?_
  refine z_bipush dX11_sign_76 (by decide +kernel) ?_
  refine z_icmp_ne (tgt := 85) dX11_sign_78 (by decide) hx2 (inRd (x := 47) (by decide)) (fun hc8 => ?_) (fun hc8 => ?_)
  · replace h := ifT hc8 h
    exact t_M_sign_b85 hb hz hG hx1 hx2 hx4 h hE
  replace h := ifF (fun q => q hc8) h
  refine z_bipush dX11_sign_81 (by decide +kernel) ?_
  refine z_istore (L' := [some (vR g 296), some (vI x1), some (vI x2), none, some (vI 15)]) dX11_sign_83 rfl rfl rfl ?_
  exact t_M_sign_b85 hb hz hG hx1 hx2 (inRd (x := 15) (by decide)) h hE
set_option maxHeartbeats 1000000 in
theorem t_M_sign_b65 {l : Launch} {g : GX} {φ : CX} {z : Nat} {G : Nat → Nat → Nat} {F : Nat} (hb : cb φ = z) (hz : 353 ≤ z) (hG : lyM G) {x1 : Int} {x2 : Int} {x4 : Int} {I J : Nat → Nat → Int} (hx1 : inR x1) (hx2 : inR x2) (hx4 : inR x4) {res : Int × MI × MI} (h : f_M_sign_b65 F x1 x2 x4 I J = some res) (hE : ends g φ (some .int) (some (vI res.1)) (inR res.1) (z, res.2.1, res.2.2, G)) : Zt l g φ mu_M_sign 65 [some (vR g 296), some (vI x1), some (vI x2), none, some (vI x4)] [] (z, I, J, G) := by
  refine z_iload_n dX11_sign_65 rfl ?_
  refine z_bipush dX11_sign_66 (by decide +kernel) ?_
  refine z_icmp_ne (tgt := 75) dX11_sign_68 (by decide) hx2 (inRd (x := 42) (by decide)) (fun hc7 => ?_) (fun hc7 => ?_)
  · replace h := ifT hc7 h
    exact t_M_sign_b75 hb hz hG hx1 hx2 hx4 h hE
  replace h := ifF (fun q => q hc7) h
  refine z_bipush dX11_sign_71 (by decide +kernel) ?_
  refine z_istore (L' := [some (vR g 296), some (vI x1), some (vI x2), none, some (vI 10)]) dX11_sign_73 rfl rfl rfl ?_
  exact t_M_sign_b75 hb hz hG hx1 hx2 (inRd (x := 10) (by decide)) h hE
set_option maxHeartbeats 1000000 in
theorem t_M_sign_b55 {l : Launch} {g : GX} {φ : CX} {z : Nat} {G : Nat → Nat → Nat} {F : Nat} (hb : cb φ = z) (hz : 353 ≤ z) (hG : lyM G) {x1 : Int} {x2 : Int} {x4 : Int} {I J : Nat → Nat → Int} (hx1 : inR x1) (hx2 : inR x2) (hx4 : inR x4) {res : Int × MI × MI} (h : f_M_sign_b55 F x1 x2 x4 I J = some res) (hE : ends g φ (some .int) (some (vI res.1)) (inR res.1) (z, res.2.1, res.2.2, G)) : Zt l g φ mu_M_sign 55 [some (vR g 296), some (vI x1), some (vI x2), none, some (vI x4)] [] (z, I, J, G) := by
  refine z_iload_n dX11_sign_55 rfl ?_
  refine z_bipush dX11_sign_56 (by decide +kernel) ?_
  refine z_icmp_ne (tgt := 65) dX11_sign_58 (by decide) hx2 (inRd (x := 45) (by decide)) (fun hc6 => ?_) (fun hc6 => ?_)
  · replace h := ifT hc6 h
    exact t_M_sign_b65 hb hz hG hx1 hx2 hx4 h hE
  replace h := ifF (fun q => q hc6) h
  refine z_bipush dX11_sign_61 (by decide +kernel) ?_
  refine z_istore (L' := [some (vR g 296), some (vI x1), some (vI x2), none, some (vI 9)]) dX11_sign_63 rfl rfl rfl ?_
  exact t_M_sign_b65 hb hz hG hx1 hx2 (inRd (x := 9) (by decide)) h hE
set_option maxHeartbeats 1000000 in
theorem t_M_sign_b43 {l : Launch} {g : GX} {φ : CX} {z : Nat} {G : Nat → Nat → Nat} {F : Nat} (hb : cb φ = z) (hz : 353 ≤ z) (hG : lyM G) {x1 : Int} {x2 : Int} {s0 : Int} {I J : Nat → Nat → Int} (hx1 : inR x1) (hx2 : inR x2) (hs0 : inR s0) {res : Int × MI × MI} (h : f_M_sign_b43 F x1 x2 s0 I J = some res) (hE : ends g φ (some .int) (some (vI res.1)) (inR res.1) (z, res.2.1, res.2.2, G)) : Zt l g φ mu_M_sign 43 [some (vR g 296), some (vI x1), some (vI x2), none, none] [vI s0] (z, I, J, G) := by
  refine z_istore (L' := [some (vR g 296), some (vI x1), some (vI x2), none, some (vI s0)]) dX11_sign_43 rfl rfl rfl ?_
  refine z_iload_n dX11_sign_45 rfl ?_
  refine z_bipush dX11_sign_46 (by decide +kernel) ?_
  refine z_icmp_ne (tgt := 55) dX11_sign_48 (by decide) hx2 (inRd (x := 43) (by decide)) (fun hc5 => ?_) (fun hc5 => ?_)
  · replace h := ifT hc5 h
    exact t_M_sign_b55 hb hz hG hx1 hx2 hs0 h hE
  replace h := ifF (fun q => q hc5) h
  refine z_bipush dX11_sign_51 (by decide +kernel) ?_
  refine z_istore (L' := [some (vR g 296), some (vI x1), some (vI x2), none, some (vI 8)]) dX11_sign_53 rfl rfl rfl ?_
  exact t_M_sign_b55 hb hz hG hx1 hx2 (inRd (x := 8) (by decide)) h hE
set_option maxHeartbeats 1000000 in
theorem s_M_sign {l : Launch} {g : GX} {z : Nat} {G : Nat → Nat → Nat} {F : Nat} (hz : 353 ≤ z) (hG : lyM G) {x1 : Int} {x2 : Int} {x3 : Int} {I J : Nat → Nat → Int} (hx1 : inR x1) (hx2 : inR x2) (hx3 : inR x3) {res : Int × MI × MI} (h : f_M_sign F x1 x2 x3 I J = some res) : Spec l g 1 yX11_sign cX11_sign 5 (some .int) [vR g 296, vI x1, vI x2, vI x3] (z, I, J, G) (some (vI res.1)) (inR res.1) (z, res.2.1, res.2.2, G) := by
  refine spec_of (μ := mu_M_sign) (k := 1) (L0 := [some (vR g 296), some (vI x1), some (vI x2), some (vI x3), none]) rfl mw_M_sign rfl rfl (Nat.le_refl _) (fun φ hb hE => ?_)
  refine z_iload_n dX11_sign_0 rfl ?_
  refine z_bipush dX11_sign_1 (by decide +kernel) ?_
  refine z_icmp_ne (tgt := 10) dX11_sign_3 (by decide) hx2 (inRd (x := 59) (by decide)) (fun hc1 => ?_) (fun hc1 => ?_)
  · replace h := ifT hc1 h
    refine z_iload_n dX11_sign_10 rfl ?_
    refine z_bipush dX11_sign_11 (by decide +kernel) ?_
    refine z_icmp_ne (tgt := 20) dX11_sign_13 (by decide) hx2 (inRd (x := 61) (by decide)) (fun hc2 => ?_) (fun hc2 => ?_)
    · replace h := ifT hc2 h
      refine z_iload_n dX11_sign_20 rfl ?_
      refine z_bipush dX11_sign_21 (by decide +kernel) ?_
      refine z_icmp_ne (tgt := 31) dX11_sign_23 (by decide) hx2 (inRd (x := 40) (by decide)) (fun hc3 => ?_) (fun hc3 => ?_)
      · replace h := ifT hc3 h
        refine z_iload_n dX11_sign_31 rfl ?_
        refine z_bipush dX11_sign_32 (by decide +kernel) ?_
        refine z_icmp_ne (tgt := 42) dX11_sign_34 (by decide) hx2 (inRd (x := 41) (by decide)) (fun hc4 => ?_) (fun hc4 => ?_)
        · replace h := ifT hc4 h
          refine z_iconst dX11_sign_42 ?_
          refine z_weak (L' := [some (vR g 296), some (vI x1), some (vI x2), none, none]) (lsS (lsS (lsS (lsN (lsN ls0))))) ?_
          exact t_M_sign_b43 hb hz hG hx1 hx2 (inRd (x := 3) (by decide)) h hE
        replace h := ifF (fun q => q hc4) h
        refine z_bipush dX11_sign_37 (by decide +kernel) ?_
        refine z_goto (tgt := 43) dX11_sign_39 (by decide) ?_
        refine z_weak (L' := [some (vR g 296), some (vI x1), some (vI x2), none, none]) (lsS (lsS (lsS (lsN (lsN ls0))))) ?_
        exact t_M_sign_b43 hb hz hG hx1 hx2 (inRd (x := 7) (by decide)) h hE
      replace h := ifF (fun q => q hc3) h
      refine z_bipush dX11_sign_26 (by decide +kernel) ?_
      refine z_goto (tgt := 43) dX11_sign_28 (by decide) ?_
      refine z_weak (L' := [some (vR g 296), some (vI x1), some (vI x2), none, none]) (lsS (lsS (lsS (lsN (lsN ls0))))) ?_
      exact t_M_sign_b43 hb hz hG hx1 hx2 (inRd (x := 6) (by decide)) h hE
    replace h := ifF (fun q => q hc2) h
    refine z_iconst dX11_sign_16 ?_
    refine z_goto (tgt := 43) dX11_sign_17 (by decide) ?_
    refine z_weak (L' := [some (vR g 296), some (vI x1), some (vI x2), none, none]) (lsS (lsS (lsS (lsN (lsN ls0))))) ?_
    exact t_M_sign_b43 hb hz hG hx1 hx2 (inRd (x := 5) (by decide)) h hE
  replace h := ifF (fun q => q hc1) h
  refine z_iconst dX11_sign_6 ?_
  refine z_goto (tgt := 43) dX11_sign_7 (by decide) ?_
  refine z_weak (L' := [some (vR g 296), some (vI x1), some (vI x2), none, none]) (lsS (lsS (lsS (lsN (lsN ls0))))) ?_
  exact t_M_sign_b43 hb hz hG hx1 hx2 (inRd (x := 4) (by decide)) h hE
set_option maxHeartbeats 1000000 in
theorem t_M_cut_L208 {l : Launch} {g : GX} {φ : CX} {z : Nat} {G : Nat → Nat → Nat} {F : Nat} (hb : cb φ = z) (hz : 353 ≤ z) (hG : lyM G) {x1 : Int} {x3 : Int} {x4 : Int} {I J : Nat → Nat → Int} (hx1 : inR x1) (hx3 : inR x3) (hx4 : inR x4) {res : (Int × Int) ⊕ (Int × Int)} (h : f_M_cut_L208 F x1 x3 x4 I J = some res) (kE : ∀ e : Int × Int, res = .inl e → ((inR e.1 ∧ inR e.2) → Zt l g φ mu_M_cut 250 [some (vR g 296), some (vI x1), none, some (vI e.1), some (vI e.2), none, none, none] [] (z, I, J, G))) (kS : ∀ s : Int × Int, res = .inr s → (inR s.1 ∧ inR s.2) → Zt l g φ mu_M_cut 208 [some (vR g 296), some (vI x1), none, some (vI s.1), some (vI s.2), none, none, none] [] (z, I, J, G)) : Zt l g φ mu_M_cut 208 [some (vR g 296), some (vI x1), none, some (vI x3), some (vI x4), none, none, none] [] (z, I, J, G) := by
  refine z_aload_n dX11_cut_208 rfl ?_
  refine z_iload_n dX11_cut_209 rfl ?_
  refine z_iload_n dX11_cut_210 rfl ?_
  refine z_iadd dX11_cut_211 ?_
  obtain ⟨q25, hq26, h⟩ := bindE h
  refine z_callV (As := [vI (w32 (x1 + x3))]) (rest := []) (s_M_byteAt hz hG (inR_w32 _) hq26) dX11_cut_212 mw_M_byteAt cl11 sh_296 (by decide) (Nat.le_trans (by decide) hz) ml_M_220 im_M_byteAt se_M_byteAt rfl rfl rfl rfl (Nat.le_refl _) (Nat.le_of_eq hb.symm) (fun hp27 => ?_)
  show Zt _ _ _ _ 215 _ [vI q25] (z, I, J, G)
  obtain ⟨q28, hq29, h⟩ := bindE h
  refine z_callS (As := [vI q25]) (rest := []) (s_M_isDigit hz hG hp27 hq29) dX11_cut_215 mw_M_isDigit ml_M_232 st_M_isDigit rfl rfl rfl rfl (Nat.le_refl _) (Nat.le_of_eq hb.symm) (fun hp30 => ?_)
  show Zt _ _ _ _ 218 _ [vI q28] (z, I, J, G)
  refine z_if_eq (tgt := 250) dX11_cut_218 (by decide) (inR_bool hp30) (fun hc31 => ?_) (fun hc31 => ?_)
  · replace h := ifT hc31 h
    exact kE _ (someE h).symm ⟨hx3, hx4⟩
  replace h := ifF hc31 h
  refine z_iload_n dX11_cut_221 rfl ?_
  refine z_iconst dX11_cut_222 ?_
  refine z_icmp_ge (tgt := 244) dX11_cut_223 (by decide) hx3 (inRd (x := 4) (by decide)) (fun hc32 => ?_) (fun hc32 => ?_)
  · replace h := ifT hc32 h
    refine z_iinc (L' := [some (vR g 296), some (vI x1), none, some (vI (w32 (x3 + 1))), some (vI x4), none, none, none]) dX11_cut_244 rfl rfl rfl rfl ?_
    refine z_goto (tgt := 208) dX11_cut_247 (by decide) ?_
    exact kS _ (someE h).symm ⟨(inR_w32 _), hx4⟩
  replace h := ifF hc32 h
  refine z_bipush dX11_cut_226 (by decide +kernel) ?_
  refine z_iload dX11_cut_228 rfl ?_
  refine z_imul dX11_cut_230 ?_
  refine z_aload_n dX11_cut_231 rfl ?_
  refine z_iload_n dX11_cut_232 rfl ?_
  refine z_iload_n dX11_cut_233 rfl ?_
  refine z_iadd dX11_cut_234 ?_
  obtain ⟨q33, hq34, h⟩ := bindE h
  refine z_callV (As := [vI (w32 (x1 + x3))]) (rest := [vI (w32 (10 * x4))]) (s_M_byteAt hz hG (inR_w32 _) hq34) dX11_cut_235 mw_M_byteAt cl11 sh_296 (by decide) (Nat.le_trans (by decide) hz) ml_M_220 im_M_byteAt se_M_byteAt rfl rfl rfl rfl (Nat.le_refl _) (Nat.le_of_eq hb.symm) (fun hp35 => ?_)
  show Zt _ _ _ _ 238 _ [vI q33, vI (w32 (10 * x4))] (z, I, J, G)
  refine z_iadd dX11_cut_238 ?_
  refine z_bipush dX11_cut_239 (by decide +kernel) ?_
  refine z_isub dX11_cut_241 ?_
  refine z_istore (L' := [some (vR g 296), some (vI x1), none, some (vI x3), some (vI (w32 ((w32 ((w32 (10 * x4)) + q33)) - 48))), none, none, none]) dX11_cut_242 rfl rfl rfl ?_
  refine z_iinc (L' := [some (vR g 296), some (vI x1), none, some (vI (w32 (x3 + 1))), some (vI (w32 ((w32 ((w32 (10 * x4)) + q33)) - 48))), none, none, none]) dX11_cut_244 rfl rfl rfl rfl ?_
  refine z_goto (tgt := 208) dX11_cut_247 (by decide) ?_
  exact kS _ (someE h).symm ⟨(inR_w32 _), (inR_w32 _)⟩
theorem l_M_cut_L208 {l : Launch} {g : GX} {φ : CX} {z : Nat} {G : Nat → Nat → Nat} {F : Nat} (hb : cb φ = z) (hz : 353 ≤ z) (hG : lyM G) {x1 : Int} {I : Nat → Nat → Int} {J : Nat → Nat → Int} (hx1 : inR x1) (n : Nat) (s : Int × Int) (e : Int × Int) (h : iter (fun s : Int × Int => f_M_cut_L208 F x1 s.1 s.2 I J) n s = some e) (hs : inR s.1 ∧ inR s.2) (k : ((inR e.1 ∧ inR e.2) → Zt l g φ mu_M_cut 250 [some (vR g 296), some (vI x1), none, some (vI e.1), some (vI e.2), none, none, none] [] (z, I, J, G))) : Zt l g φ mu_M_cut 208 [some (vR g 296), some (vI x1), none, some (vI s.1), some (vI s.2), none, none, none] [] (z, I, J, G) := by
  refine iter_ind (Z := fun s : Int × Int => Zt l g φ mu_M_cut 208 [some (vR g 296), some (vI x1), none, some (vI s.1), some (vI s.2), none, none, none] [] (z, I, J, G)) (ZE := fun e : Int × Int => ((inR e.1 ∧ inR e.2) → Zt l g φ mu_M_cut 250 [some (vR g 296), some (vI x1), none, some (vI e.1), some (vI e.2), none, none, none] [] (z, I, J, G))) (Rg := fun s : Int × Int => inR s.1 ∧ inR s.2) ?_ n s e h hs k
  intro s r hr hst kE kS
  exact t_M_cut_L208 hb hz hG hx1 hr.1 hr.2 hst kE kS
set_option maxHeartbeats 1000000 in
theorem t_M_cut_b261in7 {l : Launch} {g : GX} {φ : CX} {z : Nat} {G : Nat → Nat → Nat} {F : Nat} (hb : cb φ = z) (hz : 353 ≤ z) (hG : lyM G) {x1 : Int} {x3 : Int} {x4 : Int} {s1 : Int} {I J : Nat → Nat → Int} (hx1 : inR x1) (hx3 : inR x3) (hx4 : inR x4) (hs1 : inR s1) {res : ((MI × MI) ⊕ (MI × MI)) ⊕ (Int × MI × MI)} (h : f_M_cut_b261in7 F x1 x3 x4 s1 I J = some res) (kE : ∀ e : (MI × MI) ⊕ (MI × MI), res = .inl e → ((fun w : (MI × MI) ⊕ (MI × MI) => (match w with | .inl e0 => ((True) → Zt l g φ mu_M_cut 31 [some (vR g 296), none, none, none, none, none, none, none] [] (z, e0.1, e0.2, G)) | .inr o0 => ((True) → Zt l g φ mu_M_cut 294 [none, none, none, none, none, none, none, none] [] (z, o0.1, o0.2, G)))) e)) (kS : ∀ s : Int × MI × MI, res = .inr s → (inR s.1) → Zt l g φ mu_M_cut 7 [some (vR g 296), some (vI s.1), none, none, none, none, none, none] [] (z, s.2.1, s.2.2, G)) : Zt l g φ mu_M_cut 261 [some (vR g 296), some (vI x1), none, some (vI x3), some (vI x4), none, none, none] [vI s1, vR g 296] (z, I, J, G) := by
  refine z_iload_n dX11_cut_261 rfl ?_
  refine z_iload dX11_cut_262 rfl ?_
  refine z_lconst0 dX11_cut_264 ?_
  obtain ⟨q40, hq41, h⟩ := bindE h
  refine z_callV (As := [vI s1, vI x1, vI x4, vL 0]) (rest := []) (s_M_token hz hG hs1 hx1 hx4 (inLd (x := 0) (by decide)) hq41) dX11_cut_265 mw_M_token cl11 sh_296 (by decide) (Nat.le_trans (by decide) hz) ml_M_224 im_M_token se_M_token rfl rfl rfl rfl (Nat.le_refl _) (Nat.le_of_eq hb.symm) (fun hp42 => ?_)
  show Zt _ _ _ _ 268 _ [] (z, q40.1, q40.2, G)
  refine z_iload_n dX11_cut_268 rfl ?_
  refine z_iload_n dX11_cut_269 rfl ?_
  refine z_iadd dX11_cut_270 ?_
  refine z_istore_n (L' := [some (vR g 296), some (vI (w32 (x1 + x3))), none, some (vI x3), some (vI x4), none, none, none]) dX11_cut_271 rfl rfl rfl ?_
  refine z_goto (tgt := 291) dX11_cut_272 (by decide) ?_
  refine z_goto (tgt := 7) dX11_cut_291 (by decide) ?_
  refine z_weak (L' := [some (vR g 296), some (vI (w32 (x1 + x3))), none, none, none, none, none, none]) (lsS (lsS (lsN (lsN (lsN (lsN (lsN (lsN ls0)))))))) ?_
  exact kS _ (someE h).symm (inR_w32 _)
set_option maxHeartbeats 1000000 in
theorem t_M_cut_L85 {l : Launch} {g : GX} {φ : CX} {z : Nat} {G : Nat → Nat → Nat} {F : Nat} (hb : cb φ = z) (hz : 353 ≤ z) (hG : lyM G) {x1 : Int} {x3 : Int} {x4 : Int} {I J : Nat → Nat → Int} (hx1 : inR x1) (hx3 : inR x3) (hx4 : inL x4) {res : (Int × Int) ⊕ (Int × Int)} (h : f_M_cut_L85 F x1 x3 x4 I J = some res) (kE : ∀ e : Int × Int, res = .inl e → ((inR e.1 ∧ inL e.2) → Zt l g φ mu_M_cut 124 [some (vR g 296), some (vI x1), none, some (vI e.1), some (vL e.2), none, none, none] [] (z, I, J, G))) (kS : ∀ s : Int × Int, res = .inr s → (inR s.1 ∧ inL s.2) → Zt l g φ mu_M_cut 85 [some (vR g 296), some (vI x1), none, some (vI s.1), some (vL s.2), none, none, none] [] (z, I, J, G)) : Zt l g φ mu_M_cut 85 [some (vR g 296), some (vI x1), none, some (vI x3), some (vL x4), none, none, none] [] (z, I, J, G) := by
  refine z_aload_n dX11_cut_85 rfl ?_
  refine z_iload_n dX11_cut_86 rfl ?_
  refine z_iload_n dX11_cut_87 rfl ?_
  refine z_iadd dX11_cut_88 ?_
  obtain ⟨q43, hq44, h⟩ := bindE h
  refine z_callV (As := [vI (w32 (x1 + x3))]) (rest := []) (s_M_byteAt hz hG (inR_w32 _) hq44) dX11_cut_89 mw_M_byteAt cl11 sh_296 (by decide) (Nat.le_trans (by decide) hz) ml_M_220 im_M_byteAt se_M_byteAt rfl rfl rfl rfl (Nat.le_refl _) (Nat.le_of_eq hb.symm) (fun hp45 => ?_)
  show Zt _ _ _ _ 92 _ [vI q43] (z, I, J, G)
  obtain ⟨q46, hq47, h⟩ := bindE h
  refine z_callS (As := [vI q43]) (rest := []) (s_M_isLetter hz hG hp45 hq47) dX11_cut_92 mw_M_isLetter ml_M_228 st_M_isLetter rfl rfl rfl rfl (Nat.le_refl _) (Nat.le_of_eq hb.symm) (fun hp48 => ?_)
  show Zt _ _ _ _ 95 _ [vI q46] (z, I, J, G)
  refine z_if_eq (tgt := 124) dX11_cut_95 (by decide) (inR_bool hp48) (fun hc49 => ?_) (fun hc49 => ?_)
  · replace h := ifT hc49 h
    exact kE _ (someE h).symm ⟨hx3, hx4⟩
  replace h := ifF hc49 h
  refine z_iload_n dX11_cut_98 rfl ?_
  refine z_bipush dX11_cut_99 (by decide +kernel) ?_
  refine z_icmp_ge (tgt := 118) dX11_cut_101 (by decide) hx3 (inRd (x := 8) (by decide)) (fun hc50 => ?_) (fun hc50 => ?_)
  · replace h := ifT hc50 h
    refine z_iinc (L' := [some (vR g 296), some (vI x1), none, some (vI (w32 (x3 + 1))), some (vL x4), none, none, none]) dX11_cut_118 rfl rfl rfl rfl ?_
    refine z_goto (tgt := 85) dX11_cut_121 (by decide) ?_
    exact kS _ (someE h).symm ⟨(inR_w32 _), hx4⟩
  replace h := ifF hc50 h
  refine z_lload dX11_cut_104 rfl ?_
  refine z_aload_n dX11_cut_106 rfl ?_
  refine z_iload_n dX11_cut_107 rfl ?_
  refine z_iload_n dX11_cut_108 rfl ?_
  refine z_iadd dX11_cut_109 ?_
  obtain ⟨q51, hq52, h⟩ := bindE h
  refine z_callV (As := [vI (w32 (x1 + x3))]) (rest := [vL x4]) (s_M_byteAt hz hG (inR_w32 _) hq52) dX11_cut_110 mw_M_byteAt cl11 sh_296 (by decide) (Nat.le_trans (by decide) hz) ml_M_220 im_M_byteAt se_M_byteAt rfl rfl rfl rfl (Nat.le_refl _) (Nat.le_of_eq hb.symm) (fun hp53 => ?_)
  show Zt _ _ _ _ 113 _ [vI q51, vL x4] (z, I, J, G)
  obtain ⟨q54, hq55, h⟩ := bindE h
  refine z_callS (As := [vL x4, vI q51]) (rest := []) (s_M_appends hz hG hx4 hp53 hq55) dX11_cut_113 mw_M_appends ml_M_213 st_M_appends rfl rfl rfl rfl (Nat.le_refl _) (Nat.le_of_eq hb.symm) (fun hp56 => ?_)
  show Zt _ _ _ _ 116 _ [vL q54] (z, I, J, G)
  refine z_lstore (L' := [some (vR g 296), some (vI x1), none, some (vI x3), some (vL q54), none, none, none]) dX11_cut_116 rfl rfl rfl ?_
  refine z_iinc (L' := [some (vR g 296), some (vI x1), none, some (vI (w32 (x3 + 1))), some (vL q54), none, none, none]) dX11_cut_118 rfl rfl rfl rfl ?_
  refine z_goto (tgt := 85) dX11_cut_121 (by decide) ?_
  exact kS _ (someE h).symm ⟨(inR_w32 _), hp56⟩
theorem l_M_cut_L85 {l : Launch} {g : GX} {φ : CX} {z : Nat} {G : Nat → Nat → Nat} {F : Nat} (hb : cb φ = z) (hz : 353 ≤ z) (hG : lyM G) {x1 : Int} {I : Nat → Nat → Int} {J : Nat → Nat → Int} (hx1 : inR x1) (n : Nat) (s : Int × Int) (e : Int × Int) (h : iter (fun s : Int × Int => f_M_cut_L85 F x1 s.1 s.2 I J) n s = some e) (hs : inR s.1 ∧ inL s.2) (k : ((inR e.1 ∧ inL e.2) → Zt l g φ mu_M_cut 124 [some (vR g 296), some (vI x1), none, some (vI e.1), some (vL e.2), none, none, none] [] (z, I, J, G))) : Zt l g φ mu_M_cut 85 [some (vR g 296), some (vI x1), none, some (vI s.1), some (vL s.2), none, none, none] [] (z, I, J, G) := by
  refine iter_ind (Z := fun s : Int × Int => Zt l g φ mu_M_cut 85 [some (vR g 296), some (vI x1), none, some (vI s.1), some (vL s.2), none, none, none] [] (z, I, J, G)) (ZE := fun e : Int × Int => ((inR e.1 ∧ inL e.2) → Zt l g φ mu_M_cut 124 [some (vR g 296), some (vI x1), none, some (vI e.1), some (vL e.2), none, none, none] [] (z, I, J, G))) (Rg := fun s : Int × Int => inR s.1 ∧ inL s.2) ?_ n s e h hs k
  intro s r hr hst kE kS
  exact t_M_cut_L85 hb hz hG hx1 hr.1 hr.2 hst kE kS
set_option maxHeartbeats 1000000 in
theorem t_M_cut_b179in7 {l : Launch} {g : GX} {φ : CX} {z : Nat} {G : Nat → Nat → Nat} {F : Nat} (hb : cb φ = z) (hz : 353 ≤ z) (hG : lyM G) {x1 : Int} {x3 : Int} {x4 : Int} {x6 : Int} {I J : Nat → Nat → Int} (hx1 : inR x1) (hx3 : inR x3) (hx4 : inL x4) (hx6 : inR x6) {res : ((MI × MI) ⊕ (MI × MI)) ⊕ (Int × MI × MI)} (h : f_M_cut_b179in7 F x1 x3 x4 x6 I J = some res) (kE : ∀ e : (MI × MI) ⊕ (MI × MI), res = .inl e → ((fun w : (MI × MI) ⊕ (MI × MI) => (match w with | .inl e0 => ((True) → Zt l g φ mu_M_cut 31 [some (vR g 296), none, none, none, none, none, none, none] [] (z, e0.1, e0.2, G)) | .inr o0 => ((True) → Zt l g φ mu_M_cut 294 [none, none, none, none, none, none, none, none] [] (z, o0.1, o0.2, G)))) e)) (kS : ∀ s : Int × MI × MI, res = .inr s → (inR s.1) → Zt l g φ mu_M_cut 7 [some (vR g 296), some (vI s.1), none, none, none, none, none, none] [] (z, s.2.1, s.2.2, G)) : Zt l g φ mu_M_cut 179 [some (vR g 296), some (vI x1), none, some (vI x3), some (vL x4), none, some (vI x6), none] [] (z, I, J, G) := by
  refine z_aload_n dX11_cut_179 rfl ?_
  refine z_iload dX11_cut_180 rfl ?_
  refine z_iload_n dX11_cut_182 rfl ?_
  refine z_iconst dX11_cut_183 ?_
  refine z_lload dX11_cut_184 rfl ?_
  obtain ⟨q62, hq63, h⟩ := bindE h
  refine z_callV (As := [vI x6, vI x1, vI 0, vL x4]) (rest := []) (s_M_token hz hG hx6 hx1 (inRd (x := 0) (by decide)) hx4 hq63) dX11_cut_186 mw_M_token cl11 sh_296 (by decide) (Nat.le_trans (by decide) hz) ml_M_224 im_M_token se_M_token rfl rfl rfl rfl (Nat.le_refl _) (Nat.le_of_eq hb.symm) (fun hp64 => ?_)
  show Zt _ _ _ _ 189 _ [] (z, q62.1, q62.2, G)
  refine z_iload_n dX11_cut_189 rfl ?_
  refine z_iload_n dX11_cut_190 rfl ?_
  refine z_iadd dX11_cut_191 ?_
  refine z_istore_n (L' := [some (vR g 296), some (vI (w32 (x1 + x3))), none, some (vI x3), some (vL x4), none, some (vI x6), none]) dX11_cut_192 rfl rfl rfl ?_
  refine z_goto (tgt := 291) dX11_cut_193 (by decide) ?_
  refine z_goto (tgt := 7) dX11_cut_291 (by decide) ?_
  refine z_weak (L' := [some (vR g 296), some (vI (w32 (x1 + x3))), none, none, none, none, none, none]) (lsS (lsS (lsN (lsN (lsN (lsN (lsN (lsN ls0)))))))) ?_
  exact kS _ (someE h).symm (inR_w32 _)
set_option maxHeartbeats 1000000 in
theorem t_M_cut_L146 {l : Launch} {g : GX} {φ : CX} {z : Nat} {G : Nat → Nat → Nat} {F : Nat} (hb : cb φ = z) (hz : 353 ≤ z) (hG : lyM G) {x1 : Int} {x3 : Int} {x4 : Int} {x6 : Int} {x7 : Int} {I J : Nat → Nat → Int} (hx1 : inR x1) (hx3 : inR x3) (hx4 : inL x4) (hx6 : inR x6) (hx7 : inR x7) {res : (Int) ⊕ (Int × Int)} (h : f_M_cut_L146 F x1 x3 x4 x6 x7 I J = some res) (kE : ∀ e : Int, res = .inl e → ((inR e) → Zt l g φ mu_M_cut 179 [some (vR g 296), some (vI x1), none, some (vI x3), some (vL x4), none, some (vI e), none] [] (z, I, J, G))) (kS : ∀ s : Int × Int, res = .inr s → (inR s.1 ∧ inR s.2) → Zt l g φ mu_M_cut 146 [some (vR g 296), some (vI x1), none, some (vI x3), some (vL x4), none, some (vI s.1), some (vI s.2)] [] (z, I, J, G)) : Zt l g φ mu_M_cut 146 [some (vR g 296), some (vI x1), none, some (vI x3), some (vL x4), none, some (vI x6), some (vI x7)] [] (z, I, J, G) := by
  refine z_iload dX11_cut_146 rfl ?_
  refine z_bipush dX11_cut_148 (by decide +kernel) ?_
  refine z_icmp_ge (tgt := 179) dX11_cut_150 (by decide) hx7 (inRd (x := 17) (by decide)) (fun hc65 => ?_) (fun hc65 => ?_)
  · replace h := ifT hc65 h
    refine z_weak (L' := [some (vR g 296), some (vI x1), none, some (vI x3), some (vL x4), none, some (vI x6), none]) (lsS (lsS (lsN (lsS (lsS (lsN (lsS (lsN ls0)))))))) ?_
    exact kE _ (someE h).symm hx6
  replace h := ifF hc65 h
  refine z_aload_n dX11_cut_153 rfl ?_
  refine y_getR dX11_cut_154 cl11 sh_296 (by decide) (Nat.le_trans (by decide) hz) 9 rfl rfl (fl_M_34) (ly_296_9 hG) (by decide) ?_
  refine z_iload dX11_cut_157 rfl ?_
  obtain ⟨hg66, h⟩ := guardE h
  refine z_nm (fun hN67 => ?_)
  refine y_lald dX11_cut_159 sh_303 (by decide) (Nat.le_trans (by decide) hz) hx7 hg66 ?_
  refine z_lload dX11_cut_160 rfl ?_
  refine z_lcmp dX11_cut_162 ?_
  refine z_if_ne (tgt := 173) dX11_cut_163 (by decide) inR_cmp (fun hc68 => ?_) (fun hc68 => ?_)
  · replace h := ifT hc68 h
    refine z_iinc (L' := [some (vR g 296), some (vI x1), none, some (vI x3), some (vL x4), none, some (vI x6), some (vI (w32 (x7 + 1)))]) dX11_cut_173 rfl rfl rfl rfl ?_
    refine z_goto (tgt := 146) dX11_cut_176 (by decide) ?_
    exact kS _ (someE h).symm ⟨hx6, (inR_w32 _)⟩
  replace h := ifF (fun q => q hc68) h
  refine z_bipush dX11_cut_166 (by decide +kernel) ?_
  refine z_iload dX11_cut_168 rfl ?_
  refine z_iadd dX11_cut_170 ?_
  refine z_istore (L' := [some (vR g 296), some (vI x1), none, some (vI x3), some (vL x4), none, some (vI (w32 (20 + x7))), some (vI x7)]) dX11_cut_171 rfl rfl rfl ?_
  refine z_iinc (L' := [some (vR g 296), some (vI x1), none, some (vI x3), some (vL x4), none, some (vI (w32 (20 + x7))), some (vI (w32 (x7 + 1)))]) dX11_cut_173 rfl rfl rfl rfl ?_
  refine z_goto (tgt := 146) dX11_cut_176 (by decide) ?_
  exact kS _ (someE h).symm ⟨(inR_w32 _), (inR_w32 _)⟩
theorem l_M_cut_L146 {l : Launch} {g : GX} {φ : CX} {z : Nat} {G : Nat → Nat → Nat} {F : Nat} (hb : cb φ = z) (hz : 353 ≤ z) (hG : lyM G) {x1 : Int} {x3 : Int} {x4 : Int} {I : Nat → Nat → Int} {J : Nat → Nat → Int} (hx1 : inR x1) (hx3 : inR x3) (hx4 : inL x4) (n : Nat) (s : Int × Int) (e : Int) (h : iter (fun s : Int × Int => f_M_cut_L146 F x1 x3 x4 s.1 s.2 I J) n s = some e) (hs : inR s.1 ∧ inR s.2) (k : ((inR e) → Zt l g φ mu_M_cut 179 [some (vR g 296), some (vI x1), none, some (vI x3), some (vL x4), none, some (vI e), none] [] (z, I, J, G))) : Zt l g φ mu_M_cut 146 [some (vR g 296), some (vI x1), none, some (vI x3), some (vL x4), none, some (vI s.1), some (vI s.2)] [] (z, I, J, G) := by
  refine iter_ind (Z := fun s : Int × Int => Zt l g φ mu_M_cut 146 [some (vR g 296), some (vI x1), none, some (vI x3), some (vL x4), none, some (vI s.1), some (vI s.2)] [] (z, I, J, G)) (ZE := fun e : Int => ((inR e) → Zt l g φ mu_M_cut 179 [some (vR g 296), some (vI x1), none, some (vI x3), some (vL x4), none, some (vI e), none] [] (z, I, J, G))) (Rg := fun s : Int × Int => inR s.1 ∧ inR s.2) ?_ n s e h hs k
  intro s r hr hst kE kS
  exact t_M_cut_L146 hb hz hG hx1 hx3 hx4 hr.1 hr.2 hst kE kS
set_option maxHeartbeats 1000000 in
theorem t_M_cut_b135in7 {l : Launch} {g : GX} {φ : CX} {z : Nat} {G : Nat → Nat → Nat} {F : Nat} (hb : cb φ = z) (hz : 353 ≤ z) (hG : lyM G) {x1 : Int} {x3 : Int} {x4 : Int} {s0 : Int} {I J : Nat → Nat → Int} (hx1 : inR x1) (hx3 : inR x3) (hx4 : inL x4) (hs0 : inR s0) {res : ((MI × MI) ⊕ (MI × MI)) ⊕ (Int × MI × MI)} (h : f_M_cut_b135in7 F x1 x3 x4 s0 I J = some res) (kE : ∀ e : (MI × MI) ⊕ (MI × MI), res = .inl e → ((fun w : (MI × MI) ⊕ (MI × MI) => (match w with | .inl e0 => ((True) → Zt l g φ mu_M_cut 31 [some (vR g 296), none, none, none, none, none, none, none] [] (z, e0.1, e0.2, G)) | .inr o0 => ((True) → Zt l g φ mu_M_cut 294 [none, none, none, none, none, none, none, none] [] (z, o0.1, o0.2, G)))) e)) (kS : ∀ s : Int × MI × MI, res = .inr s → (inR s.1) → Zt l g φ mu_M_cut 7 [some (vR g 296), some (vI s.1), none, none, none, none, none, none] [] (z, s.2.1, s.2.2, G)) : Zt l g φ mu_M_cut 135 [some (vR g 296), some (vI x1), none, some (vI x3), some (vL x4), none, none, none] [vI s0] (z, I, J, G) := by
  refine z_istore (L' := [some (vR g 296), some (vI x1), none, some (vI x3), some (vL x4), none, some (vI s0), none]) dX11_cut_135 rfl rfl rfl ?_
  refine z_iload_n dX11_cut_137 rfl ?_
  refine z_bipush dX11_cut_138 (by decide +kernel) ?_
  refine z_icmp_gt (tgt := 179) dX11_cut_140 (by decide) hx3 (inRd (x := 7) (by decide)) (fun hc61 => ?_) (fun hc61 => ?_)
  · replace h := ifT hc61 h
    exact t_M_cut_b179in7 hb hz hG hx1 hx3 hx4 hs0 h kE kS
  replace h := ifF hc61 h
  refine z_iconst dX11_cut_143 ?_
  refine z_istore (L' := [some (vR g 296), some (vI x1), none, some (vI x3), some (vL x4), none, some (vI s0), some (vI 0)]) dX11_cut_144 rfl rfl rfl ?_
  obtain ⟨e69, h70, h⟩ := bindE h
  refine l_M_cut_L146 hb hz hG hx1 hx3 hx4 _ _ _ h70 ⟨hs0, (inRd (x := 0) (by decide))⟩ ?_
  refine fun h71 => ?_
  exact t_M_cut_b179in7 hb hz hG hx1 hx3 hx4 h71 h kE kS
set_option maxHeartbeats 1000000 in
theorem t_M_cut_L7 {l : Launch} {g : GX} {φ : CX} {z : Nat} {G : Nat → Nat → Nat} {F : Nat} (hb : cb φ = z) (hz : 353 ≤ z) (hG : lyM G) {x1 : Int} {I J : Nat → Nat → Int} (hx1 : inR x1) {res : ((MI × MI) ⊕ (MI × MI)) ⊕ (Int × MI × MI)} (h : f_M_cut_L7 F x1 I J = some res) (kE : ∀ e : (MI × MI) ⊕ (MI × MI), res = .inl e → ((fun w : (MI × MI) ⊕ (MI × MI) => (match w with | .inl e0 => ((True) → Zt l g φ mu_M_cut 31 [some (vR g 296), none, none, none, none, none, none, none] [] (z, e0.1, e0.2, G)) | .inr o0 => ((True) → Zt l g φ mu_M_cut 294 [none, none, none, none, none, none, none, none] [] (z, o0.1, o0.2, G)))) e)) (kS : ∀ s : Int × MI × MI, res = .inr s → (inR s.1) → Zt l g φ mu_M_cut 7 [some (vR g 296), some (vI s.1), none, none, none, none, none, none] [] (z, s.2.1, s.2.2, G)) : Zt l g φ mu_M_cut 7 [some (vR g 296), some (vI x1), none, none, none, none, none, none] [] (z, I, J, G) := by
  refine z_aload_n dX11_cut_7 rfl ?_
  refine z_nm (fun hN1 => ?_)
  refine y_getI dX11_cut_8 cl11 sh_296 (by decide) (Nat.le_trans (by decide) hz) 10 rfl rfl (fl_M_217) ?_
  refine z_sipush dX11_cut_11 (by decide +kernel) ?_
  refine z_icmp_gt (tgt := 294) dX11_cut_14 (by decide) (hN1.1 296 10) (inRd (x := 400) (by decide)) (fun hc2 => ?_) (fun hc2 => ?_)
  · replace h := ifT hc2 h
    refine z_weak (L' := [none, none, none, none, none, none, none, none]) (lsN (lsN (lsN (lsN (lsN (lsN (lsN (lsN ls0)))))))) ?_
    exact kE _ (someE h).symm trivial
  replace h := ifF hc2 h
  refine z_aload_n dX11_cut_17 rfl ?_
  refine z_iload_n dX11_cut_18 rfl ?_
  obtain ⟨q3, hq4, h⟩ := bindE h
  refine z_callV (As := [vI x1]) (rest := []) (s_M_byteAt hz hG hx1 hq4) dX11_cut_19 mw_M_byteAt cl11 sh_296 (by decide) (Nat.le_trans (by decide) hz) ml_M_220 im_M_byteAt se_M_byteAt rfl rfl rfl rfl (Nat.le_refl _) (Nat.le_of_eq hb.symm) (fun hp5 => ?_)
  show Zt _ _ _ _ 22 _ [vI q3] (z, I, J, G)
  refine z_istore_n (L' := [some (vR g 296), some (vI x1), some (vI q3), none, none, none, none, none]) dX11_cut_22 rfl rfl rfl ?_
  refine z_iload_n dX11_cut_23 rfl ?_
  refine z_aload_n dX11_cut_24 rfl ?_
  refine y_getI dX11_cut_25 cl11 sh_296 (by decide) (Nat.le_trans (by decide) hz) 4 rfl rfl (fl_M_208) ?_
  refine z_icmp_lt (tgt := 43) dX11_cut_28 (by decide) hx1 (hN1.1 296 4) (fun hc6 => ?_) (fun hc6 => ?_)
  · replace h := ifT hc6 h
    refine z_iload_n dX11_cut_43 rfl ?_
    refine z_bipush dX11_cut_44 (by decide +kernel) ?_
    refine z_icmp_eq (tgt := 67) dX11_cut_46 (by decide) hp5 (inRd (x := 9) (by decide)) (fun hc7 => ?_) (fun hc7 => ?_)
    · replace h := ifT hc7 h
      refine z_iinc (L' := [some (vR g 296), some (vI (w32 (x1 + 1))), some (vI q3), none, none, none, none, none]) dX11_cut_67 rfl rfl rfl rfl ?_
      refine z_goto (tgt := 291) dX11_cut_70 (by decide) ?_
      refine z_goto (tgt := 7) dX11_cut_291 (by decide) ?_
      refine z_weak (L' := [some (vR g 296), some (vI (w32 (x1 + 1))), none, none, none, none, none, none]) (lsS (lsS (lsN (lsN (lsN (lsN (lsN (lsN ls0)))))))) ?_
      exact kS _ (someE h).symm (inR_w32 _)
    replace h := ifF hc7 h
    refine z_iload_n dX11_cut_49 rfl ?_
    refine z_bipush dX11_cut_50 (by decide +kernel) ?_
    refine z_icmp_eq (tgt := 67) dX11_cut_52 (by decide) hp5 (inRd (x := 10) (by decide)) (fun hc8 => ?_) (fun hc8 => ?_)
    · replace h := ifT hc8 h
      refine z_iinc (L' := [some (vR g 296), some (vI (w32 (x1 + 1))), some (vI q3), none, none, none, none, none]) dX11_cut_67 rfl rfl rfl rfl ?_
      refine z_goto (tgt := 291) dX11_cut_70 (by decide) ?_
      refine z_goto (tgt := 7) dX11_cut_291 (by decide) ?_
      refine z_weak (L' := [some (vR g 296), some (vI (w32 (x1 + 1))), none, none, none, none, none, none]) (lsS (lsS (lsN (lsN (lsN (lsN (lsN (lsN ls0)))))))) ?_
      exact kS _ (someE h).symm (inR_w32 _)
    replace h := ifF hc8 h
    refine z_iload_n dX11_cut_55 rfl ?_
    refine z_bipush dX11_cut_56 (by decide +kernel) ?_
    refine z_icmp_eq (tgt := 67) dX11_cut_58 (by decide) hp5 (inRd (x := 13) (by decide)) (fun hc9 => ?_) (fun hc9 => ?_)
    · replace h := ifT hc9 h
      refine z_iinc (L' := [some (vR g 296), some (vI (w32 (x1 + 1))), some (vI q3), none, none, none, none, none]) dX11_cut_67 rfl rfl rfl rfl ?_
      refine z_goto (tgt := 291) dX11_cut_70 (by decide) ?_
      refine z_goto (tgt := 7) dX11_cut_291 (by decide) ?_
      refine z_weak (L' := [some (vR g 296), some (vI (w32 (x1 + 1))), none, none, none, none, none, none]) (lsS (lsS (lsN (lsN (lsN (lsN (lsN (lsN ls0)))))))) ?_
      exact kS _ (someE h).symm (inR_w32 _)
    replace h := ifF hc9 h
    refine z_iload_n dX11_cut_61 rfl ?_
    refine z_bipush dX11_cut_62 (by decide +kernel) ?_
    refine z_icmp_ne (tgt := 73) dX11_cut_64 (by decide) hp5 (inRd (x := 32) (by decide)) (fun hc10 => ?_) (fun hc10 => ?_)
    · replace h := ifT hc10 h
      refine z_iload_n dX11_cut_73 rfl ?_
      obtain ⟨q11, hq12, h⟩ := bindE h
      refine z_callS (As := [vI q3]) (rest := []) (s_M_isLetter hz hG hp5 hq12) dX11_cut_74 mw_M_isLetter ml_M_228 st_M_isLetter rfl rfl rfl rfl (Nat.le_refl _) (Nat.le_of_eq hb.symm) (fun hp13 => ?_)
      show Zt _ _ _ _ 77 _ [vI q11] (z, I, J, G)
      refine z_if_eq (tgt := 196) dX11_cut_77 (by decide) (inR_bool hp13) (fun hc14 => ?_) (fun hc14 => ?_)
      · replace h := ifT hc14 h
        refine z_iload_n dX11_cut_196 rfl ?_
        obtain ⟨q15, hq16, h⟩ := bindE h
        refine z_callS (As := [vI q3]) (rest := []) (s_M_isDigit hz hG hp5 hq16) dX11_cut_197 mw_M_isDigit ml_M_232 st_M_isDigit rfl rfl rfl rfl (Nat.le_refl _) (Nat.le_of_eq hb.symm) (fun hp17 => ?_)
        show Zt _ _ _ _ 200 _ [vI q15] (z, I, J, G)
        refine z_if_eq (tgt := 275) dX11_cut_200 (by decide) (inR_bool hp17) (fun hc18 => ?_) (fun hc18 => ?_)
        · replace h := ifT hc18 h
          refine z_iload_n dX11_cut_275 rfl ?_
          refine z_aload_n dX11_cut_276 rfl ?_
          refine z_iload_n dX11_cut_277 rfl ?_
          refine z_iload_n dX11_cut_278 rfl ?_
          refine z_aload_n dX11_cut_279 rfl ?_
          refine z_iload_n dX11_cut_280 rfl ?_
          refine z_iconst dX11_cut_281 ?_
          refine z_iadd dX11_cut_282 ?_
          obtain ⟨q19, hq20, h⟩ := bindE h
          refine z_callV (As := [vI (w32 (x1 + 1))]) (rest := [vI q3, vI x1, vR g 296, vI x1]) (s_M_byteAt hz hG (inR_w32 _) hq20) dX11_cut_283 mw_M_byteAt cl11 sh_296 (by decide) (Nat.le_trans (by decide) hz) ml_M_220 im_M_byteAt se_M_byteAt rfl rfl rfl rfl (Nat.le_refl _) (Nat.le_of_eq hb.symm) (fun hp21 => ?_)
          show Zt _ _ _ _ 286 _ [vI q19, vI q3, vI x1, vR g 296, vI x1] (z, I, J, G)
          obtain ⟨q22, hq23, h⟩ := bindE h
          refine z_callV (As := [vI x1, vI q3, vI q19]) (rest := [vI x1]) (s_M_sign hz hG hx1 hp5 hp21 hq23) dX11_cut_286 mw_M_sign cl11 sh_296 (by decide) (Nat.le_trans (by decide) hz) ml_M_235 im_M_sign se_M_sign rfl rfl rfl rfl (Nat.le_refl _) (Nat.le_of_eq hb.symm) (fun hp24 => ?_)
          show Zt _ _ _ _ 289 _ [vI q22.1, vI x1] (z, q22.2.1, q22.2.2, G)
          refine z_iadd dX11_cut_289 ?_
          refine z_istore_n (L' := [some (vR g 296), some (vI (w32 (x1 + q22.1))), some (vI q3), none, none, none, none, none]) dX11_cut_290 rfl rfl rfl ?_
          refine z_goto (tgt := 7) dX11_cut_291 (by decide) ?_
          refine z_weak (L' := [some (vR g 296), some (vI (w32 (x1 + q22.1))), none, none, none, none, none, none]) (lsS (lsS (lsN (lsN (lsN (lsN (lsN (lsN ls0)))))))) ?_
          exact kS _ (someE h).symm (inR_w32 _)
        replace h := ifF hc18 h
        refine z_iconst dX11_cut_203 ?_
        refine z_istore_n (L' := [some (vR g 296), some (vI x1), some (vI q3), some (vI 0), none, none, none, none]) dX11_cut_204 rfl rfl rfl ?_
        refine z_iconst dX11_cut_205 ?_
        refine z_istore (L' := [some (vR g 296), some (vI x1), some (vI q3), some (vI 0), some (vI 0), none, none, none]) dX11_cut_206 rfl rfl rfl ?_
        refine z_weak (L' := [some (vR g 296), some (vI x1), none, some (vI 0), some (vI 0), none, none, none]) (lsS (lsS (lsN (lsS (lsS (lsN (lsN (lsN ls0)))))))) ?_
        obtain ⟨e36, h37, h⟩ := bindE h
        refine l_M_cut_L208 hb hz hG hx1 _ _ _ h37 ⟨(inRd (x := 0) (by decide)), (inRd (x := 0) (by decide))⟩ ?_
        refine fun h38 => ?_
        refine z_aload_n dX11_cut_250 rfl ?_
        refine z_iload_n dX11_cut_251 rfl ?_
        refine z_iconst dX11_cut_252 ?_
        refine z_icmp_le (tgt := 260) dX11_cut_253 (by decide) h38.1 (inRd (x := 4) (by decide)) (fun hc39 => ?_) (fun hc39 => ?_)
        · replace h := ifT hc39 h
          refine z_iconst dX11_cut_260 ?_
          exact t_M_cut_b261in7 hb hz hG hx1 h38.1 h38.2 (inRd (x := 2) (by decide)) h kE kS
        replace h := ifF hc39 h
        refine z_iconst dX11_cut_256 ?_
        refine z_goto (tgt := 261) dX11_cut_257 (by decide) ?_
        exact t_M_cut_b261in7 hb hz hG hx1 h38.1 h38.2 (inRd (x := 3) (by decide)) h kE kS
      replace h := ifF hc14 h
      refine z_iconst dX11_cut_80 ?_
      refine z_istore_n (L' := [some (vR g 296), some (vI x1), some (vI q3), some (vI 0), none, none, none, none]) dX11_cut_81 rfl rfl rfl ?_
      refine z_lconst0 dX11_cut_82 ?_
      refine z_lstore (L' := [some (vR g 296), some (vI x1), some (vI q3), some (vI 0), some (vL 0), none, none, none]) dX11_cut_83 rfl rfl rfl ?_
      refine z_weak (L' := [some (vR g 296), some (vI x1), none, some (vI 0), some (vL 0), none, none, none]) (lsS (lsS (lsN (lsS (lsS (lsN (lsN (lsN ls0)))))))) ?_
      obtain ⟨e57, h58, h⟩ := bindE h
      refine l_M_cut_L85 hb hz hG hx1 _ _ _ h58 ⟨(inRd (x := 0) (by decide)), (inLd (x := 0) (by decide))⟩ ?_
      refine fun h59 => ?_
      refine z_iload_n dX11_cut_124 rfl ?_
      refine z_bipush dX11_cut_125 (by decide +kernel) ?_
      refine z_icmp_le (tgt := 134) dX11_cut_127 (by decide) h59.1 (inRd (x := 8) (by decide)) (fun hc60 => ?_) (fun hc60 => ?_)
      · replace h := ifT hc60 h
        refine z_iconst dX11_cut_134 ?_
        exact t_M_cut_b135in7 hb hz hG hx1 h59.1 h59.2 (inRd (x := 1) (by decide)) h kE kS
      replace h := ifF hc60 h
      refine z_iconst dX11_cut_130 ?_
      refine z_goto (tgt := 135) dX11_cut_131 (by decide) ?_
      exact t_M_cut_b135in7 hb hz hG hx1 h59.1 h59.2 (inRd (x := 3) (by decide)) h kE kS
    replace h := ifF (fun q => q hc10) h
    refine z_iinc (L' := [some (vR g 296), some (vI (w32 (x1 + 1))), some (vI q3), none, none, none, none, none]) dX11_cut_67 rfl rfl rfl rfl ?_
    refine z_goto (tgt := 291) dX11_cut_70 (by decide) ?_
    refine z_goto (tgt := 7) dX11_cut_291 (by decide) ?_
    refine z_weak (L' := [some (vR g 296), some (vI (w32 (x1 + 1))), none, none, none, none, none, none]) (lsS (lsS (lsN (lsN (lsN (lsN (lsN (lsN ls0)))))))) ?_
    exact kS _ (someE h).symm (inR_w32 _)
  replace h := ifF hc6 h
  refine z_weak (L' := [some (vR g 296), none, none, none, none, none, none, none]) (lsS (lsN (lsN (lsN (lsN (lsN (lsN (lsN ls0)))))))) ?_
  exact kE _ (someE h).symm trivial
theorem l_M_cut_L7 {l : Launch} {g : GX} {φ : CX} {z : Nat} {G : Nat → Nat → Nat} {F : Nat} (hb : cb φ = z) (hz : 353 ≤ z) (hG : lyM G) (n : Nat) (s : Int × MI × MI) (e : (MI × MI) ⊕ (MI × MI)) (h : iter (fun s : Int × MI × MI => f_M_cut_L7 F s.1 s.2.1 s.2.2) n s = some e) (hs : inR s.1) (k : ((fun w : (MI × MI) ⊕ (MI × MI) => (match w with | .inl e0 => ((True) → Zt l g φ mu_M_cut 31 [some (vR g 296), none, none, none, none, none, none, none] [] (z, e0.1, e0.2, G)) | .inr o0 => ((True) → Zt l g φ mu_M_cut 294 [none, none, none, none, none, none, none, none] [] (z, o0.1, o0.2, G)))) e)) : Zt l g φ mu_M_cut 7 [some (vR g 296), some (vI s.1), none, none, none, none, none, none] [] (z, s.2.1, s.2.2, G) := by
  refine iter_ind (Z := fun s : Int × MI × MI => Zt l g φ mu_M_cut 7 [some (vR g 296), some (vI s.1), none, none, none, none, none, none] [] (z, s.2.1, s.2.2, G)) (ZE := fun e : (MI × MI) ⊕ (MI × MI) => ((fun w : (MI × MI) ⊕ (MI × MI) => (match w with | .inl e0 => ((True) → Zt l g φ mu_M_cut 31 [some (vR g 296), none, none, none, none, none, none, none] [] (z, e0.1, e0.2, G)) | .inr o0 => ((True) → Zt l g φ mu_M_cut 294 [none, none, none, none, none, none, none, none] [] (z, o0.1, o0.2, G)))) e)) (Rg := fun s : Int × MI × MI => inR s.1) ?_ n s e h hs k
  intro s r hr hst kE kS
  exact t_M_cut_L7 hb hz hG hr hst kE kS
set_option maxHeartbeats 1000000 in
theorem s_M_cut {l : Launch} {g : GX} {z : Nat} {G : Nat → Nat → Nat} {F : Nat} (hz : 353 ≤ z) (hG : lyM G) {I J : Nat → Nat → Int} {res : MI × MI} (h : f_M_cut F I J = some res) : Spec l g 2 yX11_cut cX11_cut 8 none [vR g 296] (z, I, J, G) none True (z, res.1, res.2, G) := by
  refine spec_of (μ := mu_M_cut) (k := 7) (L0 := [some (vR g 296), none, none, none, none, none, none, none]) rfl mw_M_cut rfl rfl (Nat.le_refl _) (fun φ hb hE => ?_)
  refine z_aload_n dX11_cut_0 rfl ?_
  refine z_iconst dX11_cut_1 ?_
  refine y_putI dX11_cut_2 cl11 sh_296 (by decide) (Nat.le_trans (by decide) hz) 10 rfl rfl rfl (fl_M_217) rfl rfl (inRd (x := 0) (by decide)) ?_
  refine z_iconst dX11_cut_5 ?_
  refine z_istore_n (L' := [some (vR g 296), some (vI 0), none, none, none, none, none, none]) dX11_cut_6 rfl rfl rfl ?_
  obtain ⟨e72, h73, h⟩ := bindE h
  rcases e72 with e74 | o75
  · refine l_M_cut_L7 hb hz hG  _ _ _ h73 (inRd (x := 0) (by decide)) ?_
    refine fun h76 => ?_
    refine z_aload_n dX11_cut_31 rfl ?_
    refine z_iconst dX11_cut_32 ?_
    refine z_aload_n dX11_cut_33 rfl ?_
    refine z_nm (fun hN77 => ?_)
    refine y_getI dX11_cut_34 cl11 sh_296 (by decide) (Nat.le_trans (by decide) hz) 4 rfl rfl (fl_M_208) ?_
    refine z_iconst dX11_cut_37 ?_
    refine z_lconst0 dX11_cut_38 ?_
    obtain ⟨q78, hq79, h⟩ := bindE h
    refine z_callV (As := [vI 0, vI (e74.1 296 4), vI 0, vL 0]) (rest := []) (s_M_token hz hG (inRd (x := 0) (by decide)) (hN77.1 296 4) (inRd (x := 0) (by decide)) (inLd (x := 0) (by decide)) hq79) dX11_cut_39 mw_M_token cl11 sh_296 (by decide) (Nat.le_trans (by decide) hz) ml_M_224 im_M_token se_M_token rfl rfl rfl rfl (Nat.le_refl _) (Nat.le_of_eq hb.symm) (fun hp80 => ?_)
    show Zt _ _ _ _ 42 _ [] (z, q78.1, q78.2, G)
    obtain rfl := someE h
    exact z_vret dX11_cut_42 hE trivial rfl
  refine l_M_cut_L7 hb hz hG  _ _ _ h73 (inRd (x := 0) (by decide)) ?_
  refine fun h81 => ?_
  obtain rfl := someE h
  exact z_vret dX11_cut_294 hE trivial rfl
set_option maxHeartbeats 1000000 in
theorem s_M_is {l : Launch} {g : GX} {z : Nat} {G : Nat → Nat → Nat} {F : Nat} (hz : 353 ≤ z) (hG : lyM G) {x1 : Int} {I J : Nat → Nat → Int} (hx1 : inR x1) {res : Int} (h : f_M_is F x1 I J = some res) : Spec l g 0 yX11_is cX11_is 2 (some .boolean) [vR g 296, vI x1] (z, I, J, G) (some (vI res)) (res = 0 ∨ res = 1) (z, I, J, G) := by
  refine spec_of (μ := mu_M_is) (k := 0) (L0 := [some (vR g 296), some (vI x1)]) rfl mw_M_is rfl rfl (Nat.le_refl _) (fun φ hb hE => ?_)
  refine z_aload_n dX11_is_0 rfl ?_
  refine z_nm (fun hN1 => ?_)
  refine y_getI dX11_is_1 cl11 sh_296 (by decide) (Nat.le_trans (by decide) hz) 13 rfl rfl (fl_M_239) ?_
  refine z_if_ne (tgt := 24) dX11_is_4 (by decide) (hN1.1 296 13) (fun hc2 => ?_) (fun hc2 => ?_)
  · replace h := ifT hc2 h
    refine z_iconst dX11_is_24 ?_
    obtain rfl := someE h
    exact z_zret dX11_is_25 hE b01_0 b01_0 rfl
  replace h := ifF (fun q => q hc2) h
  refine z_aload_n dX11_is_7 rfl ?_
  refine y_getR dX11_is_8 cl11 sh_296 (by decide) (Nat.le_trans (by decide) hz) 5 rfl rfl (fl_M_20) (ly_296_5 hG) (by decide) ?_
  refine z_aload_n dX11_is_11 rfl ?_
  refine y_getI dX11_is_12 cl11 sh_296 (by decide) (Nat.le_trans (by decide) hz) 11 rfl rfl (fl_M_242) ?_
  obtain ⟨hg3, h⟩ := guardE h
  refine y_iald dX11_is_15 sh_299 (by decide) (Nat.le_trans (by decide) hz) (hN1.1 296 11) hg3 ?_
  refine z_iload_n dX11_is_16 rfl ?_
  refine z_icmp_ne (tgt := 24) dX11_is_17 (by decide) (hN1.1 299 ((I 296 11)).toNat) hx1 (fun hc4 => ?_) (fun hc4 => ?_)
  · replace h := ifT hc4 h
    refine z_iconst dX11_is_24 ?_
    obtain rfl := someE h
    exact z_zret dX11_is_25 hE b01_0 b01_0 rfl
  replace h := ifF (fun q => q hc4) h
  refine z_iconst dX11_is_20 ?_
  refine z_goto (tgt := 25) dX11_is_21 (by decide) ?_
  obtain rfl := someE h
  exact z_zret dX11_is_25 hE b01_1 b01_1 rfl
set_option maxHeartbeats 1000000 in
theorem s_M_fail {l : Launch} {g : GX} {z : Nat} {G : Nat → Nat → Nat} {F : Nat} (hz : 353 ≤ z) (hG : lyM G) {x1 : Int} {I J : Nat → Nat → Int} (hx1 : inR x1) {res : MI} (h : f_M_fail F x1 I J = some res) : Spec l g 0 yX11_fail cX11_fail 2 none [vR g 296, vI x1] (z, I, J, G) none True (z, res, J, G) := by
  refine spec_of (μ := mu_M_fail) (k := 0) (L0 := [some (vR g 296), some (vI x1)]) rfl mw_M_fail rfl rfl (Nat.le_refl _) (fun φ hb hE => ?_)
  refine z_aload_n dX11_fail_0 rfl ?_
  refine z_nm (fun hN1 => ?_)
  refine y_getI dX11_fail_1 cl11 sh_296 (by decide) (Nat.le_trans (by decide) hz) 13 rfl rfl (fl_M_239) ?_
  refine z_if_le (tgt := 8) dX11_fail_4 (by decide) (hN1.1 296 13) (fun hc2 => ?_) (fun hc2 => ?_)
  · replace h := ifT hc2 h
    refine z_aload_n dX11_fail_8 rfl ?_
    refine z_iload_n dX11_fail_9 rfl ?_
    refine y_putI dX11_fail_10 cl11 sh_296 (by decide) (Nat.le_trans (by decide) hz) 13 rfl rfl rfl (fl_M_239) rfl rfl hx1 ?_
    refine z_aload_n dX11_fail_13 rfl ?_
    refine z_aload_n dX11_fail_14 rfl ?_
    refine y_getR dX11_fail_15 cl11 sh_296 (by decide) (Nat.le_trans (by decide) hz) 6 rfl rfl (fl_M_24) (ly_296_6 hG) (by decide) ?_
    refine z_aload_n dX11_fail_18 rfl ?_
    refine z_nm (fun hN3 => ?_)
    refine y_getI dX11_fail_19 cl11 sh_296 (by decide) (Nat.le_trans (by decide) hz) 11 rfl rfl (fl_M_242) ?_
    obtain ⟨hg4, h⟩ := guardE h
    refine y_iald dX11_fail_22 sh_300 (by decide) (Nat.le_trans (by decide) hz) (hN3.1 296 11) hg4 ?_
    refine y_putI dX11_fail_23 cl11 sh_296 (by decide) (Nat.le_trans (by decide) hz) 14 rfl rfl rfl (fl_M_245) rfl rfl (hN3.1 300 (((up2 I 296 13 x1) 296 11)).toNat) ?_
    obtain rfl := someE h
    exact z_vret dX11_fail_26 hE trivial rfl
  replace h := ifF hc2 h
  obtain rfl := someE h
  exact z_vret dX11_fail_7 hE trivial rfl
set_option maxHeartbeats 1000000 in
theorem t_M_wrong_b46 {l : Launch} {g : GX} {φ : CX} {z : Nat} {G : Nat → Nat → Nat} {F : Nat} (hb : cb φ = z) (hz : 353 ≤ z) (hG : lyM G) {x1 : Int} {x3 : Int} {I J : Nat → Nat → Int} (hx1 : inR x1) (hx3 : inR x3) {res : MI} (h : f_M_wrong_b46 F x1 x3 I J = some res) (hE : ends g φ none none True (z, res, J, G)) : Zt l g φ mu_M_wrong 46 [some (vR g 296), some (vI x1), none, some (vI x3)] [] (z, I, J, G) := by
  refine z_aload_n dX11_wrong_46 rfl ?_
  refine z_iload_n dX11_wrong_47 rfl ?_
  refine y_putI dX11_wrong_48 cl11 sh_296 (by decide) (Nat.le_trans (by decide) hz) 15 rfl rfl rfl (fl_M_248) rfl rfl hx1 ?_
  refine z_aload_n dX11_wrong_51 rfl ?_
  refine z_iload_n dX11_wrong_52 rfl ?_
  refine y_putI dX11_wrong_53 cl11 sh_296 (by decide) (Nat.le_trans (by decide) hz) 16 rfl rfl rfl (fl_M_251) rfl rfl hx3 ?_
  obtain rfl := someE h
  exact z_vret dX11_wrong_56 hE trivial rfl
set_option maxHeartbeats 1000000 in
theorem s_M_wrong {l : Launch} {g : GX} {z : Nat} {G : Nat → Nat → Nat} {F : Nat} (hz : 353 ≤ z) (hG : lyM G) {x1 : Int} {x2 : Int} {I J : Nat → Nat → Int} (hx1 : inR x1) (hx2 : inR x2) {res : MI} (h : f_M_wrong F x1 x2 I J = some res) : Spec l g 0 yX11_wrong cX11_wrong 4 none [vR g 296, vI x1, vI x2] (z, I, J, G) none True (z, res, J, G) := by
  refine spec_of (μ := mu_M_wrong) (k := 1) (L0 := [some (vR g 296), some (vI x1), some (vI x2), none]) rfl mw_M_wrong rfl rfl (Nat.le_refl _) (fun φ hb hE => ?_)
  refine z_aload_n dX11_wrong_0 rfl ?_
  refine y_getR dX11_wrong_1 cl11 sh_296 (by decide) (Nat.le_trans (by decide) hz) 6 rfl rfl (fl_M_24) (ly_296_6 hG) (by decide) ?_
  refine z_iload_n dX11_wrong_4 rfl ?_
  obtain ⟨hg1, h⟩ := guardE h
  refine z_nm (fun hN2 => ?_)
  refine y_iald dX11_wrong_5 sh_300 (by decide) (Nat.le_trans (by decide) hz) hx2 hg1 ?_
  refine z_istore_n (L' := [some (vR g 296), some (vI x1), some (vI x2), some (vI (I 300 (x2).toNat))]) dX11_wrong_6 rfl rfl rfl ?_
  refine z_aload_n dX11_wrong_7 rfl ?_
  refine y_getI dX11_wrong_8 cl11 sh_296 (by decide) (Nat.le_trans (by decide) hz) 13 rfl rfl (fl_M_239) ?_
  refine z_if_gt (tgt := 45) dX11_wrong_11 (by decide) (hN2.1 296 13) (fun hc3 => ?_) (fun hc3 => ?_)
  · replace h := ifT hc3 h
    obtain rfl := someE h
    exact z_vret dX11_wrong_45 hE trivial rfl
  replace h := ifF hc3 h
  refine z_aload_n dX11_wrong_14 rfl ?_
  refine y_getI dX11_wrong_15 cl11 sh_296 (by decide) (Nat.le_trans (by decide) hz) 15 rfl rfl (fl_M_248) ?_
  refine z_if_eq (tgt := 46) dX11_wrong_18 (by decide) (hN2.1 296 15) (fun hc4 => ?_) (fun hc4 => ?_)
  · replace h := ifT hc4 h
    refine z_weak (L' := [some (vR g 296), some (vI x1), none, some (vI (I 300 (x2).toNat))]) (lsS (lsS (lsN (lsS ls0)))) ?_
    exact t_M_wrong_b46 hb hz hG hx1 (hN2.1 300 (x2).toNat) h hE
  replace h := ifF hc4 h
  refine z_iload_n dX11_wrong_21 rfl ?_
  refine z_aload_n dX11_wrong_22 rfl ?_
  refine y_getI dX11_wrong_23 cl11 sh_296 (by decide) (Nat.le_trans (by decide) hz) 16 rfl rfl (fl_M_251) ?_
  refine z_icmp_gt (tgt := 45) dX11_wrong_26 (by decide) (hN2.1 300 (x2).toNat) (hN2.1 296 16) (fun hc5 => ?_) (fun hc5 => ?_)
  · replace h := ifT hc5 h
    obtain rfl := someE h
    exact z_vret dX11_wrong_45 hE trivial rfl
  replace h := ifF hc5 h
  refine z_iload_n dX11_wrong_29 rfl ?_
  refine z_aload_n dX11_wrong_30 rfl ?_
  refine y_getI dX11_wrong_31 cl11 sh_296 (by decide) (Nat.le_trans (by decide) hz) 16 rfl rfl (fl_M_251) ?_
  refine z_icmp_ne (tgt := 46) dX11_wrong_34 (by decide) (hN2.1 300 (x2).toNat) (hN2.1 296 16) (fun hc6 => ?_) (fun hc6 => ?_)
  · replace h := ifT hc6 h
    refine z_weak (L' := [some (vR g 296), some (vI x1), none, some (vI (I 300 (x2).toNat))]) (lsS (lsS (lsN (lsS ls0)))) ?_
    exact t_M_wrong_b46 hb hz hG hx1 (hN2.1 300 (x2).toNat) h hE
  replace h := ifF (fun q => q hc6) h
  refine z_iload_n dX11_wrong_37 rfl ?_
  refine z_aload_n dX11_wrong_38 rfl ?_
  refine y_getI dX11_wrong_39 cl11 sh_296 (by decide) (Nat.le_trans (by decide) hz) 15 rfl rfl (fl_M_248) ?_
  refine z_icmp_lt (tgt := 46) dX11_wrong_42 (by decide) hx1 (hN2.1 296 15) (fun hc7 => ?_) (fun hc7 => ?_)
  · replace h := ifT hc7 h
    refine z_weak (L' := [some (vR g 296), some (vI x1), none, some (vI (I 300 (x2).toNat))]) (lsS (lsS (lsN (lsS ls0)))) ?_
    exact t_M_wrong_b46 hb hz hG hx1 (hN2.1 300 (x2).toNat) h hE
  replace h := ifF hc7 h
  obtain rfl := someE h
  exact z_vret dX11_wrong_45 hE trivial rfl
set_option maxHeartbeats 1000000 in
theorem s_M_goesOn {l : Launch} {g : GX} {z : Nat} {G : Nat → Nat → Nat} {F : Nat} (hz : 353 ≤ z) (hG : lyM G) {I J : Nat → Nat → Int} {res : MI} (h : f_M_goesOn F I J = some res) : Spec l g 1 yX11_goesOn cX11_goesOn 1 none [vR g 296] (z, I, J, G) none True (z, res, J, G) := by
  refine spec_of (μ := mu_M_goesOn) (k := 0) (L0 := [some (vR g 296)]) rfl mw_M_goesOn rfl rfl (Nat.le_refl _) (fun φ hb hE => ?_)
  refine z_aload_n dX11_goesOn_0 rfl ?_
  refine z_nm (fun hN1 => ?_)
  refine y_getI dX11_goesOn_1 cl11 sh_296 (by decide) (Nat.le_trans (by decide) hz) 11 rfl rfl (fl_M_242) ?_
  refine z_sipush dX11_goesOn_4 (by decide +kernel) ?_
  refine z_icmp_ne (tgt := 18) dX11_goesOn_7 (by decide) (hN1.1 296 11) (inRd (x := 400) (by decide)) (fun hc2 => ?_) (fun hc2 => ?_)
  · replace h := ifT hc2 h
    refine z_aload_n dX11_goesOn_18 rfl ?_
    refine z_dup dX11_goesOn_19 rfl ?_
    refine y_getI dX11_goesOn_20 cl11 sh_296 (by decide) (Nat.le_trans (by decide) hz) 11 rfl rfl (fl_M_242) ?_
    refine z_iconst dX11_goesOn_23 ?_
    refine z_iadd dX11_goesOn_24 ?_
    refine y_putI dX11_goesOn_25 cl11 sh_296 (by decide) (Nat.le_trans (by decide) hz) 11 rfl rfl rfl (fl_M_242) rfl rfl (inR_w32 _) ?_
    obtain rfl := someE h
    exact z_vret dX11_goesOn_28 hE trivial rfl
  replace h := ifF (fun q => q hc2) h
  refine z_aload_n dX11_goesOn_10 rfl ?_
  refine z_iconst dX11_goesOn_11 ?_
  obtain ⟨q3, hq4, h⟩ := bindE h
  refine z_callV (As := [vI 2]) (rest := []) (s_M_fail hz hG (inRd (x := 2) (by decide)) hq4) dX11_goesOn_12 mw_M_fail cl11 sh_296 (by decide) (Nat.le_trans (by decide) hz) ml_M_254 im_M_fail se_M_fail rfl rfl rfl rfl (Nat.le_refl _) (Nat.le_of_eq hb.symm) (fun hp5 => ?_)
  show Zt _ _ _ _ 15 _ [] (z, q3, J, G)
  refine z_goto (tgt := 28) dX11_goesOn_15 (by decide) ?_
  obtain rfl := someE h
  exact z_vret dX11_goesOn_28 hE trivial rfl
set_option maxHeartbeats 1000000 in
theorem s_M_must {l : Launch} {g : GX} {z : Nat} {G : Nat → Nat → Nat} {F : Nat} (hz : 353 ≤ z) (hG : lyM G) {x1 : Int} {I J : Nat → Nat → Int} (hx1 : inR x1) {res : MI} (h : f_M_must F x1 I J = some res) : Spec l g 2 yX11_must cX11_must 2 none [vR g 296, vI x1] (z, I, J, G) none True (z, res, J, G) := by
  refine spec_of (μ := mu_M_must) (k := 0) (L0 := [some (vR g 296), some (vI x1)]) rfl mw_M_must rfl rfl (Nat.le_refl _) (fun φ hb hE => ?_)
  refine z_aload_n dX11_must_0 rfl ?_
  refine z_iload_n dX11_must_1 rfl ?_
  obtain ⟨q1, hq2, h⟩ := bindE h
  refine z_callV (As := [vI x1]) (rest := []) (s_M_is hz hG hx1 hq2) dX11_must_2 mw_M_is cl11 sh_296 (by decide) (Nat.le_trans (by decide) hz) ml_M_257 im_M_is se_M_is rfl rfl rfl rfl (Nat.le_refl _) (Nat.le_of_eq hb.symm) (fun hp3 => ?_)
  show Zt _ _ _ _ 5 _ [vI q1] (z, I, J, G)
  refine z_if_eq (tgt := 15) dX11_must_5 (by decide) (inR_bool hp3) (fun hc4 => ?_) (fun hc4 => ?_)
  · replace h := ifT hc4 h
    refine z_aload_n dX11_must_15 rfl ?_
    refine z_iconst dX11_must_16 ?_
    obtain ⟨q5, hq6, h⟩ := bindE h
    refine z_callV (As := [vI 1]) (rest := []) (s_M_fail hz hG (inRd (x := 1) (by decide)) hq6) dX11_must_17 mw_M_fail cl11 sh_296 (by decide) (Nat.le_trans (by decide) hz) ml_M_254 im_M_fail se_M_fail rfl rfl rfl rfl (Nat.le_refl _) (Nat.le_of_eq hb.symm) (fun hp7 => ?_)
    show Zt _ _ _ _ 20 _ [] (z, q5, J, G)
    obtain rfl := someE h
    exact z_vret dX11_must_20 hE trivial rfl
  replace h := ifF hc4 h
  refine z_aload_n dX11_must_8 rfl ?_
  obtain ⟨q8, hq9, h⟩ := bindE h
  refine z_callV (As := []) (rest := []) (s_M_goesOn hz hG  hq9) dX11_must_9 mw_M_goesOn cl11 sh_296 (by decide) (Nat.le_trans (by decide) hz) ml_M_260 im_M_goesOn se_M_goesOn rfl rfl rfl rfl (Nat.le_refl _) (Nat.le_of_eq hb.symm) (fun hp10 => ?_)
  show Zt _ _ _ _ 12 _ [] (z, q8, J, G)
  refine z_goto (tgt := 20) dX11_must_12 (by decide) ?_
  obtain rfl := someE h
  exact z_vret dX11_must_20 hE trivial rfl
set_option maxHeartbeats 1000000 in
theorem t_M_plain_L45 {l : Launch} {g : GX} {φ : CX} {z : Nat} {G : Nat → Nat → Nat} {F : Nat} (hb : cb φ = z) (hz : 353 ≤ z) (hG : lyM G) {x1 : Int} {x2 : Int} {I J : Nat → Nat → Int} (hx1 : inR x1) (hx2 : inR x2) {res : (MI) ⊕ (Int × MI)} (h : f_M_plain_L45 F x1 x2 I J = some res) (kE : ∀ e : MI, res = .inl e → ((True) → Zt l g φ mu_M_plain 69 [some (vR g 296), some (vI x1), none] [] (z, e, J, G))) (kS : ∀ s : Int × MI, res = .inr s → (inR s.1) → Zt l g φ mu_M_plain 45 [some (vR g 296), some (vI x1), some (vI s.1)] [] (z, s.2, J, G)) : Zt l g φ mu_M_plain 45 [some (vR g 296), some (vI x1), some (vI x2)] [] (z, I, J, G) := by
  refine z_iload_n dX11_plain_45 rfl ?_
  refine z_bipush dX11_plain_46 (by decide +kernel) ?_
  refine z_icmp_ge (tgt := 69) dX11_plain_48 (by decide) hx2 (inRd (x := 96) (by decide)) (fun hc2 => ?_) (fun hc2 => ?_)
  · replace h := ifT hc2 h
    refine z_weak (L' := [some (vR g 296), some (vI x1), none]) (lsS (lsS (lsN ls0))) ?_
    exact kE _ (someE h).symm trivial
  replace h := ifF hc2 h
  refine z_aload_n dX11_plain_51 rfl ?_
  refine y_getR dX11_plain_52 cl11 sh_296 (by decide) (Nat.le_trans (by decide) hz) 25 rfl rfl (fl_M_52) (ly_296_25 hG) (by decide) ?_
  refine z_bipush dX11_plain_55 (by decide +kernel) ?_
  refine z_iload_n dX11_plain_57 rfl ?_
  refine z_imul dX11_plain_58 ?_
  refine z_iload_n dX11_plain_59 rfl ?_
  refine z_iadd dX11_plain_60 ?_
  refine z_iconst dX11_plain_61 ?_
  obtain ⟨hg3, h⟩ := guardE h
  refine y_iast dX11_plain_62 sh_308 (by decide) (Nat.le_trans (by decide) hz) (inR_w32 _) hg3 (inRd (x := 1) (by decide)) ?_
  refine z_iinc (L' := [some (vR g 296), some (vI x1), some (vI (w32 (x2 + 1)))]) dX11_plain_63 rfl rfl rfl rfl ?_
  refine z_goto (tgt := 45) dX11_plain_66 (by decide) ?_
  exact kS _ (someE h).symm (inR_w32 _)
theorem l_M_plain_L45 {l : Launch} {g : GX} {φ : CX} {z : Nat} {G : Nat → Nat → Nat} {F : Nat} (hb : cb φ = z) (hz : 353 ≤ z) (hG : lyM G) {x1 : Int} {J : Nat → Nat → Int} (hx1 : inR x1) (n : Nat) (s : Int × MI) (e : MI) (h : iter (fun s : Int × MI => f_M_plain_L45 F x1 s.1 s.2 J) n s = some e) (hs : inR s.1) (k : ((True) → Zt l g φ mu_M_plain 69 [some (vR g 296), some (vI x1), none] [] (z, e, J, G))) : Zt l g φ mu_M_plain 45 [some (vR g 296), some (vI x1), some (vI s.1)] [] (z, s.2, J, G) := by
  refine iter_ind (Z := fun s : Int × MI => Zt l g φ mu_M_plain 45 [some (vR g 296), some (vI x1), some (vI s.1)] [] (z, s.2, J, G)) (ZE := fun e : MI => ((True) → Zt l g φ mu_M_plain 69 [some (vR g 296), some (vI x1), none] [] (z, e, J, G))) (Rg := fun s : Int × MI => inR s.1) ?_ n s e h hs k
  intro s r hr hst kE kS
  exact t_M_plain_L45 hb hz hG hx1 hr hst kE kS
set_option maxHeartbeats 1000000 in
theorem t_M_plain_L71 {l : Launch} {g : GX} {φ : CX} {z : Nat} {G : Nat → Nat → Nat} {F : Nat} (hb : cb φ = z) (hz : 353 ≤ z) (hG : lyM G) {x1 : Int} {x2 : Int} {I J : Nat → Nat → Int} (hx1 : inR x1) (hx2 : inR x2) {res : (MI) ⊕ (Int × MI)} (h : f_M_plain_L71 F x1 x2 I J = some res) (kE : ∀ e : MI, res = .inl e → ((True) → Zt l g φ mu_M_plain 95 [some (vR g 296), some (vI x1), none] [] (z, e, J, G))) (kS : ∀ s : Int × MI, res = .inr s → (inR s.1) → Zt l g φ mu_M_plain 71 [some (vR g 296), some (vI x1), some (vI s.1)] [] (z, s.2, J, G)) : Zt l g φ mu_M_plain 71 [some (vR g 296), some (vI x1), some (vI x2)] [] (z, I, J, G) := by
  refine z_iload_n dX11_plain_71 rfl ?_
  refine z_bipush dX11_plain_72 (by decide +kernel) ?_
  refine z_icmp_ge (tgt := 95) dX11_plain_74 (by decide) hx2 (inRd (x := 8) (by decide)) (fun hc7 => ?_) (fun hc7 => ?_)
  · replace h := ifT hc7 h
    refine z_weak (L' := [some (vR g 296), some (vI x1), none]) (lsS (lsS (lsN ls0))) ?_
    exact kE _ (someE h).symm trivial
  replace h := ifF hc7 h
  refine z_aload_n dX11_plain_77 rfl ?_
  refine y_getR dX11_plain_78 cl11 sh_296 (by decide) (Nat.le_trans (by decide) hz) 26 rfl rfl (fl_M_55) (ly_296_26 hG) (by decide) ?_
  refine z_bipush dX11_plain_81 (by decide +kernel) ?_
  refine z_iload_n dX11_plain_83 rfl ?_
  refine z_imul dX11_plain_84 ?_
  refine z_iload_n dX11_plain_85 rfl ?_
  refine z_iadd dX11_plain_86 ?_
  refine z_iconst dX11_plain_87 ?_
  obtain ⟨hg8, h⟩ := guardE h
  refine y_iast dX11_plain_88 sh_309 (by decide) (Nat.le_trans (by decide) hz) (inR_w32 _) hg8 (inRd (x := 0) (by decide)) ?_
  refine z_iinc (L' := [some (vR g 296), some (vI x1), some (vI (w32 (x2 + 1)))]) dX11_plain_89 rfl rfl rfl rfl ?_
  refine z_goto (tgt := 71) dX11_plain_92 (by decide) ?_
  exact kS _ (someE h).symm (inR_w32 _)
theorem l_M_plain_L71 {l : Launch} {g : GX} {φ : CX} {z : Nat} {G : Nat → Nat → Nat} {F : Nat} (hb : cb φ = z) (hz : 353 ≤ z) (hG : lyM G) {x1 : Int} {J : Nat → Nat → Int} (hx1 : inR x1) (n : Nat) (s : Int × MI) (e : MI) (h : iter (fun s : Int × MI => f_M_plain_L71 F x1 s.1 s.2 J) n s = some e) (hs : inR s.1) (k : ((True) → Zt l g φ mu_M_plain 95 [some (vR g 296), some (vI x1), none] [] (z, e, J, G))) : Zt l g φ mu_M_plain 71 [some (vR g 296), some (vI x1), some (vI s.1)] [] (z, s.2, J, G) := by
  refine iter_ind (Z := fun s : Int × MI => Zt l g φ mu_M_plain 71 [some (vR g 296), some (vI x1), some (vI s.1)] [] (z, s.2, J, G)) (ZE := fun e : MI => ((True) → Zt l g φ mu_M_plain 95 [some (vR g 296), some (vI x1), none] [] (z, e, J, G))) (Rg := fun s : Int × MI => inR s.1) ?_ n s e h hs k
  intro s r hr hst kE kS
  exact t_M_plain_L71 hb hz hG hx1 hr hst kE kS
set_option maxHeartbeats 1000000 in
theorem t_M_plain_L97 {l : Launch} {g : GX} {φ : CX} {z : Nat} {G : Nat → Nat → Nat} {F : Nat} (hb : cb φ = z) (hz : 353 ≤ z) (hG : lyM G) {x1 : Int} {x2 : Int} {I J : Nat → Nat → Int} (hx1 : inR x1) (hx2 : inR x2) {res : (MI) ⊕ (Int × MI)} (h : f_M_plain_L97 F x1 x2 I J = some res) (kE : ∀ e : MI, res = .inl e → ((True) → Zt l g φ mu_M_plain 130 [none, none, none] [] (z, e, J, G))) (kS : ∀ s : Int × MI, res = .inr s → (inR s.1) → Zt l g φ mu_M_plain 97 [some (vR g 296), some (vI x1), some (vI s.1)] [] (z, s.2, J, G)) : Zt l g φ mu_M_plain 97 [some (vR g 296), some (vI x1), some (vI x2)] [] (z, I, J, G) := by
  refine z_iload_n dX11_plain_97 rfl ?_
  refine z_iconst dX11_plain_98 ?_
  refine z_icmp_ge (tgt := 130) dX11_plain_99 (by decide) hx2 (inRd (x := 2) (by decide)) (fun hc12 => ?_) (fun hc12 => ?_)
  · replace h := ifT hc12 h
    refine z_weak (L' := [none, none, none]) (lsN (lsN (lsN ls0))) ?_
    exact kE _ (someE h).symm trivial
  replace h := ifF hc12 h
  refine z_aload_n dX11_plain_102 rfl ?_
  refine y_getR dX11_plain_103 cl11 sh_296 (by decide) (Nat.le_trans (by decide) hz) 36 rfl rfl (fl_M_85) (ly_296_36 hG) (by decide) ?_
  refine z_iconst dX11_plain_106 ?_
  refine z_iload_n dX11_plain_107 rfl ?_
  refine z_imul dX11_plain_108 ?_
  refine z_iload_n dX11_plain_109 rfl ?_
  refine z_iadd dX11_plain_110 ?_
  refine z_iconst dX11_plain_111 ?_
  obtain ⟨hg13, h⟩ := guardE h
  refine y_iast dX11_plain_112 sh_319 (by decide) (Nat.le_trans (by decide) hz) (inR_w32 _) hg13 (inRd (x := 0) (by decide)) ?_
  refine z_aload_n dX11_plain_113 rfl ?_
  refine y_getR dX11_plain_114 cl11 sh_296 (by decide) (Nat.le_trans (by decide) hz) 37 rfl rfl (fl_M_88) (ly_296_37 hG) (by decide) ?_
  refine z_iconst dX11_plain_117 ?_
  refine z_iload_n dX11_plain_118 rfl ?_
  refine z_imul dX11_plain_119 ?_
  refine z_iload_n dX11_plain_120 rfl ?_
  refine z_iadd dX11_plain_121 ?_
  refine z_iconst dX11_plain_122 ?_
  refine y_iast dX11_plain_123 sh_320 (by decide) (Nat.le_trans (by decide) hz) (inR_w32 _) hg13 (inRd (x := 0) (by decide)) ?_
  refine z_iinc (L' := [some (vR g 296), some (vI x1), some (vI (w32 (x2 + 1)))]) dX11_plain_124 rfl rfl rfl rfl ?_
  refine z_goto (tgt := 97) dX11_plain_127 (by decide) ?_
  exact kS _ (someE h).symm (inR_w32 _)
theorem l_M_plain_L97 {l : Launch} {g : GX} {φ : CX} {z : Nat} {G : Nat → Nat → Nat} {F : Nat} (hb : cb φ = z) (hz : 353 ≤ z) (hG : lyM G) {x1 : Int} {J : Nat → Nat → Int} (hx1 : inR x1) (n : Nat) (s : Int × MI) (e : MI) (h : iter (fun s : Int × MI => f_M_plain_L97 F x1 s.1 s.2 J) n s = some e) (hs : inR s.1) (k : ((True) → Zt l g φ mu_M_plain 130 [none, none, none] [] (z, e, J, G))) : Zt l g φ mu_M_plain 97 [some (vR g 296), some (vI x1), some (vI s.1)] [] (z, s.2, J, G) := by
  refine iter_ind (Z := fun s : Int × MI => Zt l g φ mu_M_plain 97 [some (vR g 296), some (vI x1), some (vI s.1)] [] (z, s.2, J, G)) (ZE := fun e : MI => ((True) → Zt l g φ mu_M_plain 130 [none, none, none] [] (z, e, J, G))) (Rg := fun s : Int × MI => inR s.1) ?_ n s e h hs k
  intro s r hr hst kE kS
  exact t_M_plain_L97 hb hz hG hx1 hr hst kE kS
set_option maxHeartbeats 1000000 in
theorem s_M_plain {l : Launch} {g : GX} {z : Nat} {G : Nat → Nat → Nat} {F : Nat} (hz : 353 ≤ z) (hG : lyM G) {x1 : Int} {I J : Nat → Nat → Int} (hx1 : inR x1) {res : MI} (h : f_M_plain F x1 I J = some res) : Spec l g 0 yX11_plain cX11_plain 3 none [vR g 296, vI x1] (z, I, J, G) none True (z, res, J, G) := by
  refine spec_of (μ := mu_M_plain) (k := 1) (L0 := [some (vR g 296), some (vI x1), none]) rfl mw_M_plain rfl rfl (Nat.le_refl _) (fun φ hb hE => ?_)
  refine z_aload_n dX11_plain_0 rfl ?_
  refine y_getR dX11_plain_1 cl11 sh_296 (by decide) (Nat.le_trans (by decide) hz) 22 rfl rfl (fl_M_43) (ly_296_22 hG) (by decide) ?_
  refine z_iload_n dX11_plain_4 rfl ?_
  refine z_bipush dX11_plain_5 (by decide +kernel) ?_
  obtain ⟨hg1, h⟩ := guardE h
  refine y_iast dX11_plain_7 sh_305 (by decide) (Nat.le_trans (by decide) hz) hx1 hg1 (inRd (x := 8) (by decide)) ?_
  refine z_aload_n dX11_plain_8 rfl ?_
  refine y_getR dX11_plain_9 cl11 sh_296 (by decide) (Nat.le_trans (by decide) hz) 23 rfl rfl (fl_M_46) (ly_296_23 hG) (by decide) ?_
  refine z_iload_n dX11_plain_12 rfl ?_
  refine z_iconst dX11_plain_13 ?_
  refine y_iast dX11_plain_14 sh_306 (by decide) (Nat.le_trans (by decide) hz) hx1 hg1 (inRd (x := 4) (by decide)) ?_
  refine z_aload_n dX11_plain_15 rfl ?_
  refine y_getR dX11_plain_16 cl11 sh_296 (by decide) (Nat.le_trans (by decide) hz) 24 rfl rfl (fl_M_49) (ly_296_24 hG) (by decide) ?_
  refine z_iload_n dX11_plain_19 rfl ?_
  refine z_iconst dX11_plain_20 ?_
  refine y_iast dX11_plain_21 sh_307 (by decide) (Nat.le_trans (by decide) hz) hx1 hg1 (inRd (x := 0) (by decide)) ?_
  refine z_aload_n dX11_plain_22 rfl ?_
  refine y_getR dX11_plain_23 cl11 sh_296 (by decide) (Nat.le_trans (by decide) hz) 27 rfl rfl (fl_M_58) (ly_296_27 hG) (by decide) ?_
  refine z_iload_n dX11_plain_26 rfl ?_
  refine z_iconst dX11_plain_27 ?_
  refine y_iast dX11_plain_28 sh_310 (by decide) (Nat.le_trans (by decide) hz) hx1 hg1 (inRd (x := 1) (by decide)) ?_
  refine z_aload_n dX11_plain_29 rfl ?_
  refine y_getR dX11_plain_30 cl11 sh_296 (by decide) (Nat.le_trans (by decide) hz) 28 rfl rfl (fl_M_61) (ly_296_28 hG) (by decide) ?_
  refine z_iload_n dX11_plain_33 rfl ?_
  refine z_iconst dX11_plain_34 ?_
  refine y_iast dX11_plain_35 sh_311 (by decide) (Nat.le_trans (by decide) hz) hx1 hg1 (inRd (x := 0) (by decide)) ?_
  refine z_aload_n dX11_plain_36 rfl ?_
  refine y_getR dX11_plain_37 cl11 sh_296 (by decide) (Nat.le_trans (by decide) hz) 33 rfl rfl (fl_M_76) (ly_296_33 hG) (by decide) ?_
  refine z_iload_n dX11_plain_40 rfl ?_
  refine z_iconst dX11_plain_41 ?_
  refine y_iast dX11_plain_42 sh_316 (by decide) (Nat.le_trans (by decide) hz) hx1 hg1 (inRd (x := 0) (by decide)) ?_
  refine z_iconst dX11_plain_43 ?_
  refine z_istore_n (L' := [some (vR g 296), some (vI x1), some (vI 0)]) dX11_plain_44 rfl rfl rfl ?_
  obtain ⟨e4, h5, h⟩ := bindE h
  refine l_M_plain_L45 hb hz hG hx1 _ _ _ h5 (inRd (x := 0) (by decide)) ?_
  refine fun h6 => ?_
  refine z_iconst dX11_plain_69 ?_
  refine z_istore_n (L' := [some (vR g 296), some (vI x1), some (vI 0)]) dX11_plain_70 rfl rfl rfl ?_
  obtain ⟨e9, h10, h⟩ := bindE h
  refine l_M_plain_L71 hb hz hG hx1 _ _ _ h10 (inRd (x := 0) (by decide)) ?_
  refine fun h11 => ?_
  refine z_iconst dX11_plain_95 ?_
  refine z_istore_n (L' := [some (vR g 296), some (vI x1), some (vI 0)]) dX11_plain_96 rfl rfl rfl ?_
  obtain ⟨e14, h15, h⟩ := bindE h
  refine l_M_plain_L97 hb hz hG hx1 _ _ _ h15 (inRd (x := 0) (by decide)) ?_
  refine fun h16 => ?_
  obtain rfl := someE h
  exact z_vret dX11_plain_130 hE trivial rfl
set_option maxHeartbeats 1000000 in
theorem t_M_begins_b25in2 {l : Launch} {g : GX} {φ : CX} {z : Nat} {G : Nat → Nat → Nat} {F : Nat} (hb : cb φ = z) (hz : 353 ≤ z) (hG : lyM G) {x1 : Int} {s1 : Int} {s2 : Int} {I J : Nat → Nat → Int} (hx1 : inR x1) (hs1 : inR s1) (hs2 : inR s2) {res : (MI) ⊕ (Int × MI)} (h : f_M_begins_b25in2 F x1 s1 s2 I J = some res) (kE : ∀ e : MI, res = .inl e → ((True) → Zt l g φ mu_M_begins 32 [none, none] [] (z, e, J, G))) (kS : ∀ s : Int × MI, res = .inr s → (inR s.1) → Zt l g φ mu_M_begins 2 [some (vR g 296), some (vI s.1)] [] (z, s.2, J, G)) : Zt l g φ mu_M_begins 25 [some (vR g 296), some (vI x1)] [vI s2, vI s1, vR g 331] (z, I, J, G) := by
  obtain ⟨hg3, h⟩ := guardE h
  refine y_iast dX11_begins_25 sh_331 (by decide) (Nat.le_trans (by decide) hz) hs1 hg3 hs2 ?_
  refine z_iinc (L' := [some (vR g 296), some (vI (w32 (x1 + 1)))]) dX11_begins_26 rfl rfl rfl rfl ?_
  refine z_goto (tgt := 2) dX11_begins_29 (by decide) ?_
  exact kS _ (someE h).symm (inR_w32 _)
set_option maxHeartbeats 1000000 in
theorem t_M_begins_L2 {l : Launch} {g : GX} {φ : CX} {z : Nat} {G : Nat → Nat → Nat} {F : Nat} (hb : cb φ = z) (hz : 353 ≤ z) (hG : lyM G) {x1 : Int} {I J : Nat → Nat → Int} (hx1 : inR x1) {res : (MI) ⊕ (Int × MI)} (h : f_M_begins_L2 F x1 I J = some res) (kE : ∀ e : MI, res = .inl e → ((True) → Zt l g φ mu_M_begins 32 [none, none] [] (z, e, J, G))) (kS : ∀ s : Int × MI, res = .inr s → (inR s.1) → Zt l g φ mu_M_begins 2 [some (vR g 296), some (vI s.1)] [] (z, s.2, J, G)) : Zt l g φ mu_M_begins 2 [some (vR g 296), some (vI x1)] [] (z, I, J, G) := by
  refine z_iload_n dX11_begins_2 rfl ?_
  refine z_sipush dX11_begins_3 (by decide +kernel) ?_
  refine z_icmp_ge (tgt := 32) dX11_begins_6 (by decide) hx1 (inRd (x := 250) (by decide)) (fun hc1 => ?_) (fun hc1 => ?_)
  · replace h := ifT hc1 h
    refine z_weak (L' := [none, none]) (lsN (lsN ls0)) ?_
    exact kE _ (someE h).symm trivial
  replace h := ifF hc1 h
  refine z_aload_n dX11_begins_9 rfl ?_
  refine y_getR dX11_begins_10 cl11 sh_296 (by decide) (Nat.le_trans (by decide) hz) 52 rfl rfl (fl_M_122) (ly_296_52 hG) (by decide) ?_
  refine z_iload_n dX11_begins_13 rfl ?_
  refine z_iload_n dX11_begins_14 rfl ?_
  refine z_bipush dX11_begins_15 (by decide +kernel) ?_
  refine z_icmp_ge (tgt := 24) dX11_begins_17 (by decide) hx1 (inRd (x := 72) (by decide)) (fun hc2 => ?_) (fun hc2 => ?_)
  · replace h := ifT hc2 h
    refine z_iconst dX11_begins_24 ?_
    exact t_M_begins_b25in2 hb hz hG hx1 hx1 (inRd (x := 0) (by decide)) h kE kS
  replace h := ifF hc2 h
  refine z_iconst dX11_begins_20 ?_
  refine z_goto (tgt := 25) dX11_begins_21 (by decide) ?_
  exact t_M_begins_b25in2 hb hz hG hx1 hx1 (inRd (x := (-1)) (by decide)) h kE kS
theorem l_M_begins_L2 {l : Launch} {g : GX} {φ : CX} {z : Nat} {G : Nat → Nat → Nat} {F : Nat} (hb : cb φ = z) (hz : 353 ≤ z) (hG : lyM G) {J : Nat → Nat → Int} (n : Nat) (s : Int × MI) (e : MI) (h : iter (fun s : Int × MI => f_M_begins_L2 F s.1 s.2 J) n s = some e) (hs : inR s.1) (k : ((True) → Zt l g φ mu_M_begins 32 [none, none] [] (z, e, J, G))) : Zt l g φ mu_M_begins 2 [some (vR g 296), some (vI s.1)] [] (z, s.2, J, G) := by
  refine iter_ind (Z := fun s : Int × MI => Zt l g φ mu_M_begins 2 [some (vR g 296), some (vI s.1)] [] (z, s.2, J, G)) (ZE := fun e : MI => ((True) → Zt l g φ mu_M_begins 32 [none, none] [] (z, e, J, G))) (Rg := fun s : Int × MI => inR s.1) ?_ n s e h hs k
  intro s r hr hst kE kS
  exact t_M_begins_L2 hb hz hG hr hst kE kS
set_option maxHeartbeats 1000000 in
theorem s_M_begins {l : Launch} {g : GX} {z : Nat} {G : Nat → Nat → Nat} {F : Nat} (hz : 353 ≤ z) (hG : lyM G) {I J : Nat → Nat → Int} {res : MI} (h : f_M_begins F I J = some res) : Spec l g 0 yX11_begins cX11_begins 2 none [vR g 296] (z, I, J, G) none True (z, res, J, G) := by
  refine spec_of (μ := mu_M_begins) (k := 1) (L0 := [some (vR g 296), none]) rfl mw_M_begins rfl rfl (Nat.le_refl _) (fun φ hb hE => ?_)
  refine z_iconst dX11_begins_0 ?_
  refine z_istore_n (L' := [some (vR g 296), some (vI 0)]) dX11_begins_1 rfl rfl rfl ?_
  obtain ⟨e4, h5, h⟩ := bindE h
  refine l_M_begins_L2 hb hz hG  _ _ _ h5 (inRd (x := 0) (by decide)) ?_
  refine fun h6 => ?_
  obtain rfl := someE h
  exact z_vret dX11_begins_32 hE trivial rfl
set_option maxHeartbeats 1000000 in
theorem t_M_bounded_b15 {l : Launch} {g : GX} {φ : CX} {z : Nat} {G : Nat → Nat → Nat} {F : Nat} (hb : cb φ = z) (hz : 353 ≤ z) (hG : lyM G) {x1 : Int} {I J : Nat → Nat → Int} (hx1 : inR x1) {res : Int × MI} (h : f_M_bounded_b15 F x1 I J = some res) (hE : ends g φ (some .int) (some (vI res.1)) (inR res.1) (z, res.2, J, G)) : Zt l g φ mu_M_bounded 15 [some (vR g 296), some (vI x1), none, none] [] (z, I, J, G) := by
  refine z_aload_n dX11_bounded_15 rfl ?_
  refine z_iconst dX11_bounded_16 ?_
  obtain ⟨q3, hq4, h⟩ := bindE h
  refine z_callV (As := [vI 1]) (rest := []) (s_M_fail hz hG (inRd (x := 1) (by decide)) hq4) dX11_bounded_17 mw_M_fail cl11 sh_296 (by decide) (Nat.le_trans (by decide) hz) ml_M_254 im_M_fail se_M_fail rfl rfl rfl rfl (Nat.le_refl _) (Nat.le_of_eq hb.symm) (fun hp5 => ?_)
  show Zt _ _ _ _ 20 _ [] (z, q3, J, G)
  refine z_iload_n dX11_bounded_20 rfl ?_
  obtain rfl := someE h
  exact z_iret dX11_bounded_21 hE hx1 rfl
set_option maxHeartbeats 1000000 in
theorem t_M_bounded_b51 {l : Launch} {g : GX} {φ : CX} {z : Nat} {G : Nat → Nat → Nat} {F : Nat} (hb : cb φ = z) (hz : 353 ≤ z) (hG : lyM G) {x3 : Int} {I J : Nat → Nat → Int} (hx3 : inR x3) {res : Int × MI} (h : f_M_bounded_b51 F x3 I J = some res) (hE : ends g φ (some .int) (some (vI res.1)) (inR res.1) (z, res.2, J, G)) : Zt l g φ mu_M_bounded 51 [some (vR g 296), none, none, some (vI x3)] [] (z, I, J, G) := by
  refine z_aload_n dX11_bounded_51 rfl ?_
  obtain ⟨q16, hq17, h⟩ := bindE h
  refine z_callV (As := []) (rest := []) (s_M_goesOn hz hG  hq17) dX11_bounded_52 mw_M_goesOn cl11 sh_296 (by decide) (Nat.le_trans (by decide) hz) ml_M_260 im_M_goesOn se_M_goesOn rfl rfl rfl rfl (Nat.le_refl _) (Nat.le_of_eq hb.symm) (fun hp18 => ?_)
  show Zt _ _ _ _ 55 _ [] (z, q16, J, G)
  refine z_iload_n dX11_bounded_55 rfl ?_
  obtain rfl := someE h
  exact z_iret dX11_bounded_56 hE hx3 rfl
set_option maxHeartbeats 1000000 in
theorem t_M_bounded_b42 {l : Launch} {g : GX} {φ : CX} {z : Nat} {G : Nat → Nat → Nat} {F : Nat} (hb : cb φ = z) (hz : 353 ≤ z) (hG : lyM G) {x3 : Int} {I J : Nat → Nat → Int} (hx3 : inR x3) {res : Int × MI} (h : f_M_bounded_b42 F x3 I J = some res) (hE : ends g φ (some .int) (some (vI res.1)) (inR res.1) (z, res.2, J, G)) : Zt l g φ mu_M_bounded 42 [some (vR g 296), none, none, some (vI x3)] [] (z, I, J, G) := by
  refine z_aload_n dX11_bounded_42 rfl ?_
  refine z_iconst dX11_bounded_43 ?_
  refine z_aload_n dX11_bounded_44 rfl ?_
  refine z_nm (fun hN12 => ?_)
  refine y_getI dX11_bounded_45 cl11 sh_296 (by decide) (Nat.le_trans (by decide) hz) 11 rfl rfl (fl_M_242) ?_
  obtain ⟨q13, hq14, h⟩ := bindE h
  refine z_callV (As := [vI 5, vI (I 296 11)]) (rest := []) (s_M_wrong hz hG (inRd (x := 5) (by decide)) (hN12.1 296 11) hq14) dX11_bounded_48 mw_M_wrong cl11 sh_296 (by decide) (Nat.le_trans (by decide) hz) ml_M_316 im_M_wrong se_M_wrong rfl rfl rfl rfl (Nat.le_refl _) (Nat.le_of_eq hb.symm) (fun hp15 => ?_)
  show Zt _ _ _ _ 51 _ [] (z, q13, J, G)
  exact t_M_bounded_b51 hb hz hG hx3 h hE
set_option maxHeartbeats 1000000 in
theorem s_M_bounded {l : Launch} {g : GX} {z : Nat} {G : Nat → Nat → Nat} {F : Nat} (hz : 353 ≤ z) (hG : lyM G) {x1 : Int} {x2 : Int} {I J : Nat → Nat → Int} (hx1 : inR x1) (hx2 : inR x2) {res : Int × MI} (h : f_M_bounded F x1 x2 I J = some res) : Spec l g 2 yX11_bounded cX11_bounded 4 (some .int) [vR g 296, vI x1, vI x2] (z, I, J, G) (some (vI res.1)) (inR res.1) (z, res.2, J, G) := by
  refine spec_of (μ := mu_M_bounded) (k := 1) (L0 := [some (vR g 296), some (vI x1), some (vI x2), none]) rfl mw_M_bounded rfl rfl (Nat.le_refl _) (fun φ hb hE => ?_)
  refine z_aload_n dX11_bounded_0 rfl ?_
  refine z_nm (fun hN1 => ?_)
  refine y_getI dX11_bounded_1 cl11 sh_296 (by decide) (Nat.le_trans (by decide) hz) 13 rfl rfl (fl_M_239) ?_
  refine z_if_gt (tgt := 15) dX11_bounded_4 (by decide) (hN1.1 296 13) (fun hc2 => ?_) (fun hc2 => ?_)
  · replace h := ifT hc2 h
    refine z_weak (L' := [some (vR g 296), some (vI x1), none, none]) (lsS (lsS (lsN (lsN ls0)))) ?_
    exact t_M_bounded_b15 hb hz hG hx1 h hE
  replace h := ifF hc2 h
  refine z_aload_n dX11_bounded_7 rfl ?_
  refine z_iconst dX11_bounded_8 ?_
  obtain ⟨q6, hq7, h⟩ := bindE h
  refine z_callV (As := [vI 2]) (rest := []) (s_M_is hz hG (inRd (x := 2) (by decide)) hq7) dX11_bounded_9 mw_M_is cl11 sh_296 (by decide) (Nat.le_trans (by decide) hz) ml_M_257 im_M_is se_M_is rfl rfl rfl rfl (Nat.le_refl _) (Nat.le_of_eq hb.symm) (fun hp8 => ?_)
  show Zt _ _ _ _ 12 _ [vI q6] (z, I, J, G)
  refine z_if_ne (tgt := 22) dX11_bounded_12 (by decide) (inR_bool hp8) (fun hc9 => ?_) (fun hc9 => ?_)
  · replace h := ifT hc9 h
    refine z_aload_n dX11_bounded_22 rfl ?_
    refine y_getR dX11_bounded_23 cl11 sh_296 (by decide) (Nat.le_trans (by decide) hz) 7 rfl rfl (fl_M_27) (ly_296_7 hG) (by decide) ?_
    refine z_aload_n dX11_bounded_26 rfl ?_
    refine y_getI dX11_bounded_27 cl11 sh_296 (by decide) (Nat.le_trans (by decide) hz) 11 rfl rfl (fl_M_242) ?_
    obtain ⟨hg10, h⟩ := guardE h
    refine y_iald dX11_bounded_30 sh_301 (by decide) (Nat.le_trans (by decide) hz) (hN1.1 296 11) hg10 ?_
    refine z_istore_n (L' := [some (vR g 296), some (vI x1), some (vI x2), some (vI (I 301 ((I 296 11)).toNat))]) dX11_bounded_31 rfl rfl rfl ?_
    refine z_iload_n dX11_bounded_32 rfl ?_
    refine z_iload_n dX11_bounded_33 rfl ?_
    refine z_icmp_lt (tgt := 42) dX11_bounded_34 (by decide) (hN1.1 301 ((I 296 11)).toNat) hx1 (fun hc11 => ?_) (fun hc11 => ?_)
    · replace h := ifT hc11 h
      refine z_weak (L' := [some (vR g 296), none, none, some (vI (I 301 ((I 296 11)).toNat))]) (lsS (lsN (lsN (lsS ls0)))) ?_
      exact t_M_bounded_b42 hb hz hG (hN1.1 301 ((I 296 11)).toNat) h hE
    replace h := ifF hc11 h
    refine z_iload_n dX11_bounded_37 rfl ?_
    refine z_iload_n dX11_bounded_38 rfl ?_
    refine z_icmp_le (tgt := 51) dX11_bounded_39 (by decide) (hN1.1 301 ((I 296 11)).toNat) hx2 (fun hc19 => ?_) (fun hc19 => ?_)
    · replace h := ifT hc19 h
      refine z_weak (L' := [some (vR g 296), none, none, some (vI (I 301 ((I 296 11)).toNat))]) (lsS (lsN (lsN (lsS ls0)))) ?_
      exact t_M_bounded_b51 hb hz hG (hN1.1 301 ((I 296 11)).toNat) h hE
    replace h := ifF hc19 h
    refine z_weak (L' := [some (vR g 296), none, none, some (vI (I 301 ((I 296 11)).toNat))]) (lsS (lsN (lsN (lsS ls0)))) ?_
    exact t_M_bounded_b42 hb hz hG (hN1.1 301 ((I 296 11)).toNat) h hE
  replace h := ifF (fun q => q hc9) h
  refine z_weak (L' := [some (vR g 296), some (vI x1), none, none]) (lsS (lsS (lsN (lsN ls0)))) ?_
  exact t_M_bounded_b15 hb hz hG hx1 h hE
set_option maxHeartbeats 1000000 in
theorem t_M_roomFor_b10 {l : Launch} {g : GX} {φ : CX} {z : Nat} {G : Nat → Nat → Nat} {F : Nat} (hb : cb φ = z) (hz : 353 ≤ z) (hG : lyM G) {I J : Nat → Nat → Int} {res : MI} (h : f_M_roomFor_b10 F I J = some res) (hE : ends g φ none none True (z, res, J, G)) : Zt l g φ mu_M_roomFor 10 [some (vR g 296), none, none] [] (z, I, J, G) := by
  refine z_aload_n dX11_roomFor_10 rfl ?_
  refine z_nm (fun hN2 => ?_)
  refine y_getI dX11_roomFor_11 cl11 sh_296 (by decide) (Nat.le_trans (by decide) hz) 13 rfl rfl (fl_M_239) ?_
  refine z_if_ne (tgt := 21) dX11_roomFor_14 (by decide) (hN2.1 296 13) (fun hc3 => ?_) (fun hc3 => ?_)
  · replace h := ifT hc3 h
    obtain rfl := someE h
    exact z_vret dX11_roomFor_21 hE trivial rfl
  replace h := ifF (fun q => q hc3) h
  refine z_aload_n dX11_roomFor_17 rfl ?_
  obtain ⟨q4, hq5, h⟩ := bindE h
  refine z_callV (As := []) (rest := []) (s_M_goesOn hz hG  hq5) dX11_roomFor_18 mw_M_goesOn cl11 sh_296 (by decide) (Nat.le_trans (by decide) hz) ml_M_260 im_M_goesOn se_M_goesOn rfl rfl rfl rfl (Nat.le_refl _) (Nat.le_of_eq hb.symm) (fun hp6 => ?_)
  show Zt _ _ _ _ 21 _ [] (z, q4, J, G)
  obtain rfl := someE h
  exact z_vret dX11_roomFor_21 hE trivial rfl
set_option maxHeartbeats 1000000 in
theorem s_M_roomFor {l : Launch} {g : GX} {z : Nat} {G : Nat → Nat → Nat} {F : Nat} (hz : 353 ≤ z) (hG : lyM G) {x1 : Int} {x2 : Int} {I J : Nat → Nat → Int} (hx1 : inR x1) (hx2 : inR x2) {res : MI} (h : f_M_roomFor F x1 x2 I J = some res) : Spec l g 2 yX11_roomFor cX11_roomFor 3 none [vR g 296, vI x1, vI x2] (z, I, J, G) none True (z, res, J, G) := by
  refine spec_of (μ := mu_M_roomFor) (k := 0) (L0 := [some (vR g 296), some (vI x1), some (vI x2)]) rfl mw_M_roomFor rfl rfl (Nat.le_refl _) (fun φ hb hE => ?_)
  refine z_iload_n dX11_roomFor_0 rfl ?_
  refine z_iload_n dX11_roomFor_1 rfl ?_
  refine z_icmp_ne (tgt := 10) dX11_roomFor_2 (by decide) hx1 hx2 (fun hc1 => ?_) (fun hc1 => ?_)
  · replace h := ifT hc1 h
    refine z_weak (L' := [some (vR g 296), none, none]) (lsS (lsN (lsN ls0))) ?_
    exact t_M_roomFor_b10 hb hz hG  h hE
  replace h := ifF (fun q => q hc1) h
  refine z_aload_n dX11_roomFor_5 rfl ?_
  refine z_iconst dX11_roomFor_6 ?_
  obtain ⟨q7, hq8, h⟩ := bindE h
  refine z_callV (As := [vI 2]) (rest := []) (s_M_fail hz hG (inRd (x := 2) (by decide)) hq8) dX11_roomFor_7 mw_M_fail cl11 sh_296 (by decide) (Nat.le_trans (by decide) hz) ml_M_254 im_M_fail se_M_fail rfl rfl rfl rfl (Nat.le_refl _) (Nat.le_of_eq hb.symm) (fun hp9 => ?_)
  show Zt _ _ _ _ 10 _ [] (z, q7, J, G)
  refine z_weak (L' := [some (vR g 296), none, none]) (lsS (lsN (lsN ls0))) ?_
  exact t_M_roomFor_b10 hb hz hG  h hE
set_option maxHeartbeats 1000000 in
theorem s_M_tellDepth {l : Launch} {g : GX} {z : Nat} {G : Nat → Nat → Nat} {F : Nat} (hz : 353 ≤ z) (hG : lyM G) {I J : Nat → Nat → Int} {res : MI} (h : f_M_tellDepth F I J = some res) : Spec l g 3 yX11_tellDepth cX11_tellDepth 4 none [vR g 296] (z, I, J, G) none True (z, res, J, G) := by
  refine spec_of (μ := mu_M_tellDepth) (k := 3) (L0 := [some (vR g 296), none, none, none]) rfl mw_M_tellDepth rfl rfl (Nat.le_refl _) (fun φ hb hE => ?_)
  refine z_aload_n dX11_tellDepth_0 rfl ?_
  refine z_iconst dX11_tellDepth_1 ?_
  refine z_bipush dX11_tellDepth_2 (by decide +kernel) ?_
  obtain ⟨q1, hq2, h⟩ := bindE h
  refine z_callV (As := [vI 0, vI 11]) (rest := []) (s_M_bounded hz hG (inRd (x := 0) (by decide)) (inRd (x := 11) (by decide)) hq2) dX11_tellDepth_4 mw_M_bounded cl11 sh_296 (by decide) (Nat.le_trans (by decide) hz) ml_M_293 im_M_bounded se_M_bounded rfl rfl rfl rfl (Nat.le_refl _) (Nat.le_of_eq hb.symm) (fun hp3 => ?_)
  show Zt _ _ _ _ 7 _ [vI q1.1] (z, q1.2, J, G)
  refine z_istore_n (L' := [some (vR g 296), some (vI q1.1), none, none]) dX11_tellDepth_7 rfl rfl rfl ?_
  refine z_aload_n dX11_tellDepth_8 rfl ?_
  refine z_iconst dX11_tellDepth_9 ?_
  refine z_bipush dX11_tellDepth_10 (by decide +kernel) ?_
  obtain ⟨q4, hq5, h⟩ := bindE h
  refine z_callV (As := [vI 0, vI 7]) (rest := []) (s_M_bounded hz hG (inRd (x := 0) (by decide)) (inRd (x := 7) (by decide)) hq5) dX11_tellDepth_12 mw_M_bounded cl11 sh_296 (by decide) (Nat.le_trans (by decide) hz) ml_M_293 im_M_bounded se_M_bounded rfl rfl rfl rfl (Nat.le_refl _) (Nat.le_of_eq hb.symm) (fun hp6 => ?_)
  show Zt _ _ _ _ 15 _ [vI q4.1] (z, q4.2, J, G)
  refine z_istore_n (L' := [some (vR g 296), some (vI q1.1), some (vI q4.1), none]) dX11_tellDepth_15 rfl rfl rfl ?_
  refine z_aload_n dX11_tellDepth_16 rfl ?_
  refine z_iconst dX11_tellDepth_17 ?_
  refine z_bipush dX11_tellDepth_18 (by decide +kernel) ?_
  obtain ⟨q7, hq8, h⟩ := bindE h
  refine z_callV (As := [vI 0, vI 9]) (rest := []) (s_M_bounded hz hG (inRd (x := 0) (by decide)) (inRd (x := 9) (by decide)) hq8) dX11_tellDepth_20 mw_M_bounded cl11 sh_296 (by decide) (Nat.le_trans (by decide) hz) ml_M_293 im_M_bounded se_M_bounded rfl rfl rfl rfl (Nat.le_refl _) (Nat.le_of_eq hb.symm) (fun hp9 => ?_)
  show Zt _ _ _ _ 23 _ [vI q7.1] (z, q7.2, J, G)
  refine z_istore_n (L' := [some (vR g 296), some (vI q1.1), some (vI q4.1), some (vI q7.1)]) dX11_tellDepth_23 rfl rfl rfl ?_
  refine z_aload_n dX11_tellDepth_24 rfl ?_
  refine z_iconst dX11_tellDepth_25 ?_
  obtain ⟨q10, hq11, h⟩ := bindE h
  refine z_callV (As := [vI 4]) (rest := []) (s_M_must hz hG (inRd (x := 4) (by decide)) hq11) dX11_tellDepth_26 mw_M_must cl11 sh_296 (by decide) (Nat.le_trans (by decide) hz) ml_M_297 im_M_must se_M_must rfl rfl rfl rfl (Nat.le_refl _) (Nat.le_of_eq hb.symm) (fun hp12 => ?_)
  show Zt _ _ _ _ 29 _ [] (z, q10, J, G)
  refine z_aload_n dX11_tellDepth_29 rfl ?_
  refine z_nm (fun hN13 => ?_)
  refine y_getI dX11_tellDepth_30 cl11 sh_296 (by decide) (Nat.le_trans (by decide) hz) 13 rfl rfl (fl_M_239) ?_
  refine z_if_le (tgt := 37) dX11_tellDepth_33 (by decide) (hN13.1 296 13) (fun hc14 => ?_) (fun hc14 => ?_)
  · replace h := ifT hc14 h
    refine z_aload_n dX11_tellDepth_37 rfl ?_
    refine y_getR dX11_tellDepth_38 cl11 sh_296 (by decide) (Nat.le_trans (by decide) hz) 24 rfl rfl (fl_M_49) (ly_296_24 hG) (by decide) ?_
    refine z_aload_n dX11_tellDepth_41 rfl ?_
    refine y_getI dX11_tellDepth_42 cl11 sh_296 (by decide) (Nat.le_trans (by decide) hz) 19 rfl rfl (fl_M_272) ?_
    refine z_dup2 dX11_tellDepth_45 rfl rfl ?_
    obtain ⟨hg15, h⟩ := guardE h
    refine y_iald dX11_tellDepth_46 sh_307 (by decide) (Nat.le_trans (by decide) hz) (hN13.1 296 19) hg15 ?_
    refine z_iconst dX11_tellDepth_47 ?_
    refine z_iadd dX11_tellDepth_48 ?_
    refine y_iast dX11_tellDepth_49 sh_307 (by decide) (Nat.le_trans (by decide) hz) (hN13.1 296 19) hg15 (inR_w32 _) ?_
    refine z_iload_n dX11_tellDepth_50 rfl ?_
    refine z_bipush dX11_tellDepth_51 (by decide +kernel) ?_
    refine z_icmp_ge (tgt := 82) dX11_tellDepth_53 (by decide) hp3 (inRd (x := 12) (by decide)) (fun hc16 => ?_) (fun hc16 => ?_)
    · replace h := ifT hc16 h
      obtain rfl := someE h
      exact z_vret dX11_tellDepth_82 hE trivial rfl
    replace h := ifF hc16 h
    refine z_iload_n dX11_tellDepth_56 rfl ?_
    refine z_bipush dX11_tellDepth_57 (by decide +kernel) ?_
    refine z_icmp_ge (tgt := 82) dX11_tellDepth_59 (by decide) hp6 (inRd (x := 8) (by decide)) (fun hc17 => ?_) (fun hc17 => ?_)
    · replace h := ifT hc17 h
      obtain rfl := someE h
      exact z_vret dX11_tellDepth_82 hE trivial rfl
    replace h := ifF hc17 h
    refine z_aload_n dX11_tellDepth_62 rfl ?_
    refine y_getR dX11_tellDepth_63 cl11 sh_296 (by decide) (Nat.le_trans (by decide) hz) 25 rfl rfl (fl_M_52) (ly_296_25 hG) (by decide) ?_
    refine z_bipush dX11_tellDepth_66 (by decide +kernel) ?_
    refine z_aload_n dX11_tellDepth_68 rfl ?_
    refine z_nm (fun hN18 => ?_)
    refine y_getI dX11_tellDepth_69 cl11 sh_296 (by decide) (Nat.le_trans (by decide) hz) 19 rfl rfl (fl_M_272) ?_
    refine z_imul dX11_tellDepth_72 ?_
    refine z_bipush dX11_tellDepth_73 (by decide +kernel) ?_
    refine z_iload_n dX11_tellDepth_75 rfl ?_
    refine z_imul dX11_tellDepth_76 ?_
    refine z_iadd dX11_tellDepth_77 ?_
    refine z_iload_n dX11_tellDepth_78 rfl ?_
    refine z_iadd dX11_tellDepth_79 ?_
    refine z_iload_n dX11_tellDepth_80 rfl ?_
    obtain ⟨hg19, h⟩ := guardE h
    refine y_iast dX11_tellDepth_81 sh_308 (by decide) (Nat.le_trans (by decide) hz) (inR_w32 _) hg19 hp9 ?_
    obtain rfl := someE h
    exact z_vret dX11_tellDepth_82 hE trivial rfl
  replace h := ifF hc14 h
  obtain rfl := someE h
  exact z_vret dX11_tellDepth_36 hE trivial rfl
set_option maxHeartbeats 1000000 in
theorem s_M_tellFlood {l : Launch} {g : GX} {z : Nat} {G : Nat → Nat → Nat} {F : Nat} (hz : 353 ≤ z) (hG : lyM G) {I J : Nat → Nat → Int} {res : MI} (h : f_M_tellFlood F I J = some res) : Spec l g 3 yX11_tellFlood cX11_tellFlood 2 none [vR g 296] (z, I, J, G) none True (z, res, J, G) := by
  refine spec_of (μ := mu_M_tellFlood) (k := 1) (L0 := [some (vR g 296), none]) rfl mw_M_tellFlood rfl rfl (Nat.le_refl _) (fun φ hb hE => ?_)
  refine z_bipush dX11_tellFlood_0 (by decide +kernel) ?_
  refine z_aload_n dX11_tellFlood_2 rfl ?_
  refine z_nm (fun hN1 => ?_)
  refine y_getI dX11_tellFlood_3 cl11 sh_296 (by decide) (Nat.le_trans (by decide) hz) 19 rfl rfl (fl_M_272) ?_
  refine z_imul dX11_tellFlood_6 ?_
  refine z_aload_n dX11_tellFlood_7 rfl ?_
  refine y_getR dX11_tellFlood_8 cl11 sh_296 (by decide) (Nat.le_trans (by decide) hz) 33 rfl rfl (fl_M_76) (ly_296_33 hG) (by decide) ?_
  refine z_aload_n dX11_tellFlood_11 rfl ?_
  refine y_getI dX11_tellFlood_12 cl11 sh_296 (by decide) (Nat.le_trans (by decide) hz) 19 rfl rfl (fl_M_272) ?_
  obtain ⟨hg2, h⟩ := guardE h
  refine y_iald dX11_tellFlood_15 sh_316 (by decide) (Nat.le_trans (by decide) hz) (hN1.1 296 19) hg2 ?_
  refine z_iadd dX11_tellFlood_16 ?_
  refine z_istore_n (L' := [some (vR g 296), some (vI (w32 ((w32 (8 * (I 296 19))) + (I 316 ((I 296 19)).toNat))))]) dX11_tellFlood_17 rfl rfl rfl ?_
  refine z_aload_n dX11_tellFlood_18 rfl ?_
  refine y_getR dX11_tellFlood_19 cl11 sh_296 (by decide) (Nat.le_trans (by decide) hz) 34 rfl rfl (fl_M_79) (ly_296_34 hG) (by decide) ?_
  refine z_iload_n dX11_tellFlood_22 rfl ?_
  refine z_aload_n dX11_tellFlood_23 rfl ?_
  refine z_iconst dX11_tellFlood_24 ?_
  refine z_sipush dX11_tellFlood_25 (by decide +kernel) ?_
  obtain ⟨q3, hq4, h⟩ := bindE h
  refine z_callV (As := [vI 0, vI 199]) (rest := [vI (w32 ((w32 (8 * (I 296 19))) + (I 316 ((I 296 19)).toNat))), vR g 317]) (s_M_bounded hz hG (inRd (x := 0) (by decide)) (inRd (x := 199) (by decide)) hq4) dX11_tellFlood_28 mw_M_bounded cl11 sh_296 (by decide) (Nat.le_trans (by decide) hz) ml_M_293 im_M_bounded se_M_bounded rfl rfl rfl rfl (Nat.le_refl _) (Nat.le_of_eq hb.symm) (fun hp5 => ?_)
  show Zt _ _ _ _ 31 _ [vI q3.1, vI (w32 ((w32 (8 * (I 296 19))) + (I 316 ((I 296 19)).toNat))), vR g 317] (z, q3.2, J, G)
  obtain ⟨hg6, h⟩ := guardE h
  refine y_iast dX11_tellFlood_31 sh_317 (by decide) (Nat.le_trans (by decide) hz) (inR_w32 _) hg6 hp5 ?_
  refine z_aload_n dX11_tellFlood_32 rfl ?_
  refine y_getR dX11_tellFlood_33 cl11 sh_296 (by decide) (Nat.le_trans (by decide) hz) 35 rfl rfl (fl_M_82) (ly_296_35 hG) (by decide) ?_
  refine z_iload_n dX11_tellFlood_36 rfl ?_
  refine z_aload_n dX11_tellFlood_37 rfl ?_
  refine z_iconst dX11_tellFlood_38 ?_
  refine z_bipush dX11_tellFlood_39 (by decide +kernel) ?_
  obtain ⟨q7, hq8, h⟩ := bindE h
  refine z_callV (As := [vI 1, vI 12]) (rest := [vI (w32 ((w32 (8 * (I 296 19))) + (I 316 ((I 296 19)).toNat))), vR g 318]) (s_M_bounded hz hG (inRd (x := 1) (by decide)) (inRd (x := 12) (by decide)) hq8) dX11_tellFlood_41 mw_M_bounded cl11 sh_296 (by decide) (Nat.le_trans (by decide) hz) ml_M_293 im_M_bounded se_M_bounded rfl rfl rfl rfl (Nat.le_refl _) (Nat.le_of_eq hb.symm) (fun hp9 => ?_)
  show Zt _ _ _ _ 44 _ [vI q7.1, vI (w32 ((w32 (8 * (I 296 19))) + (I 316 ((I 296 19)).toNat))), vR g 318] (z, q7.2, J, G)
  refine y_iast dX11_tellFlood_44 sh_318 (by decide) (Nat.le_trans (by decide) hz) (inR_w32 _) hg6 hp9 ?_
  refine z_aload_n dX11_tellFlood_45 rfl ?_
  refine z_iconst dX11_tellFlood_46 ?_
  obtain ⟨q10, hq11, h⟩ := bindE h
  refine z_callV (As := [vI 4]) (rest := []) (s_M_must hz hG (inRd (x := 4) (by decide)) hq11) dX11_tellFlood_47 mw_M_must cl11 sh_296 (by decide) (Nat.le_trans (by decide) hz) ml_M_297 im_M_must se_M_must rfl rfl rfl rfl (Nat.le_refl _) (Nat.le_of_eq hb.symm) (fun hp12 => ?_)
  show Zt _ _ _ _ 50 _ [] (z, q10, J, G)
  refine z_aload_n dX11_tellFlood_50 rfl ?_
  refine z_nm (fun hN13 => ?_)
  refine y_getI dX11_tellFlood_51 cl11 sh_296 (by decide) (Nat.le_trans (by decide) hz) 13 rfl rfl (fl_M_239) ?_
  refine z_if_ne (tgt := 70) dX11_tellFlood_54 (by decide) (hN13.1 296 13) (fun hc14 => ?_) (fun hc14 => ?_)
  · replace h := ifT hc14 h
    obtain rfl := someE h
    exact z_vret dX11_tellFlood_70 hE trivial rfl
  replace h := ifF (fun q => q hc14) h
  refine z_aload_n dX11_tellFlood_57 rfl ?_
  refine y_getR dX11_tellFlood_58 cl11 sh_296 (by decide) (Nat.le_trans (by decide) hz) 33 rfl rfl (fl_M_76) (ly_296_33 hG) (by decide) ?_
  refine z_aload_n dX11_tellFlood_61 rfl ?_
  refine y_getI dX11_tellFlood_62 cl11 sh_296 (by decide) (Nat.le_trans (by decide) hz) 19 rfl rfl (fl_M_272) ?_
  refine z_dup2 dX11_tellFlood_65 rfl rfl ?_
  obtain ⟨hg15, h⟩ := guardE h
  refine y_iald dX11_tellFlood_66 sh_316 (by decide) (Nat.le_trans (by decide) hz) (hN13.1 296 19) hg15 ?_
  refine z_iconst dX11_tellFlood_67 ?_
  refine z_iadd dX11_tellFlood_68 ?_
  refine y_iast dX11_tellFlood_69 sh_316 (by decide) (Nat.le_trans (by decide) hz) (hN13.1 296 19) hg15 (inR_w32 _) ?_
  obtain rfl := someE h
  exact z_vret dX11_tellFlood_70 hE trivial rfl
set_option maxHeartbeats 1000000 in
theorem s_M_emit {l : Launch} {g : GX} {z : Nat} {G : Nat → Nat → Nat} {F : Nat} (hz : 353 ≤ z) (hG : lyM G) {x1 : Int} {x2 : Int} {I J : Nat → Nat → Int} (hx1 : inR x1) (hx2 : inR x2) {res : MI} (h : f_M_emit F x1 x2 I J = some res) : Spec l g 0 yX11_emit cX11_emit 3 none [vR g 296, vI x1, vI x2] (z, I, J, G) none True (z, res, J, G) := by
  refine spec_of (μ := mu_M_emit) (k := 0) (L0 := [some (vR g 296), some (vI x1), some (vI x2)]) rfl mw_M_emit rfl rfl (Nat.le_refl _) (fun φ hb hE => ?_)
  refine z_aload_n dX11_emit_0 rfl ?_
  refine y_getR dX11_emit_1 cl11 sh_296 (by decide) (Nat.le_trans (by decide) hz) 45 rfl rfl (fl_M_107) (ly_296_45 hG) (by decide) ?_
  refine z_aload_n dX11_emit_4 rfl ?_
  refine z_nm (fun hN1 => ?_)
  refine y_getI dX11_emit_5 cl11 sh_296 (by decide) (Nat.le_trans (by decide) hz) 44 rfl rfl (fl_M_281) ?_
  refine z_iload_n dX11_emit_8 rfl ?_
  obtain ⟨hg2, h⟩ := guardE h
  refine y_iast dX11_emit_9 sh_326 (by decide) (Nat.le_trans (by decide) hz) (hN1.1 296 44) hg2 hx1 ?_
  refine z_aload_n dX11_emit_10 rfl ?_
  refine y_getR dX11_emit_11 cl11 sh_296 (by decide) (Nat.le_trans (by decide) hz) 46 rfl rfl (fl_M_110) (ly_296_46 hG) (by decide) ?_
  refine z_aload_n dX11_emit_14 rfl ?_
  refine z_nm (fun hN3 => ?_)
  refine y_getI dX11_emit_15 cl11 sh_296 (by decide) (Nat.le_trans (by decide) hz) 44 rfl rfl (fl_M_281) ?_
  refine z_iload_n dX11_emit_18 rfl ?_
  obtain ⟨hg4, h⟩ := guardE h
  refine y_iast dX11_emit_19 sh_327 (by decide) (Nat.le_trans (by decide) hz) (hN3.1 296 44) hg4 hx2 ?_
  refine z_aload_n dX11_emit_20 rfl ?_
  refine z_dup dX11_emit_21 rfl ?_
  refine z_nm (fun hN5 => ?_)
  refine y_getI dX11_emit_22 cl11 sh_296 (by decide) (Nat.le_trans (by decide) hz) 44 rfl rfl (fl_M_281) ?_
  refine z_iconst dX11_emit_25 ?_
  refine z_iadd dX11_emit_26 ?_
  refine y_putI dX11_emit_27 cl11 sh_296 (by decide) (Nat.le_trans (by decide) hz) 44 rfl rfl rfl (fl_M_281) rfl rfl (inR_w32 _) ?_
  obtain rfl := someE h
  exact z_vret dX11_emit_30 hE trivial rfl
set_option maxHeartbeats 1000000 in
theorem t_M_comesOut_b84in0 {l : Launch} {g : GX} {φ : CX} {z : Nat} {G : Nat → Nat → Nat} {F : Nat} (hb : cb φ = z) (hz : 353 ≤ z) (hG : lyM G) {x1 : Int} {s1 : Int} {I J : Nat → Nat → Int} (hx1 : x1 = 0 ∨ x1 = 1) (hs1 : inR s1) {res : ((MI) ⊕ (MI)) ⊕ (MI)} (h : f_M_comesOut_b84in0 F x1 s1 I J = some res) (kE : ∀ e : (MI) ⊕ (MI), res = .inl e → ((fun w : (MI) ⊕ (MI) => (match w with | .inl e0 => ((True) → Zt l g φ mu_M_comesOut 41 [none, none, none] [] (z, e0, J, G)) | .inr o0 => ((True) → Zt l g φ mu_M_comesOut 91 [none, none, none] [] (z, o0, J, G)))) e)) (kS : ∀ s : MI, res = .inr s → (True) → Zt l g φ mu_M_comesOut 0 [some (vR g 296), some (vI x1), none] [] (z, s, J, G)) : Zt l g φ mu_M_comesOut 84 [some (vR g 296), some (vI x1), none] [vI s1, vR g 296] (z, I, J, G) := by
  refine z_iconst dX11_comesOut_84 ?_
  obtain ⟨q10, hq11, h⟩ := bindE h
  refine z_callV (As := [vI s1, vI 0]) (rest := []) (s_M_emit hz hG hs1 (inRd (x := 0) (by decide)) hq11) dX11_comesOut_85 mw_M_emit cl11 sh_296 (by decide) (Nat.le_trans (by decide) hz) ml_M_328 im_M_emit se_M_emit rfl rfl rfl rfl (Nat.le_refl _) (Nat.le_of_eq hb.symm) (fun hp12 => ?_)
  show Zt _ _ _ _ 88 _ [] (z, q10, J, G)
  refine z_goto (tgt := 0) dX11_comesOut_88 (by decide) ?_
  exact kS _ (someE h).symm trivial
set_option maxHeartbeats 1000000 in
theorem t_M_comesOut_b42in0 {l : Launch} {g : GX} {φ : CX} {z : Nat} {G : Nat → Nat → Nat} {F : Nat} (hb : cb φ = z) (hz : 353 ≤ z) (hG : lyM G) {x1 : Int} {x2 : Int} {I J : Nat → Nat → Int} (hx1 : x1 = 0 ∨ x1 = 1) (hx2 : inR x2) {res : ((MI) ⊕ (MI)) ⊕ (MI)} (h : f_M_comesOut_b42in0 F x1 x2 I J = some res) (kE : ∀ e : (MI) ⊕ (MI), res = .inl e → ((fun w : (MI) ⊕ (MI) => (match w with | .inl e0 => ((True) → Zt l g φ mu_M_comesOut 41 [none, none, none] [] (z, e0, J, G)) | .inr o0 => ((True) → Zt l g φ mu_M_comesOut 91 [none, none, none] [] (z, o0, J, G)))) e)) (kS : ∀ s : MI, res = .inr s → (True) → Zt l g φ mu_M_comesOut 0 [some (vR g 296), some (vI x1), none] [] (z, s, J, G)) : Zt l g φ mu_M_comesOut 42 [some (vR g 296), some (vI x1), some (vI x2)] [] (z, I, J, G) := by
  refine z_aload_n dX11_comesOut_42 rfl ?_
  refine z_dup dX11_comesOut_43 rfl ?_
  refine z_nm (fun hN6 => ?_)
  refine y_getI dX11_comesOut_44 cl11 sh_296 (by decide) (Nat.le_trans (by decide) hz) 48 rfl rfl (fl_M_325) ?_
  refine z_iconst dX11_comesOut_47 ?_
  refine z_isub dX11_comesOut_48 ?_
  refine y_putI dX11_comesOut_49 cl11 sh_296 (by decide) (Nat.le_trans (by decide) hz) 48 rfl rfl rfl (fl_M_325) rfl rfl (inR_w32 _) ?_
  refine z_aload_n dX11_comesOut_52 rfl ?_
  refine z_iload_n dX11_comesOut_53 rfl ?_
  refine z_bipush dX11_comesOut_54 (by decide +kernel) ?_
  refine z_icmp_ne (tgt := 63) dX11_comesOut_56 (by decide) hx2 (inRd (x := 8) (by decide)) (fun hc7 => ?_) (fun hc7 => ?_)
  · replace h := ifT hc7 h
    refine z_iload_n dX11_comesOut_63 rfl ?_
    refine z_bipush dX11_comesOut_64 (by decide +kernel) ?_
    refine z_icmp_ne (tgt := 73) dX11_comesOut_66 (by decide) hx2 (inRd (x := 9) (by decide)) (fun hc8 => ?_) (fun hc8 => ?_)
    · replace h := ifT hc8 h
      refine z_iload_n dX11_comesOut_73 rfl ?_
      refine z_bipush dX11_comesOut_74 (by decide +kernel) ?_
      refine z_icmp_ne (tgt := 83) dX11_comesOut_76 (by decide) hx2 (inRd (x := 10) (by decide)) (fun hc9 => ?_) (fun hc9 => ?_)
      · replace h := ifT hc9 h
        refine z_iconst dX11_comesOut_83 ?_
        refine z_weak (L' := [some (vR g 296), some (vI x1), none]) (lsS (lsS (lsN ls0))) ?_
        exact t_M_comesOut_b84in0 hb hz hG hx1 (inRd (x := 5) (by decide)) h kE kS
      replace h := ifF (fun q => q hc9) h
      refine z_iconst dX11_comesOut_79 ?_
      refine z_goto (tgt := 84) dX11_comesOut_80 (by decide) ?_
      refine z_weak (L' := [some (vR g 296), some (vI x1), none]) (lsS (lsS (lsN ls0))) ?_
      exact t_M_comesOut_b84in0 hb hz hG hx1 (inRd (x := 4) (by decide)) h kE kS
    replace h := ifF (fun q => q hc8) h
    refine z_iconst dX11_comesOut_69 ?_
    refine z_goto (tgt := 84) dX11_comesOut_70 (by decide) ?_
    refine z_weak (L' := [some (vR g 296), some (vI x1), none]) (lsS (lsS (lsN ls0))) ?_
    exact t_M_comesOut_b84in0 hb hz hG hx1 (inRd (x := 3) (by decide)) h kE kS
  replace h := ifF (fun q => q hc7) h
  refine z_iconst dX11_comesOut_59 ?_
  refine z_goto (tgt := 84) dX11_comesOut_60 (by decide) ?_
  refine z_weak (L' := [some (vR g 296), some (vI x1), none]) (lsS (lsS (lsN ls0))) ?_
  exact t_M_comesOut_b84in0 hb hz hG hx1 (inRd (x := 2) (by decide)) h kE kS
set_option maxHeartbeats 1000000 in
theorem t_M_comesOut_L0 {l : Launch} {g : GX} {φ : CX} {z : Nat} {G : Nat → Nat → Nat} {F : Nat} (hb : cb φ = z) (hz : 353 ≤ z) (hG : lyM G) {x1 : Int} {I J : Nat → Nat → Int} (hx1 : x1 = 0 ∨ x1 = 1) {res : ((MI) ⊕ (MI)) ⊕ (MI)} (h : f_M_comesOut_L0 F x1 I J = some res) (kE : ∀ e : (MI) ⊕ (MI), res = .inl e → ((fun w : (MI) ⊕ (MI) => (match w with | .inl e0 => ((True) → Zt l g φ mu_M_comesOut 41 [none, none, none] [] (z, e0, J, G)) | .inr o0 => ((True) → Zt l g φ mu_M_comesOut 91 [none, none, none] [] (z, o0, J, G)))) e)) (kS : ∀ s : MI, res = .inr s → (True) → Zt l g φ mu_M_comesOut 0 [some (vR g 296), some (vI x1), none] [] (z, s, J, G)) : Zt l g φ mu_M_comesOut 0 [some (vR g 296), some (vI x1), none] [] (z, I, J, G) := by
  refine z_aload_n dX11_comesOut_0 rfl ?_
  refine z_nm (fun hN1 => ?_)
  refine y_getI dX11_comesOut_1 cl11 sh_296 (by decide) (Nat.le_trans (by decide) hz) 48 rfl rfl (fl_M_325) ?_
  refine z_if_le (tgt := 91) dX11_comesOut_4 (by decide) (hN1.1 296 48) (fun hc2 => ?_) (fun hc2 => ?_)
  · replace h := ifT hc2 h
    refine z_weak (L' := [none, none, none]) (lsN (lsN (lsN ls0))) ?_
    exact kE _ (someE h).symm trivial
  replace h := ifF hc2 h
  refine z_aload_n dX11_comesOut_7 rfl ?_
  refine y_getR dX11_comesOut_8 cl11 sh_296 (by decide) (Nat.le_trans (by decide) hz) 47 rfl rfl (fl_M_113) (ly_296_47 hG) (by decide) ?_
  refine z_aload_n dX11_comesOut_11 rfl ?_
  refine y_getI dX11_comesOut_12 cl11 sh_296 (by decide) (Nat.le_trans (by decide) hz) 48 rfl rfl (fl_M_325) ?_
  refine z_iconst dX11_comesOut_15 ?_
  refine z_isub dX11_comesOut_16 ?_
  obtain ⟨hg3, h⟩ := guardE h
  refine y_iald dX11_comesOut_17 sh_328 (by decide) (Nat.le_trans (by decide) hz) (inR_w32 _) hg3 ?_
  refine z_istore_n (L' := [some (vR g 296), some (vI x1), some (vI (I 328 ((w32 ((I 296 48) - 1))).toNat))]) dX11_comesOut_18 rfl rfl rfl ?_
  refine z_iload_n dX11_comesOut_19 rfl ?_
  refine z_bipush dX11_comesOut_20 (by decide +kernel) ?_
  refine z_icmp_eq (tgt := 41) dX11_comesOut_22 (by decide) (hN1.1 328 ((w32 ((I 296 48) - 1))).toNat) (inRd (x := 6) (by decide)) (fun hc4 => ?_) (fun hc4 => ?_)
  · replace h := ifT hc4 h
    refine z_weak (L' := [none, none, none]) (lsN (lsN (lsN ls0))) ?_
    exact kE _ (someE h).symm trivial
  replace h := ifF hc4 h
  refine z_iload_n dX11_comesOut_25 rfl ?_
  refine z_if_eq (tgt := 42) dX11_comesOut_26 (by decide) (inR_bool hx1) (fun hc5 => ?_) (fun hc5 => ?_)
  · replace h := ifT hc5 h
    exact t_M_comesOut_b42in0 hb hz hG hx1 (hN1.1 328 ((w32 ((I 296 48) - 1))).toNat) h kE kS
  replace h := ifF hc5 h
  refine z_iload_n dX11_comesOut_29 rfl ?_
  refine z_bipush dX11_comesOut_30 (by decide +kernel) ?_
  refine z_icmp_eq (tgt := 41) dX11_comesOut_32 (by decide) (hN1.1 328 ((w32 ((I 296 48) - 1))).toNat) (inRd (x := 8) (by decide)) (fun hc13 => ?_) (fun hc13 => ?_)
  · replace h := ifT hc13 h
    refine z_weak (L' := [none, none, none]) (lsN (lsN (lsN ls0))) ?_
    exact kE _ (someE h).symm trivial
  replace h := ifF hc13 h
  refine z_iload_n dX11_comesOut_35 rfl ?_
  refine z_bipush dX11_comesOut_36 (by decide +kernel) ?_
  refine z_icmp_ne (tgt := 42) dX11_comesOut_38 (by decide) (hN1.1 328 ((w32 ((I 296 48) - 1))).toNat) (inRd (x := 9) (by decide)) (fun hc14 => ?_) (fun hc14 => ?_)
  · replace h := ifT hc14 h
    exact t_M_comesOut_b42in0 hb hz hG hx1 (hN1.1 328 ((w32 ((I 296 48) - 1))).toNat) h kE kS
  replace h := ifF (fun q => q hc14) h
  refine z_weak (L' := [none, none, none]) (lsN (lsN (lsN ls0))) ?_
  exact kE _ (someE h).symm trivial
theorem l_M_comesOut_L0 {l : Launch} {g : GX} {φ : CX} {z : Nat} {G : Nat → Nat → Nat} {F : Nat} (hb : cb φ = z) (hz : 353 ≤ z) (hG : lyM G) {x1 : Int} {J : Nat → Nat → Int} (hx1 : x1 = 0 ∨ x1 = 1) (n : Nat) (s : MI) (e : (MI) ⊕ (MI)) (h : iter (fun s : MI => f_M_comesOut_L0 F x1 s J) n s = some e) (hs : True) (k : ((fun w : (MI) ⊕ (MI) => (match w with | .inl e0 => ((True) → Zt l g φ mu_M_comesOut 41 [none, none, none] [] (z, e0, J, G)) | .inr o0 => ((True) → Zt l g φ mu_M_comesOut 91 [none, none, none] [] (z, o0, J, G)))) e)) : Zt l g φ mu_M_comesOut 0 [some (vR g 296), some (vI x1), none] [] (z, s, J, G) := by
  refine iter_ind (Z := fun s : MI => Zt l g φ mu_M_comesOut 0 [some (vR g 296), some (vI x1), none] [] (z, s, J, G)) (ZE := fun e : (MI) ⊕ (MI) => ((fun w : (MI) ⊕ (MI) => (match w with | .inl e0 => ((True) → Zt l g φ mu_M_comesOut 41 [none, none, none] [] (z, e0, J, G)) | .inr o0 => ((True) → Zt l g φ mu_M_comesOut 91 [none, none, none] [] (z, o0, J, G)))) e)) (Rg := fun s : MI => True) ?_ n s e h hs k
  intro s r hr hst kE kS
  exact t_M_comesOut_L0 hb hz hG hx1 hst kE kS
set_option maxHeartbeats 1000000 in
theorem s_M_comesOut {l : Launch} {g : GX} {z : Nat} {G : Nat → Nat → Nat} {F : Nat} (hz : 353 ≤ z) (hG : lyM G) {x1 : Int} {I J : Nat → Nat → Int} (hx1 : x1 = 0 ∨ x1 = 1) {res : MI} (h : f_M_comesOut F x1 I J = some res) : Spec l g 1 yX11_comesOut cX11_comesOut 3 none [vR g 296, vI x1] (z, I, J, G) none True (z, res, J, G) := by
  refine spec_of (μ := mu_M_comesOut) (k := 1) (L0 := [some (vR g 296), some (vI x1), none]) rfl mw_M_comesOut rfl rfl (Nat.le_refl _) (fun φ hb hE => ?_)
  obtain ⟨e15, h16, h⟩ := bindE h
  rcases e15 with e17 | o18
  · refine l_M_comesOut_L0 hb hz hG hx1 _ _ _ h16 trivial ?_
    refine fun h19 => ?_
    obtain rfl := someE h
    exact z_vret dX11_comesOut_41 hE trivial rfl
  refine l_M_comesOut_L0 hb hz hG hx1 _ _ _ h16 trivial ?_
  refine fun h20 => ?_
  obtain rfl := someE h
  exact z_vret dX11_comesOut_91 hE trivial rfl
set_option maxHeartbeats 1000000 in
theorem t_M_unit_b88 {l : Launch} {g : GX} {φ : CX} {z : Nat} {G : Nat → Nat → Nat} {F : Nat} (hb : cb φ = z) (hz : 353 ≤ z) (hG : lyM G) {I J : Nat → Nat → Int} {res : MI} (h : f_M_unit_b88 F I J = some res) (hE : ends g φ none none True (z, res, J, G)) : Zt l g φ mu_M_unit 88 [some (vR g 296)] [] (z, I, J, G) := by
  refine z_aload_n dX11_unit_88 rfl ?_
  refine z_iconst dX11_unit_89 ?_
  obtain ⟨q7, hq8, h⟩ := bindE h
  refine z_callV (As := [vI 1]) (rest := []) (s_M_fail hz hG (inRd (x := 1) (by decide)) hq8) dX11_unit_90 mw_M_fail cl11 sh_296 (by decide) (Nat.le_trans (by decide) hz) ml_M_254 im_M_fail se_M_fail rfl rfl rfl rfl (Nat.le_refl _) (Nat.le_of_eq hb.symm) (fun hp9 => ?_)
  show Zt _ _ _ _ 93 _ [] (z, q7, J, G)
  obtain rfl := someE h
  exact z_vret dX11_unit_93 hE trivial rfl
set_option maxHeartbeats 1000000 in
theorem s_M_unit {l : Launch} {g : GX} {z : Nat} {G : Nat → Nat → Nat} {F : Nat} (hz : 353 ≤ z) (hG : lyM G) {I J : Nat → Nat → Int} {res : MI} (h : f_M_unit F I J = some res) : Spec l g 2 yX11_unit cX11_unit 1 none [vR g 296] (z, I, J, G) none True (z, res, J, G) := by
  refine spec_of (μ := mu_M_unit) (k := 0) (L0 := [some (vR g 296)]) rfl mw_M_unit rfl rfl (Nat.le_refl _) (fun φ hb hE => ?_)
  refine z_aload_n dX11_unit_0 rfl ?_
  refine z_iconst dX11_unit_1 ?_
  obtain ⟨q1, hq2, h⟩ := bindE h
  refine z_callV (As := [vI 2]) (rest := []) (s_M_is hz hG (inRd (x := 2) (by decide)) hq2) dX11_unit_2 mw_M_is cl11 sh_296 (by decide) (Nat.le_trans (by decide) hz) ml_M_257 im_M_is se_M_is rfl rfl rfl rfl (Nat.le_refl _) (Nat.le_of_eq hb.symm) (fun hp3 => ?_)
  show Zt _ _ _ _ 5 _ [vI q1] (z, I, J, G)
  refine z_if_eq (tgt := 29) dX11_unit_5 (by decide) (inR_bool hp3) (fun hc4 => ?_) (fun hc4 => ?_)
  · replace h := ifT hc4 h
    refine z_aload_n dX11_unit_29 rfl ?_
    refine z_nm (fun hN5 => ?_)
    refine y_getI dX11_unit_30 cl11 sh_296 (by decide) (Nat.le_trans (by decide) hz) 13 rfl rfl (fl_M_239) ?_
    refine z_if_ne (tgt := 88) dX11_unit_33 (by decide) (hN5.1 296 13) (fun hc6 => ?_) (fun hc6 => ?_)
    · replace h := ifT hc6 h
      exact t_M_unit_b88 hb hz hG  h hE
    replace h := ifF (fun q => q hc6) h
    refine z_aload_n dX11_unit_36 rfl ?_
    refine y_getR dX11_unit_37 cl11 sh_296 (by decide) (Nat.le_trans (by decide) hz) 5 rfl rfl (fl_M_20) (ly_296_5 hG) (by decide) ?_
    refine z_aload_n dX11_unit_40 rfl ?_
    refine y_getI dX11_unit_41 cl11 sh_296 (by decide) (Nat.le_trans (by decide) hz) 11 rfl rfl (fl_M_242) ?_
    obtain ⟨hg10, h⟩ := guardE h
    refine y_iald dX11_unit_44 sh_299 (by decide) (Nat.le_trans (by decide) hz) (hN5.1 296 11) hg10 ?_
    refine z_bipush dX11_unit_45 (by decide +kernel) ?_
    refine z_icmp_lt (tgt := 88) dX11_unit_47 (by decide) (hN5.1 299 ((I 296 11)).toNat) (inRd (x := 31) (by decide)) (fun hc11 => ?_) (fun hc11 => ?_)
    · replace h := ifT hc11 h
      exact t_M_unit_b88 hb hz hG  h hE
    replace h := ifF hc11 h
    refine z_aload_n dX11_unit_50 rfl ?_
    refine y_getR dX11_unit_51 cl11 sh_296 (by decide) (Nat.le_trans (by decide) hz) 5 rfl rfl (fl_M_20) (ly_296_5 hG) (by decide) ?_
    refine z_aload_n dX11_unit_54 rfl ?_
    refine y_getI dX11_unit_55 cl11 sh_296 (by decide) (Nat.le_trans (by decide) hz) 11 rfl rfl (fl_M_242) ?_
    refine y_iald dX11_unit_58 sh_299 (by decide) (Nat.le_trans (by decide) hz) (hN5.1 296 11) hg10 ?_
    refine z_bipush dX11_unit_59 (by decide +kernel) ?_
    refine z_icmp_gt (tgt := 88) dX11_unit_61 (by decide) (hN5.1 299 ((I 296 11)).toNat) (inRd (x := 36) (by decide)) (fun hc12 => ?_) (fun hc12 => ?_)
    · replace h := ifT hc12 h
      exact t_M_unit_b88 hb hz hG  h hE
    replace h := ifF hc12 h
    refine z_aload_n dX11_unit_64 rfl ?_
    refine z_iconst dX11_unit_65 ?_
    refine z_aload_n dX11_unit_66 rfl ?_
    refine y_getR dX11_unit_67 cl11 sh_296 (by decide) (Nat.le_trans (by decide) hz) 5 rfl rfl (fl_M_20) (ly_296_5 hG) (by decide) ?_
    refine z_aload_n dX11_unit_70 rfl ?_
    refine y_getI dX11_unit_71 cl11 sh_296 (by decide) (Nat.le_trans (by decide) hz) 11 rfl rfl (fl_M_242) ?_
    refine y_iald dX11_unit_74 sh_299 (by decide) (Nat.le_trans (by decide) hz) (hN5.1 296 11) hg10 ?_
    refine z_bipush dX11_unit_75 (by decide +kernel) ?_
    refine z_isub dX11_unit_77 ?_
    obtain ⟨q13, hq14, h⟩ := bindE h
    refine z_callV (As := [vI 1, vI (w32 ((I 299 ((I 296 11)).toNat) - 31))]) (rest := []) (s_M_emit hz hG (inRd (x := 1) (by decide)) (inR_w32 _) hq14) dX11_unit_78 mw_M_emit cl11 sh_296 (by decide) (Nat.le_trans (by decide) hz) ml_M_328 im_M_emit se_M_emit rfl rfl rfl rfl (Nat.le_refl _) (Nat.le_of_eq hb.symm) (fun hp15 => ?_)
    show Zt _ _ _ _ 81 _ [] (z, q13, J, G)
    refine z_aload_n dX11_unit_81 rfl ?_
    obtain ⟨q16, hq17, h⟩ := bindE h
    refine z_callV (As := []) (rest := []) (s_M_goesOn hz hG  hq17) dX11_unit_82 mw_M_goesOn cl11 sh_296 (by decide) (Nat.le_trans (by decide) hz) ml_M_260 im_M_goesOn se_M_goesOn rfl rfl rfl rfl (Nat.le_refl _) (Nat.le_of_eq hb.symm) (fun hp18 => ?_)
    show Zt _ _ _ _ 85 _ [] (z, q16, J, G)
    refine z_goto (tgt := 93) dX11_unit_85 (by decide) ?_
    obtain rfl := someE h
    exact z_vret dX11_unit_93 hE trivial rfl
  replace h := ifF hc4 h
  refine z_aload_n dX11_unit_8 rfl ?_
  refine z_iconst dX11_unit_9 ?_
  refine z_aload_n dX11_unit_10 rfl ?_
  refine y_getR dX11_unit_11 cl11 sh_296 (by decide) (Nat.le_trans (by decide) hz) 7 rfl rfl (fl_M_27) (ly_296_7 hG) (by decide) ?_
  refine z_aload_n dX11_unit_14 rfl ?_
  refine z_nm (fun hN19 => ?_)
  refine y_getI dX11_unit_15 cl11 sh_296 (by decide) (Nat.le_trans (by decide) hz) 11 rfl rfl (fl_M_242) ?_
  obtain ⟨hg20, h⟩ := guardE h
  refine y_iald dX11_unit_18 sh_301 (by decide) (Nat.le_trans (by decide) hz) (hN19.1 296 11) hg20 ?_
  obtain ⟨q21, hq22, h⟩ := bindE h
  refine z_callV (As := [vI 0, vI (I 301 ((I 296 11)).toNat)]) (rest := []) (s_M_emit hz hG (inRd (x := 0) (by decide)) (hN19.1 301 ((I 296 11)).toNat) hq22) dX11_unit_19 mw_M_emit cl11 sh_296 (by decide) (Nat.le_trans (by decide) hz) ml_M_328 im_M_emit se_M_emit rfl rfl rfl rfl (Nat.le_refl _) (Nat.le_of_eq hb.symm) (fun hp23 => ?_)
  show Zt _ _ _ _ 22 _ [] (z, q21, J, G)
  refine z_aload_n dX11_unit_22 rfl ?_
  obtain ⟨q24, hq25, h⟩ := bindE h
  refine z_callV (As := []) (rest := []) (s_M_goesOn hz hG  hq25) dX11_unit_23 mw_M_goesOn cl11 sh_296 (by decide) (Nat.le_trans (by decide) hz) ml_M_260 im_M_goesOn se_M_goesOn rfl rfl rfl rfl (Nat.le_refl _) (Nat.le_of_eq hb.symm) (fun hp26 => ?_)
  show Zt _ _ _ _ 26 _ [] (z, q24, J, G)
  refine z_goto (tgt := 93) dX11_unit_26 (by decide) ?_
  obtain rfl := someE h
  exact z_vret dX11_unit_93 hE trivial rfl
set_option maxHeartbeats 1000000 in
theorem t_M_expression_b46in23 {l : Launch} {g : GX} {φ : CX} {z : Nat} {G : Nat → Nat → Nat} {F : Nat} (hb : cb φ = z) (hz : 353 ≤ z) (hG : lyM G) {x1 : Int} {I J : Nat → Nat → Int} (hx1 : inR x1) {res : (MI) ⊕ (MI)} (h : f_M_expression_b46in23 F x1 I J = some res) (kE : ∀ e : MI, res = .inl e → ((True) → Zt l g φ mu_M_expression 84 [some (vR g 296), some (vI x1), none] [] (z, e, J, G))) (kS : ∀ s : MI, res = .inr s → (True) → Zt l g φ mu_M_expression 23 [some (vR g 296), some (vI x1), none] [] (z, s, J, G)) : Zt l g φ mu_M_expression 46 [some (vR g 296), some (vI x1), none] [] (z, I, J, G) := by
  refine z_aload_n dX11_expression_46 rfl ?_
  refine z_dup dX11_expression_47 rfl ?_
  refine z_nm (fun hN11 => ?_)
  refine y_getI dX11_expression_48 cl11 sh_296 (by decide) (Nat.le_trans (by decide) hz) 12 rfl rfl (fl_M_266) ?_
  refine z_iconst dX11_expression_51 ?_
  refine z_iadd dX11_expression_52 ?_
  refine y_putI dX11_expression_53 cl11 sh_296 (by decide) (Nat.le_trans (by decide) hz) 12 rfl rfl rfl (fl_M_266) rfl rfl (inR_w32 _) ?_
  refine z_aload_n dX11_expression_56 rfl ?_
  obtain ⟨q12, hq13, h⟩ := bindE h
  refine z_callV (As := []) (rest := []) (s_M_goesOn hz hG  hq13) dX11_expression_57 mw_M_goesOn cl11 sh_296 (by decide) (Nat.le_trans (by decide) hz) ml_M_260 im_M_goesOn se_M_goesOn rfl rfl rfl rfl (Nat.le_refl _) (Nat.le_of_eq hb.symm) (fun hp14 => ?_)
  show Zt _ _ _ _ 60 _ [] (z, q12, J, G)
  refine z_aload_n dX11_expression_60 rfl ?_
  refine y_getR dX11_expression_61 cl11 sh_296 (by decide) (Nat.le_trans (by decide) hz) 47 rfl rfl (fl_M_113) (ly_296_47 hG) (by decide) ?_
  refine z_aload_n dX11_expression_64 rfl ?_
  refine z_nm (fun hN15 => ?_)
  refine y_getI dX11_expression_65 cl11 sh_296 (by decide) (Nat.le_trans (by decide) hz) 48 rfl rfl (fl_M_325) ?_
  refine z_bipush dX11_expression_68 (by decide +kernel) ?_
  obtain ⟨hg16, h⟩ := guardE h
  refine y_iast dX11_expression_70 sh_328 (by decide) (Nat.le_trans (by decide) hz) (hN15.1 296 48) hg16 (inRd (x := 6) (by decide)) ?_
  refine z_aload_n dX11_expression_71 rfl ?_
  refine z_dup dX11_expression_72 rfl ?_
  refine z_nm (fun hN17 => ?_)
  refine y_getI dX11_expression_73 cl11 sh_296 (by decide) (Nat.le_trans (by decide) hz) 48 rfl rfl (fl_M_325) ?_
  refine z_iconst dX11_expression_76 ?_
  refine z_iadd dX11_expression_77 ?_
  refine y_putI dX11_expression_78 cl11 sh_296 (by decide) (Nat.le_trans (by decide) hz) 48 rfl rfl rfl (fl_M_325) rfl rfl (inR_w32 _) ?_
  refine z_goto (tgt := 23) dX11_expression_81 (by decide) ?_
  exact kS _ (someE h).symm trivial
set_option maxHeartbeats 1000000 in
theorem t_M_expression_L23 {l : Launch} {g : GX} {φ : CX} {z : Nat} {G : Nat → Nat → Nat} {F : Nat} (hb : cb φ = z) (hz : 353 ≤ z) (hG : lyM G) {x1 : Int} {I J : Nat → Nat → Int} (hx1 : inR x1) {res : (MI) ⊕ (MI)} (h : f_M_expression_L23 F x1 I J = some res) (kE : ∀ e : MI, res = .inl e → ((True) → Zt l g φ mu_M_expression 84 [some (vR g 296), some (vI x1), none] [] (z, e, J, G))) (kS : ∀ s : MI, res = .inr s → (True) → Zt l g φ mu_M_expression 23 [some (vR g 296), some (vI x1), none] [] (z, s, J, G)) : Zt l g φ mu_M_expression 23 [some (vR g 296), some (vI x1), none] [] (z, I, J, G) := by
  refine z_aload_n dX11_expression_23 rfl ?_
  refine z_bipush dX11_expression_24 (by decide +kernel) ?_
  obtain ⟨q5, hq6, h⟩ := bindE h
  refine z_callV (As := [vI 6]) (rest := []) (s_M_is hz hG (inRd (x := 6) (by decide)) hq6) dX11_expression_26 mw_M_is cl11 sh_296 (by decide) (Nat.le_trans (by decide) hz) ml_M_257 im_M_is se_M_is rfl rfl rfl rfl (Nat.le_refl _) (Nat.le_of_eq hb.symm) (fun hp7 => ?_)
  show Zt _ _ _ _ 29 _ [vI q5] (z, I, J, G)
  refine z_if_eq (tgt := 84) dX11_expression_29 (by decide) (inR_bool hp7) (fun hc8 => ?_) (fun hc8 => ?_)
  · replace h := ifT hc8 h
    exact kE _ (someE h).symm trivial
  replace h := ifF hc8 h
  refine z_aload_n dX11_expression_32 rfl ?_
  refine z_nm (fun hN9 => ?_)
  refine y_getI dX11_expression_33 cl11 sh_296 (by decide) (Nat.le_trans (by decide) hz) 12 rfl rfl (fl_M_266) ?_
  refine z_bipush dX11_expression_36 (by decide +kernel) ?_
  refine z_icmp_ne (tgt := 46) dX11_expression_38 (by decide) (hN9.1 296 12) (inRd (x := 6) (by decide)) (fun hc10 => ?_) (fun hc10 => ?_)
  · replace h := ifT hc10 h
    exact t_M_expression_b46in23 hb hz hG hx1 h kE kS
  replace h := ifF (fun q => q hc10) h
  refine z_aload_n dX11_expression_41 rfl ?_
  refine z_iconst dX11_expression_42 ?_
  obtain ⟨q18, hq19, h⟩ := bindE h
  refine z_callV (As := [vI 2]) (rest := []) (s_M_fail hz hG (inRd (x := 2) (by decide)) hq19) dX11_expression_43 mw_M_fail cl11 sh_296 (by decide) (Nat.le_trans (by decide) hz) ml_M_254 im_M_fail se_M_fail rfl rfl rfl rfl (Nat.le_refl _) (Nat.le_of_eq hb.symm) (fun hp20 => ?_)
  show Zt _ _ _ _ 46 _ [] (z, q18, J, G)
  exact t_M_expression_b46in23 hb hz hG hx1 h kE kS
theorem l_M_expression_L23 {l : Launch} {g : GX} {φ : CX} {z : Nat} {G : Nat → Nat → Nat} {F : Nat} (hb : cb φ = z) (hz : 353 ≤ z) (hG : lyM G) {x1 : Int} {J : Nat → Nat → Int} (hx1 : inR x1) (n : Nat) (s : MI) (e : MI) (h : iter (fun s : MI => f_M_expression_L23 F x1 s J) n s = some e) (hs : True) (k : ((True) → Zt l g φ mu_M_expression 84 [some (vR g 296), some (vI x1), none] [] (z, e, J, G))) : Zt l g φ mu_M_expression 23 [some (vR g 296), some (vI x1), none] [] (z, s, J, G) := by
  refine iter_ind (Z := fun s : MI => Zt l g φ mu_M_expression 23 [some (vR g 296), some (vI x1), none] [] (z, s, J, G)) (ZE := fun e : MI => ((True) → Zt l g φ mu_M_expression 84 [some (vR g 296), some (vI x1), none] [] (z, e, J, G))) (Rg := fun s : MI => True) ?_ n s e h hs k
  intro s r hr hst kE kS
  exact t_M_expression_L23 hb hz hG hx1 hst kE kS
set_option maxHeartbeats 1000000 in
theorem t_M_expression_L96 {l : Launch} {g : GX} {φ : CX} {z : Nat} {G : Nat → Nat → Nat} {F : Nat} (hb : cb φ = z) (hz : 353 ≤ z) (hG : lyM G) {x1 : Int} {I J : Nat → Nat → Int} (hx1 : inR x1) {res : (MI) ⊕ (MI)} (h : f_M_expression_L96 F x1 I J = some res) (kE : ∀ e : MI, res = .inl e → ((True) → Zt l g φ mu_M_expression 145 [some (vR g 296), some (vI x1), none] [] (z, e, J, G))) (kS : ∀ s : MI, res = .inr s → (True) → Zt l g φ mu_M_expression 96 [some (vR g 296), some (vI x1), none] [] (z, s, J, G)) : Zt l g φ mu_M_expression 96 [some (vR g 296), some (vI x1), none] [] (z, I, J, G) := by
  refine z_aload_n dX11_expression_96 rfl ?_
  refine z_bipush dX11_expression_97 (by decide +kernel) ?_
  obtain ⟨q29, hq30, h⟩ := bindE h
  refine z_callV (As := [vI 7]) (rest := []) (s_M_is hz hG (inRd (x := 7) (by decide)) hq30) dX11_expression_99 mw_M_is cl11 sh_296 (by decide) (Nat.le_trans (by decide) hz) ml_M_257 im_M_is se_M_is rfl rfl rfl rfl (Nat.le_refl _) (Nat.le_of_eq hb.symm) (fun hp31 => ?_)
  show Zt _ _ _ _ 102 _ [vI q29] (z, I, J, G)
  refine z_if_eq (tgt := 145) dX11_expression_102 (by decide) (inR_bool hp31) (fun hc32 => ?_) (fun hc32 => ?_)
  · replace h := ifT hc32 h
    exact kE _ (someE h).symm trivial
  replace h := ifF hc32 h
  refine z_aload_n dX11_expression_105 rfl ?_
  refine z_nm (fun hN33 => ?_)
  refine y_getI dX11_expression_106 cl11 sh_296 (by decide) (Nat.le_trans (by decide) hz) 12 rfl rfl (fl_M_266) ?_
  refine z_iload_n dX11_expression_109 rfl ?_
  refine z_icmp_le (tgt := 145) dX11_expression_110 (by decide) (hN33.1 296 12) hx1 (fun hc34 => ?_) (fun hc34 => ?_)
  · replace h := ifT hc34 h
    exact kE _ (someE h).symm trivial
  replace h := ifF hc34 h
  refine z_aload_n dX11_expression_113 rfl ?_
  refine z_iconst dX11_expression_114 ?_
  obtain ⟨q35, hq36, h⟩ := bindE h
  refine z_callV (As := [vI 0]) (rest := []) (s_M_comesOut hz hG b01_0 hq36) dX11_expression_115 mw_M_comesOut cl11 sh_296 (by decide) (Nat.le_trans (by decide) hz) ml_M_334 im_M_comesOut se_M_comesOut rfl rfl rfl rfl (Nat.le_refl _) (Nat.le_of_eq hb.symm) (fun hp37 => ?_)
  show Zt _ _ _ _ 118 _ [] (z, q35, J, G)
  refine z_aload_n dX11_expression_118 rfl ?_
  refine z_dup dX11_expression_119 rfl ?_
  refine z_nm (fun hN38 => ?_)
  refine y_getI dX11_expression_120 cl11 sh_296 (by decide) (Nat.le_trans (by decide) hz) 48 rfl rfl (fl_M_325) ?_
  refine z_iconst dX11_expression_123 ?_
  refine z_isub dX11_expression_124 ?_
  refine y_putI dX11_expression_125 cl11 sh_296 (by decide) (Nat.le_trans (by decide) hz) 48 rfl rfl rfl (fl_M_325) rfl rfl (inR_w32 _) ?_
  refine z_aload_n dX11_expression_128 rfl ?_
  refine z_dup dX11_expression_129 rfl ?_
  refine z_nm (fun hN39 => ?_)
  refine y_getI dX11_expression_130 cl11 sh_296 (by decide) (Nat.le_trans (by decide) hz) 12 rfl rfl (fl_M_266) ?_
  refine z_iconst dX11_expression_133 ?_
  refine z_isub dX11_expression_134 ?_
  refine y_putI dX11_expression_135 cl11 sh_296 (by decide) (Nat.le_trans (by decide) hz) 12 rfl rfl rfl (fl_M_266) rfl rfl (inR_w32 _) ?_
  refine z_aload_n dX11_expression_138 rfl ?_
  obtain ⟨q40, hq41, h⟩ := bindE h
  refine z_callV (As := []) (rest := []) (s_M_goesOn hz hG  hq41) dX11_expression_139 mw_M_goesOn cl11 sh_296 (by decide) (Nat.le_trans (by decide) hz) ml_M_260 im_M_goesOn se_M_goesOn rfl rfl rfl rfl (Nat.le_refl _) (Nat.le_of_eq hb.symm) (fun hp42 => ?_)
  show Zt _ _ _ _ 142 _ [] (z, q40, J, G)
  refine z_goto (tgt := 96) dX11_expression_142 (by decide) ?_
  exact kS _ (someE h).symm trivial
theorem l_M_expression_L96 {l : Launch} {g : GX} {φ : CX} {z : Nat} {G : Nat → Nat → Nat} {F : Nat} (hb : cb φ = z) (hz : 353 ≤ z) (hG : lyM G) {x1 : Int} {J : Nat → Nat → Int} (hx1 : inR x1) (n : Nat) (s : MI) (e : MI) (h : iter (fun s : MI => f_M_expression_L96 F x1 s J) n s = some e) (hs : True) (k : ((True) → Zt l g φ mu_M_expression 145 [some (vR g 296), some (vI x1), none] [] (z, e, J, G))) : Zt l g φ mu_M_expression 96 [some (vR g 296), some (vI x1), none] [] (z, s, J, G) := by
  refine iter_ind (Z := fun s : MI => Zt l g φ mu_M_expression 96 [some (vR g 296), some (vI x1), none] [] (z, s, J, G)) (ZE := fun e : MI => ((True) → Zt l g φ mu_M_expression 145 [some (vR g 296), some (vI x1), none] [] (z, e, J, G))) (Rg := fun s : MI => True) ?_ n s e h hs k
  intro s r hr hst kE kS
  exact t_M_expression_L96 hb hz hG hx1 hst kE kS
set_option maxHeartbeats 1000000 in
theorem t_M_expression_b234in12 {l : Launch} {g : GX} {φ : CX} {z : Nat} {G : Nat → Nat → Nat} {F : Nat} (hb : cb φ = z) (hz : 353 ≤ z) (hG : lyM G) {x1 : Int} {x2 : Int} {s1 : Int} {I J : Nat → Nat → Int} (hx1 : inR x1) (hx2 : inR x2) (hs1 : inR s1) (hb1 : s1 = 0 ∨ s1 = 1) {res : ((MI) ⊕ ((MI) ⊕ (MI))) ⊕ (Int × MI)} (h : f_M_expression_b234in12 F x1 x2 s1 I J = some res) (kE : ∀ e : (MI) ⊕ ((MI) ⊕ (MI)), res = .inl e → ((fun w : (MI) ⊕ ((MI) ⊕ (MI)) => (match w with | .inl e0 => ((True) → Zt l g φ mu_M_expression 95 [none, none, none] [] (z, e0, J, G)) | .inr o0 => (match o0 with | .inl e1 => ((True) → Zt l g φ mu_M_expression 191 [some (vR g 296), some (vI x1), none] [] (z, e1, J, G)) | .inr o1 => ((True) → Zt l g φ mu_M_expression 272 [none, none, none] [] (z, o1, J, G))))) e)) (kS : ∀ s : Int × MI, res = .inr s → (inR s.1) → Zt l g φ mu_M_expression 12 [some (vR g 296), some (vI x1), some (vI s.1)] [] (z, s.2, J, G)) : Zt l g φ mu_M_expression 234 [some (vR g 296), some (vI x1), some (vI x2)] [vI s1, vR g 296] (z, I, J, G) := by
  obtain ⟨q55, hq56, h⟩ := bindE h
  refine z_callV (As := [vI s1]) (rest := []) (s_M_comesOut hz hG hb1 hq56) dX11_expression_234 mw_M_comesOut cl11 sh_296 (by decide) (Nat.le_trans (by decide) hz) ml_M_334 im_M_comesOut se_M_comesOut rfl rfl rfl rfl (Nat.le_refl _) (Nat.le_of_eq hb.symm) (fun hp57 => ?_)
  show Zt _ _ _ _ 237 _ [] (z, q55, J, G)
  refine z_aload_n dX11_expression_237 rfl ?_
  refine y_getR dX11_expression_238 cl11 sh_296 (by decide) (Nat.le_trans (by decide) hz) 47 rfl rfl (fl_M_113) (ly_296_47 hG) (by decide) ?_
  refine z_aload_n dX11_expression_241 rfl ?_
  refine z_nm (fun hN58 => ?_)
  refine y_getI dX11_expression_242 cl11 sh_296 (by decide) (Nat.le_trans (by decide) hz) 48 rfl rfl (fl_M_325) ?_
  refine z_aload_n dX11_expression_245 rfl ?_
  refine y_getR dX11_expression_246 cl11 sh_296 (by decide) (Nat.le_trans (by decide) hz) 5 rfl rfl (fl_M_20) (ly_296_5 hG) (by decide) ?_
  refine z_aload_n dX11_expression_249 rfl ?_
  refine y_getI dX11_expression_250 cl11 sh_296 (by decide) (Nat.le_trans (by decide) hz) 11 rfl rfl (fl_M_242) ?_
  obtain ⟨hg59, h⟩ := guardE h
  refine y_iald dX11_expression_253 sh_299 (by decide) (Nat.le_trans (by decide) hz) (hN58.1 296 11) hg59 ?_
  obtain ⟨hg60, h⟩ := guardE h
  refine y_iast dX11_expression_254 sh_328 (by decide) (Nat.le_trans (by decide) hz) (hN58.1 296 48) hg60 (hN58.1 299 ((q55 296 11)).toNat) ?_
  refine z_aload_n dX11_expression_255 rfl ?_
  refine z_dup dX11_expression_256 rfl ?_
  refine z_nm (fun hN61 => ?_)
  refine y_getI dX11_expression_257 cl11 sh_296 (by decide) (Nat.le_trans (by decide) hz) 48 rfl rfl (fl_M_325) ?_
  refine z_iconst dX11_expression_260 ?_
  refine z_iadd dX11_expression_261 ?_
  refine y_putI dX11_expression_262 cl11 sh_296 (by decide) (Nat.le_trans (by decide) hz) 48 rfl rfl rfl (fl_M_325) rfl rfl (inR_w32 _) ?_
  refine z_aload_n dX11_expression_265 rfl ?_
  obtain ⟨q62, hq63, h⟩ := bindE h
  refine z_callV (As := []) (rest := []) (s_M_goesOn hz hG  hq63) dX11_expression_266 mw_M_goesOn cl11 sh_296 (by decide) (Nat.le_trans (by decide) hz) ml_M_260 im_M_goesOn se_M_goesOn rfl rfl rfl rfl (Nat.le_refl _) (Nat.le_of_eq hb.symm) (fun hp64 => ?_)
  show Zt _ _ _ _ 269 _ [] (z, q62, J, G)
  refine z_goto (tgt := 12) dX11_expression_269 (by decide) ?_
  exact kS _ (someE h).symm hx2
set_option maxHeartbeats 1000000 in
theorem t_M_expression_b229in12 {l : Launch} {g : GX} {φ : CX} {z : Nat} {G : Nat → Nat → Nat} {F : Nat} (hb : cb φ = z) (hz : 353 ≤ z) (hG : lyM G) {x1 : Int} {x2 : Int} {I J : Nat → Nat → Int} (hx1 : inR x1) (hx2 : inR x2) {res : ((MI) ⊕ ((MI) ⊕ (MI))) ⊕ (Int × MI)} (h : f_M_expression_b229in12 F x1 x2 I J = some res) (kE : ∀ e : (MI) ⊕ ((MI) ⊕ (MI)), res = .inl e → ((fun w : (MI) ⊕ ((MI) ⊕ (MI)) => (match w with | .inl e0 => ((True) → Zt l g φ mu_M_expression 95 [none, none, none] [] (z, e0, J, G)) | .inr o0 => (match o0 with | .inl e1 => ((True) → Zt l g φ mu_M_expression 191 [some (vR g 296), some (vI x1), none] [] (z, e1, J, G)) | .inr o1 => ((True) → Zt l g φ mu_M_expression 272 [none, none, none] [] (z, o1, J, G))))) e)) (kS : ∀ s : Int × MI, res = .inr s → (inR s.1) → Zt l g φ mu_M_expression 12 [some (vR g 296), some (vI x1), some (vI s.1)] [] (z, s.2, J, G)) : Zt l g φ mu_M_expression 229 [some (vR g 296), some (vI x1), some (vI x2)] [vR g 296] (z, I, J, G) := by
  refine z_iconst dX11_expression_229 ?_
  refine z_goto (tgt := 234) dX11_expression_230 (by decide) ?_
  exact t_M_expression_b234in12 hb hz hG hx1 hx2 (inRd (x := 1) (by decide)) b01_1 h kE kS
set_option maxHeartbeats 1000000 in
theorem t_M_expression_b186in12 {l : Launch} {g : GX} {φ : CX} {z : Nat} {G : Nat → Nat → Nat} {F : Nat} (hb : cb φ = z) (hz : 353 ≤ z) (hG : lyM G) {x1 : Int} {s0 : Int} {I J : Nat → Nat → Int} (hx1 : inR x1) (hs0 : inR s0) (hb0 : s0 = 0 ∨ s0 = 1) {res : ((MI) ⊕ ((MI) ⊕ (MI))) ⊕ (Int × MI)} (h : f_M_expression_b186in12 F x1 s0 I J = some res) (kE : ∀ e : (MI) ⊕ ((MI) ⊕ (MI)), res = .inl e → ((fun w : (MI) ⊕ ((MI) ⊕ (MI)) => (match w with | .inl e0 => ((True) → Zt l g φ mu_M_expression 95 [none, none, none] [] (z, e0, J, G)) | .inr o0 => (match o0 with | .inl e1 => ((True) → Zt l g φ mu_M_expression 191 [some (vR g 296), some (vI x1), none] [] (z, e1, J, G)) | .inr o1 => ((True) → Zt l g φ mu_M_expression 272 [none, none, none] [] (z, o1, J, G))))) e)) (kS : ∀ s : Int × MI, res = .inr s → (inR s.1) → Zt l g φ mu_M_expression 12 [some (vR g 296), some (vI x1), some (vI s.1)] [] (z, s.2, J, G)) : Zt l g φ mu_M_expression 186 [some (vR g 296), some (vI x1), none] [vI s0] (z, I, J, G) := by
  refine z_istore_n (L' := [some (vR g 296), some (vI x1), some (vI s0)]) dX11_expression_186 rfl rfl rfl ?_
  refine z_iload_n dX11_expression_187 rfl ?_
  refine z_if_ne (tgt := 210) dX11_expression_188 (by decide) hs0 (fun hc50 => ?_) (fun hc50 => ?_)
  · replace h := ifT hc50 h
    refine z_aload_n dX11_expression_210 rfl ?_
    refine z_aload_n dX11_expression_211 rfl ?_
    refine z_bipush dX11_expression_212 (by decide +kernel) ?_
    obtain ⟨q51, hq52, h⟩ := bindE h
    refine z_callV (As := [vI 10]) (rest := [vR g 296]) (s_M_is hz hG (inRd (x := 10) (by decide)) hq52) dX11_expression_214 mw_M_is cl11 sh_296 (by decide) (Nat.le_trans (by decide) hz) ml_M_257 im_M_is se_M_is rfl rfl rfl rfl (Nat.le_refl _) (Nat.le_of_eq hb.symm) (fun hp53 => ?_)
    show Zt _ _ _ _ 217 _ [vI q51, vR g 296] (z, I, J, G)
    refine z_if_ne (tgt := 229) dX11_expression_217 (by decide) (inR_bool hp53) (fun hc54 => ?_) (fun hc54 => ?_)
    · replace h := ifT hc54 h
      exact t_M_expression_b229in12 hb hz hG hx1 hs0 h kE kS
    replace h := ifF (fun q => q hc54) h
    refine z_aload_n dX11_expression_220 rfl ?_
    refine z_bipush dX11_expression_221 (by decide +kernel) ?_
    obtain ⟨q65, hq66, h⟩ := bindE h
    refine z_callV (As := [vI 15]) (rest := [vR g 296]) (s_M_is hz hG (inRd (x := 15) (by decide)) hq66) dX11_expression_223 mw_M_is cl11 sh_296 (by decide) (Nat.le_trans (by decide) hz) ml_M_257 im_M_is se_M_is rfl rfl rfl rfl (Nat.le_refl _) (Nat.le_of_eq hb.symm) (fun hp67 => ?_)
    show Zt _ _ _ _ 226 _ [vI q65, vR g 296] (z, I, J, G)
    refine z_if_eq (tgt := 233) dX11_expression_226 (by decide) (inR_bool hp67) (fun hc68 => ?_) (fun hc68 => ?_)
    · replace h := ifT hc68 h
      refine z_iconst dX11_expression_233 ?_
      exact t_M_expression_b234in12 hb hz hG hx1 hs0 (inRd (x := 0) (by decide)) b01_0 h kE kS
    replace h := ifF hc68 h
    exact t_M_expression_b229in12 hb hz hG hx1 hs0 h kE kS
  replace h := ifF (fun q => q hc50) h
  refine z_weak (L' := [some (vR g 296), some (vI x1), none]) (lsS (lsS (lsN ls0))) ?_
  exact kE _ (someE h).symm trivial
set_option maxHeartbeats 1000000 in
theorem t_M_expression_b181in12 {l : Launch} {g : GX} {φ : CX} {z : Nat} {G : Nat → Nat → Nat} {F : Nat} (hb : cb φ = z) (hz : 353 ≤ z) (hG : lyM G) {x1 : Int} {I J : Nat → Nat → Int} (hx1 : inR x1) {res : ((MI) ⊕ ((MI) ⊕ (MI))) ⊕ (Int × MI)} (h : f_M_expression_b181in12 F x1 I J = some res) (kE : ∀ e : (MI) ⊕ ((MI) ⊕ (MI)), res = .inl e → ((fun w : (MI) ⊕ ((MI) ⊕ (MI)) => (match w with | .inl e0 => ((True) → Zt l g φ mu_M_expression 95 [none, none, none] [] (z, e0, J, G)) | .inr o0 => (match o0 with | .inl e1 => ((True) → Zt l g φ mu_M_expression 191 [some (vR g 296), some (vI x1), none] [] (z, e1, J, G)) | .inr o1 => ((True) → Zt l g φ mu_M_expression 272 [none, none, none] [] (z, o1, J, G))))) e)) (kS : ∀ s : Int × MI, res = .inr s → (inR s.1) → Zt l g φ mu_M_expression 12 [some (vR g 296), some (vI x1), some (vI s.1)] [] (z, s.2, J, G)) : Zt l g φ mu_M_expression 181 [some (vR g 296), some (vI x1), none] [] (z, I, J, G) := by
  refine z_iconst dX11_expression_181 ?_
  refine z_goto (tgt := 186) dX11_expression_182 (by decide) ?_
  exact t_M_expression_b186in12 hb hz hG hx1 (inRd (x := 1) (by decide)) b01_1 h kE kS
set_option maxHeartbeats 1000000 in
theorem t_M_expression_L12 {l : Launch} {g : GX} {φ : CX} {z : Nat} {G : Nat → Nat → Nat} {F : Nat} (hb : cb φ = z) (hz : 353 ≤ z) (hG : lyM G) {x1 : Int} {x2 : Int} {I J : Nat → Nat → Int} (hx1 : inR x1) (hx2 : inR x2) {res : ((MI) ⊕ ((MI) ⊕ (MI))) ⊕ (Int × MI)} (h : f_M_expression_L12 F x1 x2 I J = some res) (kE : ∀ e : (MI) ⊕ ((MI) ⊕ (MI)), res = .inl e → ((fun w : (MI) ⊕ ((MI) ⊕ (MI)) => (match w with | .inl e0 => ((True) → Zt l g φ mu_M_expression 95 [none, none, none] [] (z, e0, J, G)) | .inr o0 => (match o0 with | .inl e1 => ((True) → Zt l g φ mu_M_expression 191 [some (vR g 296), some (vI x1), none] [] (z, e1, J, G)) | .inr o1 => ((True) → Zt l g φ mu_M_expression 272 [none, none, none] [] (z, o1, J, G))))) e)) (kS : ∀ s : Int × MI, res = .inr s → (inR s.1) → Zt l g φ mu_M_expression 12 [some (vR g 296), some (vI x1), some (vI s.1)] [] (z, s.2, J, G)) : Zt l g φ mu_M_expression 12 [some (vR g 296), some (vI x1), some (vI x2)] [] (z, I, J, G) := by
  refine z_iload_n dX11_expression_12 rfl ?_
  refine z_if_eq (tgt := 272) dX11_expression_13 (by decide) hx2 (fun hc2 => ?_) (fun hc2 => ?_)
  · replace h := ifT hc2 h
    refine z_weak (L' := [none, none, none]) (lsN (lsN (lsN ls0))) ?_
    exact kE _ (someE h).symm trivial
  replace h := ifF hc2 h
  refine z_aload_n dX11_expression_16 rfl ?_
  refine z_nm (fun hN3 => ?_)
  refine y_getI dX11_expression_17 cl11 sh_296 (by decide) (Nat.le_trans (by decide) hz) 13 rfl rfl (fl_M_239) ?_
  refine z_if_ne (tgt := 272) dX11_expression_20 (by decide) (hN3.1 296 13) (fun hc4 => ?_) (fun hc4 => ?_)
  · replace h := ifT hc4 h
    refine z_weak (L' := [none, none, none]) (lsN (lsN (lsN ls0))) ?_
    exact kE _ (someE h).symm trivial
  replace h := ifF (fun q => q hc4) h
  refine z_weak (L' := [some (vR g 296), some (vI x1), none]) (lsS (lsS (lsN ls0))) ?_
  obtain ⟨e21, h22, h⟩ := bindE h
  refine l_M_expression_L23 hb hz hG hx1 _ _ _ h22 trivial ?_
  refine fun h23 => ?_
  refine z_aload_n dX11_expression_84 rfl ?_
  obtain ⟨q24, hq25, h⟩ := bindE h
  refine z_callV (As := []) (rest := []) (s_M_unit hz hG  hq25) dX11_expression_85 mw_M_unit cl11 sh_296 (by decide) (Nat.le_trans (by decide) hz) ml_M_331 im_M_unit se_M_unit rfl rfl rfl rfl (Nat.le_refl _) (Nat.le_of_eq hb.symm) (fun hp26 => ?_)
  show Zt _ _ _ _ 88 _ [] (z, q24, J, G)
  refine z_aload_n dX11_expression_88 rfl ?_
  refine z_nm (fun hN27 => ?_)
  refine y_getI dX11_expression_89 cl11 sh_296 (by decide) (Nat.le_trans (by decide) hz) 13 rfl rfl (fl_M_239) ?_
  refine z_if_le (tgt := 96) dX11_expression_92 (by decide) (hN27.1 296 13) (fun hc28 => ?_) (fun hc28 => ?_)
  · replace h := ifT hc28 h
    obtain ⟨e43, h44, h⟩ := bindE h
    refine l_M_expression_L96 hb hz hG hx1 _ _ _ h44 trivial ?_
    refine fun h45 => ?_
    refine z_aload_n dX11_expression_145 rfl ?_
    refine z_bipush dX11_expression_146 (by decide +kernel) ?_
    obtain ⟨q46, hq47, h⟩ := bindE h
    refine z_callV (As := [vI 8]) (rest := []) (s_M_is hz hG (inRd (x := 8) (by decide)) hq47) dX11_expression_148 mw_M_is cl11 sh_296 (by decide) (Nat.le_trans (by decide) hz) ml_M_257 im_M_is se_M_is rfl rfl rfl rfl (Nat.le_refl _) (Nat.le_of_eq hb.symm) (fun hp48 => ?_)
    show Zt _ _ _ _ 151 _ [vI q46] (z, e43, J, G)
    refine z_if_ne (tgt := 181) dX11_expression_151 (by decide) (inR_bool hp48) (fun hc49 => ?_) (fun hc49 => ?_)
    · replace h := ifT hc49 h
      exact t_M_expression_b181in12 hb hz hG hx1 h kE kS
    replace h := ifF (fun q => q hc49) h
    refine z_aload_n dX11_expression_154 rfl ?_
    refine z_bipush dX11_expression_155 (by decide +kernel) ?_
    obtain ⟨q69, hq70, h⟩ := bindE h
    refine z_callV (As := [vI 9]) (rest := []) (s_M_is hz hG (inRd (x := 9) (by decide)) hq70) dX11_expression_157 mw_M_is cl11 sh_296 (by decide) (Nat.le_trans (by decide) hz) ml_M_257 im_M_is se_M_is rfl rfl rfl rfl (Nat.le_refl _) (Nat.le_of_eq hb.symm) (fun hp71 => ?_)
    show Zt _ _ _ _ 160 _ [vI q69] (z, e43, J, G)
    refine z_if_ne (tgt := 181) dX11_expression_160 (by decide) (inR_bool hp71) (fun hc72 => ?_) (fun hc72 => ?_)
    · replace h := ifT hc72 h
      exact t_M_expression_b181in12 hb hz hG hx1 h kE kS
    replace h := ifF (fun q => q hc72) h
    refine z_aload_n dX11_expression_163 rfl ?_
    refine z_bipush dX11_expression_164 (by decide +kernel) ?_
    obtain ⟨q73, hq74, h⟩ := bindE h
    refine z_callV (As := [vI 10]) (rest := []) (s_M_is hz hG (inRd (x := 10) (by decide)) hq74) dX11_expression_166 mw_M_is cl11 sh_296 (by decide) (Nat.le_trans (by decide) hz) ml_M_257 im_M_is se_M_is rfl rfl rfl rfl (Nat.le_refl _) (Nat.le_of_eq hb.symm) (fun hp75 => ?_)
    show Zt _ _ _ _ 169 _ [vI q73] (z, e43, J, G)
    refine z_if_ne (tgt := 181) dX11_expression_169 (by decide) (inR_bool hp75) (fun hc76 => ?_) (fun hc76 => ?_)
    · replace h := ifT hc76 h
      exact t_M_expression_b181in12 hb hz hG hx1 h kE kS
    replace h := ifF (fun q => q hc76) h
    refine z_aload_n dX11_expression_172 rfl ?_
    refine z_bipush dX11_expression_173 (by decide +kernel) ?_
    obtain ⟨q77, hq78, h⟩ := bindE h
    refine z_callV (As := [vI 15]) (rest := []) (s_M_is hz hG (inRd (x := 15) (by decide)) hq78) dX11_expression_175 mw_M_is cl11 sh_296 (by decide) (Nat.le_trans (by decide) hz) ml_M_257 im_M_is se_M_is rfl rfl rfl rfl (Nat.le_refl _) (Nat.le_of_eq hb.symm) (fun hp79 => ?_)
    show Zt _ _ _ _ 178 _ [vI q77] (z, e43, J, G)
    refine z_if_eq (tgt := 185) dX11_expression_178 (by decide) (inR_bool hp79) (fun hc80 => ?_) (fun hc80 => ?_)
    · replace h := ifT hc80 h
      refine z_iconst dX11_expression_185 ?_
      exact t_M_expression_b186in12 hb hz hG hx1 (inRd (x := 0) (by decide)) b01_0 h kE kS
    replace h := ifF hc80 h
    exact t_M_expression_b181in12 hb hz hG hx1 h kE kS
  replace h := ifF hc28 h
  refine z_weak (L' := [none, none, none]) (lsN (lsN (lsN ls0))) ?_
  exact kE _ (someE h).symm trivial
theorem l_M_expression_L12 {l : Launch} {g : GX} {φ : CX} {z : Nat} {G : Nat → Nat → Nat} {F : Nat} (hb : cb φ = z) (hz : 353 ≤ z) (hG : lyM G) {x1 : Int} {J : Nat → Nat → Int} (hx1 : inR x1) (n : Nat) (s : Int × MI) (e : (MI) ⊕ ((MI) ⊕ (MI))) (h : iter (fun s : Int × MI => f_M_expression_L12 F x1 s.1 s.2 J) n s = some e) (hs : inR s.1) (k : ((fun w : (MI) ⊕ ((MI) ⊕ (MI)) => (match w with | .inl e0 => ((True) → Zt l g φ mu_M_expression 95 [none, none, none] [] (z, e0, J, G)) | .inr o0 => (match o0 with | .inl e1 => ((True) → Zt l g φ mu_M_expression 191 [some (vR g 296), some (vI x1), none] [] (z, e1, J, G)) | .inr o1 => ((True) → Zt l g φ mu_M_expression 272 [none, none, none] [] (z, o1, J, G))))) e)) : Zt l g φ mu_M_expression 12 [some (vR g 296), some (vI x1), some (vI s.1)] [] (z, s.2, J, G) := by
  refine iter_ind (Z := fun s : Int × MI => Zt l g φ mu_M_expression 12 [some (vR g 296), some (vI x1), some (vI s.1)] [] (z, s.2, J, G)) (ZE := fun e : (MI) ⊕ ((MI) ⊕ (MI)) => ((fun w : (MI) ⊕ ((MI) ⊕ (MI)) => (match w with | .inl e0 => ((True) → Zt l g φ mu_M_expression 95 [none, none, none] [] (z, e0, J, G)) | .inr o0 => (match o0 with | .inl e1 => ((True) → Zt l g φ mu_M_expression 191 [some (vR g 296), some (vI x1), none] [] (z, e1, J, G)) | .inr o1 => ((True) → Zt l g φ mu_M_expression 272 [none, none, none] [] (z, o1, J, G))))) e)) (Rg := fun s : Int × MI => inR s.1) ?_ n s e h hs k
  intro s r hr hst kE kS
  exact t_M_expression_L12 hb hz hG hx1 hr hst kE kS
set_option maxHeartbeats 1000000 in
theorem t_M_expression_b204 {l : Launch} {g : GX} {φ : CX} {z : Nat} {G : Nat → Nat → Nat} {F : Nat} (hb : cb φ = z) (hz : 353 ≤ z) (hG : lyM G) {I J : Nat → Nat → Int} {res : MI} (h : f_M_expression_b204 F I J = some res) (hE : ends g φ none none True (z, res, J, G)) : Zt l g φ mu_M_expression 204 [some (vR g 296), none, none] [] (z, I, J, G) := by
  refine z_aload_n dX11_expression_204 rfl ?_
  refine z_iconst dX11_expression_205 ?_
  obtain ⟨q91, hq92, h⟩ := bindE h
  refine z_callV (As := [vI 0]) (rest := []) (s_M_comesOut hz hG b01_0 hq92) dX11_expression_206 mw_M_comesOut cl11 sh_296 (by decide) (Nat.le_trans (by decide) hz) ml_M_334 im_M_comesOut se_M_comesOut rfl rfl rfl rfl (Nat.le_refl _) (Nat.le_of_eq hb.symm) (fun hp93 => ?_)
  show Zt _ _ _ _ 209 _ [] (z, q91, J, G)
  obtain rfl := someE h
  exact z_vret dX11_expression_209 hE trivial rfl
set_option maxHeartbeats 1000000 in
theorem s_M_expression {l : Launch} {g : GX} {z : Nat} {G : Nat → Nat → Nat} {F : Nat} (hz : 353 ≤ z) (hG : lyM G) {I J : Nat → Nat → Int} {res : MI} (h : f_M_expression F I J = some res) : Spec l g 3 yX11_expression cX11_expression 3 none [vR g 296] (z, I, J, G) none True (z, res, J, G) := by
  refine spec_of (μ := mu_M_expression) (k := 2) (L0 := [some (vR g 296), none, none]) rfl mw_M_expression rfl rfl (Nat.le_refl _) (fun φ hb hE => ?_)
  refine z_aload_n dX11_expression_0 rfl ?_
  refine z_iconst dX11_expression_1 ?_
  refine y_putI dX11_expression_2 cl11 sh_296 (by decide) (Nat.le_trans (by decide) hz) 48 rfl rfl rfl (fl_M_325) rfl rfl (inRd (x := 0) (by decide)) ?_
  refine z_aload_n dX11_expression_5 rfl ?_
  refine z_nm (fun hN1 => ?_)
  refine y_getI dX11_expression_6 cl11 sh_296 (by decide) (Nat.le_trans (by decide) hz) 12 rfl rfl (fl_M_266) ?_
  refine z_istore_n (L' := [some (vR g 296), some (vI ((up2 I 296 48 0) 296 12)), none]) dX11_expression_9 rfl rfl rfl ?_
  refine z_iconst dX11_expression_10 ?_
  refine z_istore_n (L' := [some (vR g 296), some (vI ((up2 I 296 48 0) 296 12)), some (vI 1)]) dX11_expression_11 rfl rfl rfl ?_
  obtain ⟨e81, h82, h⟩ := bindE h
  rcases e81 with e83 | o84
  · refine l_M_expression_L12 hb hz hG (hN1.1 296 12) _ _ _ h82 (inRd (x := 1) (by decide)) ?_
    refine fun h85 => ?_
    obtain rfl := someE h
    exact z_vret dX11_expression_95 hE trivial rfl
  rcases o84 with e86 | o87
  · refine l_M_expression_L12 hb hz hG (hN1.1 296 12) _ _ _ h82 (inRd (x := 1) (by decide)) ?_
    refine fun h88 => ?_
    refine z_aload_n dX11_expression_191 rfl ?_
    refine z_nm (fun hN89 => ?_)
    refine y_getI dX11_expression_192 cl11 sh_296 (by decide) (Nat.le_trans (by decide) hz) 12 rfl rfl (fl_M_266) ?_
    refine z_iload_n dX11_expression_195 rfl ?_
    refine z_icmp_le (tgt := 204) dX11_expression_196 (by decide) (hN89.1 296 12) (hN1.1 296 12) (fun hc90 => ?_) (fun hc90 => ?_)
    · replace h := ifT hc90 h
      refine z_weak (L' := [some (vR g 296), none, none]) (lsS (lsN (lsN ls0))) ?_
      exact t_M_expression_b204 hb hz hG  h hE
    replace h := ifF hc90 h
    refine z_aload_n dX11_expression_199 rfl ?_
    refine z_iconst dX11_expression_200 ?_
    obtain ⟨q94, hq95, h⟩ := bindE h
    refine z_callV (As := [vI 1]) (rest := []) (s_M_fail hz hG (inRd (x := 1) (by decide)) hq95) dX11_expression_201 mw_M_fail cl11 sh_296 (by decide) (Nat.le_trans (by decide) hz) ml_M_254 im_M_fail se_M_fail rfl rfl rfl rfl (Nat.le_refl _) (Nat.le_of_eq hb.symm) (fun hp96 => ?_)
    show Zt _ _ _ _ 204 _ [] (z, q94, J, G)
    refine z_weak (L' := [some (vR g 296), none, none]) (lsS (lsN (lsN ls0))) ?_
    exact t_M_expression_b204 hb hz hG  h hE
  refine l_M_expression_L12 hb hz hG (hN1.1 296 12) _ _ _ h82 (inRd (x := 1) (by decide)) ?_
  refine fun h97 => ?_
  obtain rfl := someE h
  exact z_vret dX11_expression_272 hE trivial rfl
set_option maxHeartbeats 1000000 in
theorem t_M_term_b24 {l : Launch} {g : GX} {φ : CX} {z : Nat} {G : Nat → Nat → Nat} {F : Nat} (hb : cb φ = z) (hz : 353 ≤ z) (hG : lyM G) {I J : Nat → Nat → Int} {res : MI} (h : f_M_term_b24 F I J = some res) (hE : ends g φ none none True (z, res, J, G)) : Zt l g φ mu_M_term 24 [some (vR g 296)] [] (z, I, J, G) := by
  refine z_aload_n dX11_term_24 rfl ?_
  refine y_getR dX11_term_25 cl11 sh_296 (by decide) (Nat.le_trans (by decide) hz) 43 rfl rfl (fl_M_104) (ly_296_43 hG) (by decide) ?_
  refine z_aload_n dX11_term_28 rfl ?_
  refine z_nm (fun hN5 => ?_)
  refine y_getI dX11_term_29 cl11 sh_296 (by decide) (Nat.le_trans (by decide) hz) 38 rfl rfl (fl_M_278) ?_
  refine z_aload_n dX11_term_32 rfl ?_
  refine y_getI dX11_term_33 cl11 sh_296 (by decide) (Nat.le_trans (by decide) hz) 44 rfl rfl (fl_M_281) ?_
  obtain ⟨hg6, h⟩ := guardE h
  refine y_iast dX11_term_36 sh_325 (by decide) (Nat.le_trans (by decide) hz) (hN5.1 296 38) hg6 (hN5.1 296 44) ?_
  refine z_aload_n dX11_term_37 rfl ?_
  refine z_dup dX11_term_38 rfl ?_
  refine z_nm (fun hN7 => ?_)
  refine y_getI dX11_term_39 cl11 sh_296 (by decide) (Nat.le_trans (by decide) hz) 38 rfl rfl (fl_M_278) ?_
  refine z_iconst dX11_term_42 ?_
  refine z_iadd dX11_term_43 ?_
  refine y_putI dX11_term_44 cl11 sh_296 (by decide) (Nat.le_trans (by decide) hz) 38 rfl rfl rfl (fl_M_278) rfl rfl (inR_w32 _) ?_
  obtain rfl := someE h
  exact z_vret dX11_term_47 hE trivial rfl
set_option maxHeartbeats 1000000 in
theorem s_M_term {l : Launch} {g : GX} {z : Nat} {G : Nat → Nat → Nat} {F : Nat} (hz : 353 ≤ z) (hG : lyM G) {I J : Nat → Nat → Int} {res : MI} (h : f_M_term F I J = some res) : Spec l g 4 yX11_term cX11_term 1 none [vR g 296] (z, I, J, G) none True (z, res, J, G) := by
  refine spec_of (μ := mu_M_term) (k := 0) (L0 := [some (vR g 296)]) rfl mw_M_term rfl rfl (Nat.le_refl _) (fun φ hb hE => ?_)
  refine z_aload_n dX11_term_0 rfl ?_
  refine y_getR dX11_term_1 cl11 sh_296 (by decide) (Nat.le_trans (by decide) hz) 42 rfl rfl (fl_M_101) (ly_296_42 hG) (by decide) ?_
  refine z_aload_n dX11_term_4 rfl ?_
  refine z_nm (fun hN1 => ?_)
  refine y_getI dX11_term_5 cl11 sh_296 (by decide) (Nat.le_trans (by decide) hz) 38 rfl rfl (fl_M_278) ?_
  refine z_aload_n dX11_term_8 rfl ?_
  refine y_getI dX11_term_9 cl11 sh_296 (by decide) (Nat.le_trans (by decide) hz) 44 rfl rfl (fl_M_281) ?_
  obtain ⟨hg2, h⟩ := guardE h
  refine y_iast dX11_term_12 sh_324 (by decide) (Nat.le_trans (by decide) hz) (hN1.1 296 38) hg2 (hN1.1 296 44) ?_
  refine z_aload_n dX11_term_13 rfl ?_
  refine z_nm (fun hN3 => ?_)
  refine y_getI dX11_term_14 cl11 sh_296 (by decide) (Nat.le_trans (by decide) hz) 13 rfl rfl (fl_M_239) ?_
  refine z_if_ne (tgt := 24) dX11_term_17 (by decide) (hN3.1 296 13) (fun hc4 => ?_) (fun hc4 => ?_)
  · replace h := ifT hc4 h
    exact t_M_term_b24 hb hz hG  h hE
  replace h := ifF (fun q => q hc4) h
  refine z_aload_n dX11_term_20 rfl ?_
  obtain ⟨q8, hq9, h⟩ := bindE h
  refine z_callV (As := []) (rest := []) (s_M_expression hz hG  hq9) dX11_term_21 mw_M_expression cl11 sh_296 (by decide) (Nat.le_trans (by decide) hz) ml_M_319 im_M_expression se_M_expression rfl rfl rfl rfl (Nat.le_refl _) (Nat.le_of_eq hb.symm) (fun hp10 => ?_)
  show Zt _ _ _ _ 24 _ [] (z, q8, J, G)
  exact t_M_term_b24 hb hz hG  h hE
set_option maxHeartbeats 1000000 in
theorem t_M_tellLaw_b110in12 {l : Launch} {g : GX} {φ : CX} {z : Nat} {G : Nat → Nat → Nat} {F : Nat} (hb : cb φ = z) (hz : 353 ≤ z) (hG : lyM G) {x1 : Int} {x2 : Int} {x3 : Int} {I J : Nat → Nat → Int} (hx1 : inR x1) (hx2 : inR x2) (hx3 : inR x3) {res : ((MI) ⊕ (MI)) ⊕ (Int × MI)} (h : f_M_tellLaw_b110in12 F x1 x2 x3 I J = some res) (kE : ∀ e : (MI) ⊕ (MI), res = .inl e → ((fun w : (MI) ⊕ (MI) => (match w with | .inl e0 => ((True) → Zt l g φ mu_M_tellLaw 45 [none, none, none, none] [] (z, e0, J, G)) | .inr o0 => ((True) → Zt l g φ mu_M_tellLaw 129 [some (vR g 296), some (vI x1), some (vI x2), none] [] (z, o0, J, G)))) e)) (kS : ∀ s : Int × MI, res = .inr s → (inR s.1) → Zt l g φ mu_M_tellLaw 12 [some (vR g 296), some (vI x1), some (vI x2), some (vI s.1)] [] (z, s.2, J, G)) : Zt l g φ mu_M_tellLaw 110 [some (vR g 296), some (vI x1), some (vI x2), some (vI x3)] [] (z, I, J, G) := by
  refine z_aload_n dX11_tellLaw_110 rfl ?_
  refine z_bipush dX11_tellLaw_111 (by decide +kernel) ?_
  obtain ⟨q31, hq32, h⟩ := bindE h
  refine z_callV (As := [vI 29]) (rest := []) (s_M_must hz hG (inRd (x := 29) (by decide)) hq32) dX11_tellLaw_113 mw_M_must cl11 sh_296 (by decide) (Nat.le_trans (by decide) hz) ml_M_297 im_M_must se_M_must rfl rfl rfl rfl (Nat.le_refl _) (Nat.le_of_eq hb.symm) (fun hp33 => ?_)
  show Zt _ _ _ _ 116 _ [] (z, q31, J, G)
  refine z_aload_n dX11_tellLaw_116 rfl ?_
  obtain ⟨q34, hq35, h⟩ := bindE h
  refine z_callV (As := []) (rest := []) (s_M_term hz hG  hq35) dX11_tellLaw_117 mw_M_term cl11 sh_296 (by decide) (Nat.le_trans (by decide) hz) ml_M_322 im_M_term se_M_term rfl rfl rfl rfl (Nat.le_refl _) (Nat.le_of_eq hb.symm) (fun hp36 => ?_)
  show Zt _ _ _ _ 120 _ [] (z, q34, J, G)
  refine z_aload_n dX11_tellLaw_120 rfl ?_
  refine z_bipush dX11_tellLaw_121 (by decide +kernel) ?_
  obtain ⟨q37, hq38, h⟩ := bindE h
  refine z_callV (As := [vI 30]) (rest := []) (s_M_must hz hG (inRd (x := 30) (by decide)) hq38) dX11_tellLaw_123 mw_M_must cl11 sh_296 (by decide) (Nat.le_trans (by decide) hz) ml_M_297 im_M_must se_M_must rfl rfl rfl rfl (Nat.le_refl _) (Nat.le_of_eq hb.symm) (fun hp39 => ?_)
  show Zt _ _ _ _ 126 _ [] (z, q37, J, G)
  refine z_goto (tgt := 12) dX11_tellLaw_126 (by decide) ?_
  exact kS _ (someE h).symm hx3
set_option maxHeartbeats 1000000 in
theorem t_M_tellLaw_b38in12 {l : Launch} {g : GX} {φ : CX} {z : Nat} {G : Nat → Nat → Nat} {F : Nat} (hb : cb φ = z) (hz : 353 ≤ z) (hG : lyM G) {x1 : Int} {x2 : Int} {x3 : Int} {I J : Nat → Nat → Int} (hx1 : inR x1) (hx2 : inR x2) (hx3 : inR x3) {res : ((MI) ⊕ (MI)) ⊕ (Int × MI)} (h : f_M_tellLaw_b38in12 F x1 x2 x3 I J = some res) (kE : ∀ e : (MI) ⊕ (MI), res = .inl e → ((fun w : (MI) ⊕ (MI) => (match w with | .inl e0 => ((True) → Zt l g φ mu_M_tellLaw 45 [none, none, none, none] [] (z, e0, J, G)) | .inr o0 => ((True) → Zt l g φ mu_M_tellLaw 129 [some (vR g 296), some (vI x1), some (vI x2), none] [] (z, o0, J, G)))) e)) (kS : ∀ s : Int × MI, res = .inr s → (inR s.1) → Zt l g φ mu_M_tellLaw 12 [some (vR g 296), some (vI x1), some (vI x2), some (vI s.1)] [] (z, s.2, J, G)) : Zt l g φ mu_M_tellLaw 38 [some (vR g 296), some (vI x1), some (vI x2), some (vI x3)] [] (z, I, J, G) := by
  refine z_aload_n dX11_tellLaw_38 rfl ?_
  refine z_nm (fun hN12 => ?_)
  refine y_getI dX11_tellLaw_39 cl11 sh_296 (by decide) (Nat.le_trans (by decide) hz) 13 rfl rfl (fl_M_239) ?_
  refine z_if_le (tgt := 46) dX11_tellLaw_42 (by decide) (hN12.1 296 13) (fun hc13 => ?_) (fun hc13 => ?_)
  · replace h := ifT hc13 h
    refine z_iinc (L' := [some (vR g 296), some (vI x1), some (vI x2), some (vI (w32 (x3 + 1)))]) dX11_tellLaw_46 rfl rfl rfl rfl ?_
    refine z_aload_n dX11_tellLaw_49 rfl ?_
    obtain ⟨q14, hq15, h⟩ := bindE h
    refine z_callV (As := []) (rest := []) (s_M_goesOn hz hG  hq15) dX11_tellLaw_50 mw_M_goesOn cl11 sh_296 (by decide) (Nat.le_trans (by decide) hz) ml_M_260 im_M_goesOn se_M_goesOn rfl rfl rfl rfl (Nat.le_refl _) (Nat.le_of_eq hb.symm) (fun hp16 => ?_)
    show Zt _ _ _ _ 53 _ [] (z, q14, J, G)
    refine z_aload_n dX11_tellLaw_53 rfl ?_
    refine y_getR dX11_tellLaw_54 cl11 sh_296 (by decide) (Nat.le_trans (by decide) hz) 39 rfl rfl (fl_M_91) (ly_296_39 hG) (by decide) ?_
    refine z_aload_n dX11_tellLaw_57 rfl ?_
    refine z_nm (fun hN17 => ?_)
    refine y_getI dX11_tellLaw_58 cl11 sh_296 (by decide) (Nat.le_trans (by decide) hz) 38 rfl rfl (fl_M_278) ?_
    refine z_iconst dX11_tellLaw_61 ?_
    obtain ⟨hg18, h⟩ := guardE h
    refine y_zast dX11_tellLaw_62 sh_321 (by decide) (Nat.le_trans (by decide) hz) (hN17.1 296 38) hg18 b01_1 ?_
    refine z_aload_n dX11_tellLaw_63 rfl ?_
    refine y_getR dX11_tellLaw_64 cl11 sh_296 (by decide) (Nat.le_trans (by decide) hz) 40 rfl rfl (fl_M_95) (ly_296_40 hG) (by decide) ?_
    refine z_aload_n dX11_tellLaw_67 rfl ?_
    refine z_nm (fun hN19 => ?_)
    refine y_getI dX11_tellLaw_68 cl11 sh_296 (by decide) (Nat.le_trans (by decide) hz) 38 rfl rfl (fl_M_278) ?_
    refine z_aload_n dX11_tellLaw_71 rfl ?_
    refine y_getI dX11_tellLaw_72 cl11 sh_296 (by decide) (Nat.le_trans (by decide) hz) 44 rfl rfl (fl_M_281) ?_
    obtain ⟨hg20, h⟩ := guardE h
    refine y_iast dX11_tellLaw_75 sh_322 (by decide) (Nat.le_trans (by decide) hz) (hN19.1 296 38) hg20 (hN19.1 296 44) ?_
    refine z_aload_n dX11_tellLaw_76 rfl ?_
    obtain ⟨q21, hq22, h⟩ := bindE h
    refine z_callV (As := []) (rest := []) (s_M_expression hz hG  hq22) dX11_tellLaw_77 mw_M_expression cl11 sh_296 (by decide) (Nat.le_trans (by decide) hz) ml_M_319 im_M_expression se_M_expression rfl rfl rfl rfl (Nat.le_refl _) (Nat.le_of_eq hb.symm) (fun hp23 => ?_)
    show Zt _ _ _ _ 80 _ [] (z, q21, J, G)
    refine z_aload_n dX11_tellLaw_80 rfl ?_
    refine z_bipush dX11_tellLaw_81 (by decide +kernel) ?_
    obtain ⟨q24, hq25, h⟩ := bindE h
    refine z_callV (As := [vI 13]) (rest := []) (s_M_must hz hG (inRd (x := 13) (by decide)) hq25) dX11_tellLaw_83 mw_M_must cl11 sh_296 (by decide) (Nat.le_trans (by decide) hz) ml_M_297 im_M_must se_M_must rfl rfl rfl rfl (Nat.le_refl _) (Nat.le_of_eq hb.symm) (fun hp26 => ?_)
    show Zt _ _ _ _ 86 _ [] (z, q24, J, G)
    refine z_aload_n dX11_tellLaw_86 rfl ?_
    refine y_getR dX11_tellLaw_87 cl11 sh_296 (by decide) (Nat.le_trans (by decide) hz) 41 rfl rfl (fl_M_98) (ly_296_41 hG) (by decide) ?_
    refine z_aload_n dX11_tellLaw_90 rfl ?_
    refine z_nm (fun hN27 => ?_)
    refine y_getI dX11_tellLaw_91 cl11 sh_296 (by decide) (Nat.le_trans (by decide) hz) 38 rfl rfl (fl_M_278) ?_
    refine z_aload_n dX11_tellLaw_94 rfl ?_
    refine y_getI dX11_tellLaw_95 cl11 sh_296 (by decide) (Nat.le_trans (by decide) hz) 44 rfl rfl (fl_M_281) ?_
    obtain ⟨hg28, h⟩ := guardE h
    refine y_iast dX11_tellLaw_98 sh_323 (by decide) (Nat.le_trans (by decide) hz) (hN27.1 296 38) hg28 (hN27.1 296 44) ?_
    refine z_aload_n dX11_tellLaw_99 rfl ?_
    refine z_nm (fun hN29 => ?_)
    refine y_getI dX11_tellLaw_100 cl11 sh_296 (by decide) (Nat.le_trans (by decide) hz) 13 rfl rfl (fl_M_239) ?_
    refine z_if_ne (tgt := 110) dX11_tellLaw_103 (by decide) (hN29.1 296 13) (fun hc30 => ?_) (fun hc30 => ?_)
    · replace h := ifT hc30 h
      exact t_M_tellLaw_b110in12 hb hz hG hx1 hx2 (inR_w32 _) h kE kS
    replace h := ifF (fun q => q hc30) h
    refine z_aload_n dX11_tellLaw_106 rfl ?_
    obtain ⟨q40, hq41, h⟩ := bindE h
    refine z_callV (As := []) (rest := []) (s_M_expression hz hG  hq41) dX11_tellLaw_107 mw_M_expression cl11 sh_296 (by decide) (Nat.le_trans (by decide) hz) ml_M_319 im_M_expression se_M_expression rfl rfl rfl rfl (Nat.le_refl _) (Nat.le_of_eq hb.symm) (fun hp42 => ?_)
    show Zt _ _ _ _ 110 _ [] (z, q40, J, G)
    exact t_M_tellLaw_b110in12 hb hz hG hx1 hx2 (inR_w32 _) h kE kS
  replace h := ifF hc13 h
  refine z_weak (L' := [none, none, none, none]) (lsN (lsN (lsN (lsN ls0)))) ?_
  exact kE _ (someE h).symm trivial
set_option maxHeartbeats 1000000 in
theorem t_M_tellLaw_L12 {l : Launch} {g : GX} {φ : CX} {z : Nat} {G : Nat → Nat → Nat} {F : Nat} (hb : cb φ = z) (hz : 353 ≤ z) (hG : lyM G) {x1 : Int} {x2 : Int} {x3 : Int} {I J : Nat → Nat → Int} (hx1 : inR x1) (hx2 : inR x2) (hx3 : inR x3) {res : ((MI) ⊕ (MI)) ⊕ (Int × MI)} (h : f_M_tellLaw_L12 F x1 x2 x3 I J = some res) (kE : ∀ e : (MI) ⊕ (MI), res = .inl e → ((fun w : (MI) ⊕ (MI) => (match w with | .inl e0 => ((True) → Zt l g φ mu_M_tellLaw 45 [none, none, none, none] [] (z, e0, J, G)) | .inr o0 => ((True) → Zt l g φ mu_M_tellLaw 129 [some (vR g 296), some (vI x1), some (vI x2), none] [] (z, o0, J, G)))) e)) (kS : ∀ s : Int × MI, res = .inr s → (inR s.1) → Zt l g φ mu_M_tellLaw 12 [some (vR g 296), some (vI x1), some (vI x2), some (vI s.1)] [] (z, s.2, J, G)) : Zt l g φ mu_M_tellLaw 12 [some (vR g 296), some (vI x1), some (vI x2), some (vI x3)] [] (z, I, J, G) := by
  refine z_aload_n dX11_tellLaw_12 rfl ?_
  refine z_nm (fun hN5 => ?_)
  refine y_getI dX11_tellLaw_13 cl11 sh_296 (by decide) (Nat.le_trans (by decide) hz) 13 rfl rfl (fl_M_239) ?_
  refine z_if_ne (tgt := 129) dX11_tellLaw_16 (by decide) (hN5.1 296 13) (fun hc6 => ?_) (fun hc6 => ?_)
  · replace h := ifT hc6 h
    refine z_weak (L' := [some (vR g 296), some (vI x1), some (vI x2), none]) (lsS (lsS (lsS (lsN ls0)))) ?_
    exact kE _ (someE h).symm trivial
  replace h := ifF (fun q => q hc6) h
  refine z_aload_n dX11_tellLaw_19 rfl ?_
  refine z_bipush dX11_tellLaw_20 (by decide +kernel) ?_
  obtain ⟨q7, hq8, h⟩ := bindE h
  refine z_callV (As := [vI 28]) (rest := []) (s_M_is hz hG (inRd (x := 28) (by decide)) hq8) dX11_tellLaw_22 mw_M_is cl11 sh_296 (by decide) (Nat.le_trans (by decide) hz) ml_M_257 im_M_is se_M_is rfl rfl rfl rfl (Nat.le_refl _) (Nat.le_of_eq hb.symm) (fun hp9 => ?_)
  show Zt _ _ _ _ 25 _ [vI q7] (z, I, J, G)
  refine z_if_eq (tgt := 129) dX11_tellLaw_25 (by decide) (inR_bool hp9) (fun hc10 => ?_) (fun hc10 => ?_)
  · replace h := ifT hc10 h
    refine z_weak (L' := [some (vR g 296), some (vI x1), some (vI x2), none]) (lsS (lsS (lsS (lsN ls0)))) ?_
    exact kE _ (someE h).symm trivial
  replace h := ifF hc10 h
  refine z_iload_n dX11_tellLaw_28 rfl ?_
  refine z_iconst dX11_tellLaw_29 ?_
  refine z_icmp_ne (tgt := 38) dX11_tellLaw_30 (by decide) hx3 (inRd (x := 4) (by decide)) (fun hc11 => ?_) (fun hc11 => ?_)
  · replace h := ifT hc11 h
    exact t_M_tellLaw_b38in12 hb hz hG hx1 hx2 hx3 h kE kS
  replace h := ifF (fun q => q hc11) h
  refine z_aload_n dX11_tellLaw_33 rfl ?_
  refine z_iconst dX11_tellLaw_34 ?_
  obtain ⟨q43, hq44, h⟩ := bindE h
  refine z_callV (As := [vI 2]) (rest := []) (s_M_fail hz hG (inRd (x := 2) (by decide)) hq44) dX11_tellLaw_35 mw_M_fail cl11 sh_296 (by decide) (Nat.le_trans (by decide) hz) ml_M_254 im_M_fail se_M_fail rfl rfl rfl rfl (Nat.le_refl _) (Nat.le_of_eq hb.symm) (fun hp45 => ?_)
  show Zt _ _ _ _ 38 _ [] (z, q43, J, G)
  exact t_M_tellLaw_b38in12 hb hz hG hx1 hx2 hx3 h kE kS
theorem l_M_tellLaw_L12 {l : Launch} {g : GX} {φ : CX} {z : Nat} {G : Nat → Nat → Nat} {F : Nat} (hb : cb φ = z) (hz : 353 ≤ z) (hG : lyM G) {x1 : Int} {x2 : Int} {J : Nat → Nat → Int} (hx1 : inR x1) (hx2 : inR x2) (n : Nat) (s : Int × MI) (e : (MI) ⊕ (MI)) (h : iter (fun s : Int × MI => f_M_tellLaw_L12 F x1 x2 s.1 s.2 J) n s = some e) (hs : inR s.1) (k : ((fun w : (MI) ⊕ (MI) => (match w with | .inl e0 => ((True) → Zt l g φ mu_M_tellLaw 45 [none, none, none, none] [] (z, e0, J, G)) | .inr o0 => ((True) → Zt l g φ mu_M_tellLaw 129 [some (vR g 296), some (vI x1), some (vI x2), none] [] (z, o0, J, G)))) e)) : Zt l g φ mu_M_tellLaw 12 [some (vR g 296), some (vI x1), some (vI x2), some (vI s.1)] [] (z, s.2, J, G) := by
  refine iter_ind (Z := fun s : Int × MI => Zt l g φ mu_M_tellLaw 12 [some (vR g 296), some (vI x1), some (vI x2), some (vI s.1)] [] (z, s.2, J, G)) (ZE := fun e : (MI) ⊕ (MI) => ((fun w : (MI) ⊕ (MI) => (match w with | .inl e0 => ((True) → Zt l g φ mu_M_tellLaw 45 [none, none, none, none] [] (z, e0, J, G)) | .inr o0 => ((True) → Zt l g φ mu_M_tellLaw 129 [some (vR g 296), some (vI x1), some (vI x2), none] [] (z, o0, J, G)))) e)) (Rg := fun s : Int × MI => inR s.1) ?_ n s e h hs k
  intro s r hr hst kE kS
  exact t_M_tellLaw_L12 hb hz hG hx1 hx2 hr hst kE kS
set_option maxHeartbeats 1000000 in
theorem s_M_tellLaw {l : Launch} {g : GX} {z : Nat} {G : Nat → Nat → Nat} {F : Nat} (hz : 353 ≤ z) (hG : lyM G) {x1 : Int} {I J : Nat → Nat → Int} (hx1 : inR x1) {res : MI} (h : f_M_tellLaw F x1 I J = some res) : Spec l g 5 yX11_tellLaw cX11_tellLaw 4 none [vR g 296, vI x1] (z, I, J, G) none True (z, res, J, G) := by
  refine spec_of (μ := mu_M_tellLaw) (k := 2) (L0 := [some (vR g 296), some (vI x1), none, none]) rfl mw_M_tellLaw rfl rfl (Nat.le_refl _) (fun φ hb hE => ?_)
  refine z_aload_n dX11_tellLaw_0 rfl ?_
  refine z_iconst dX11_tellLaw_1 ?_
  obtain ⟨q1, hq2, h⟩ := bindE h
  refine z_callV (As := [vI 5]) (rest := []) (s_M_must hz hG (inRd (x := 5) (by decide)) hq2) dX11_tellLaw_2 mw_M_must cl11 sh_296 (by decide) (Nat.le_trans (by decide) hz) ml_M_297 im_M_must se_M_must rfl rfl rfl rfl (Nat.le_refl _) (Nat.le_of_eq hb.symm) (fun hp3 => ?_)
  show Zt _ _ _ _ 5 _ [] (z, q1, J, G)
  refine z_aload_n dX11_tellLaw_5 rfl ?_
  refine z_nm (fun hN4 => ?_)
  refine y_getI dX11_tellLaw_6 cl11 sh_296 (by decide) (Nat.le_trans (by decide) hz) 38 rfl rfl (fl_M_278) ?_
  refine z_istore_n (L' := [some (vR g 296), some (vI x1), some (vI (q1 296 38)), none]) dX11_tellLaw_9 rfl rfl rfl ?_
  refine z_iconst dX11_tellLaw_10 ?_
  refine z_istore_n (L' := [some (vR g 296), some (vI x1), some (vI (q1 296 38)), some (vI 0)]) dX11_tellLaw_11 rfl rfl rfl ?_
  obtain ⟨e46, h47, h⟩ := bindE h
  rcases e46 with e48 | o49
  · refine l_M_tellLaw_L12 hb hz hG hx1 (hN4.1 296 38) _ _ _ h47 (inRd (x := 0) (by decide)) ?_
    refine fun h50 => ?_
    obtain rfl := someE h
    exact z_vret dX11_tellLaw_45 hE trivial rfl
  refine l_M_tellLaw_L12 hb hz hG hx1 (hN4.1 296 38) _ _ _ h47 (inRd (x := 0) (by decide)) ?_
  refine fun h51 => ?_
  refine z_aload_n dX11_tellLaw_129 rfl ?_
  refine y_getR dX11_tellLaw_130 cl11 sh_296 (by decide) (Nat.le_trans (by decide) hz) 39 rfl rfl (fl_M_91) (ly_296_39 hG) (by decide) ?_
  refine z_aload_n dX11_tellLaw_133 rfl ?_
  refine z_nm (fun hN52 => ?_)
  refine y_getI dX11_tellLaw_134 cl11 sh_296 (by decide) (Nat.le_trans (by decide) hz) 38 rfl rfl (fl_M_278) ?_
  refine z_iconst dX11_tellLaw_137 ?_
  obtain ⟨hg53, h⟩ := guardE h
  refine y_zast dX11_tellLaw_138 sh_321 (by decide) (Nat.le_trans (by decide) hz) (hN52.1 296 38) hg53 b01_0 ?_
  refine z_aload_n dX11_tellLaw_139 rfl ?_
  obtain ⟨q54, hq55, h⟩ := bindE h
  refine z_callV (As := []) (rest := []) (s_M_term hz hG  hq55) dX11_tellLaw_140 mw_M_term cl11 sh_296 (by decide) (Nat.le_trans (by decide) hz) ml_M_322 im_M_term se_M_term rfl rfl rfl rfl (Nat.le_refl _) (Nat.le_of_eq hb.symm) (fun hp56 => ?_)
  show Zt _ _ _ _ 143 _ [] (z, q54, J, G)
  refine z_aload_n dX11_tellLaw_143 rfl ?_
  refine z_iconst dX11_tellLaw_144 ?_
  obtain ⟨q57, hq58, h⟩ := bindE h
  refine z_callV (As := [vI 4]) (rest := []) (s_M_must hz hG (inRd (x := 4) (by decide)) hq58) dX11_tellLaw_145 mw_M_must cl11 sh_296 (by decide) (Nat.le_trans (by decide) hz) ml_M_297 im_M_must se_M_must rfl rfl rfl rfl (Nat.le_refl _) (Nat.le_of_eq hb.symm) (fun hp59 => ?_)
  show Zt _ _ _ _ 148 _ [] (z, q57, J, G)
  refine z_aload_n dX11_tellLaw_148 rfl ?_
  refine z_nm (fun hN60 => ?_)
  refine y_getI dX11_tellLaw_149 cl11 sh_296 (by decide) (Nat.le_trans (by decide) hz) 13 rfl rfl (fl_M_239) ?_
  refine z_if_le (tgt := 156) dX11_tellLaw_152 (by decide) (hN60.1 296 13) (fun hc61 => ?_) (fun hc61 => ?_)
  · replace h := ifT hc61 h
    refine z_aload_n dX11_tellLaw_156 rfl ?_
    refine y_getR dX11_tellLaw_157 cl11 sh_296 (by decide) (Nat.le_trans (by decide) hz) 36 rfl rfl (fl_M_85) (ly_296_36 hG) (by decide) ?_
    refine z_iconst dX11_tellLaw_160 ?_
    refine z_aload_n dX11_tellLaw_161 rfl ?_
    refine y_getI dX11_tellLaw_162 cl11 sh_296 (by decide) (Nat.le_trans (by decide) hz) 19 rfl rfl (fl_M_272) ?_
    refine z_imul dX11_tellLaw_165 ?_
    refine z_iload_n dX11_tellLaw_166 rfl ?_
    refine z_iadd dX11_tellLaw_167 ?_
    refine z_iload_n dX11_tellLaw_168 rfl ?_
    obtain ⟨hg62, h⟩ := guardE h
    refine y_iast dX11_tellLaw_169 sh_319 (by decide) (Nat.le_trans (by decide) hz) (inR_w32 _) hg62 (hN4.1 296 38) ?_
    refine z_aload_n dX11_tellLaw_170 rfl ?_
    refine y_getR dX11_tellLaw_171 cl11 sh_296 (by decide) (Nat.le_trans (by decide) hz) 37 rfl rfl (fl_M_88) (ly_296_37 hG) (by decide) ?_
    refine z_iconst dX11_tellLaw_174 ?_
    refine z_aload_n dX11_tellLaw_175 rfl ?_
    refine z_nm (fun hN63 => ?_)
    refine y_getI dX11_tellLaw_176 cl11 sh_296 (by decide) (Nat.le_trans (by decide) hz) 19 rfl rfl (fl_M_272) ?_
    refine z_imul dX11_tellLaw_179 ?_
    refine z_iload_n dX11_tellLaw_180 rfl ?_
    refine z_iadd dX11_tellLaw_181 ?_
    refine z_aload_n dX11_tellLaw_182 rfl ?_
    refine y_getI dX11_tellLaw_183 cl11 sh_296 (by decide) (Nat.le_trans (by decide) hz) 38 rfl rfl (fl_M_278) ?_
    obtain ⟨hg64, h⟩ := guardE h
    refine y_iast dX11_tellLaw_186 sh_320 (by decide) (Nat.le_trans (by decide) hz) (inR_w32 _) hg64 (hN63.1 296 38) ?_
    obtain rfl := someE h
    exact z_vret dX11_tellLaw_187 hE trivial rfl
  replace h := ifF hc61 h
  obtain rfl := someE h
  exact z_vret dX11_tellLaw_155 hE trivial rfl
set_option maxHeartbeats 1000000 in
theorem t_M_tellLeaver_L30 {l : Launch} {g : GX} {φ : CX} {z : Nat} {G : Nat → Nat → Nat} {F : Nat} (hb : cb φ = z) (hz : 353 ≤ z) (hG : lyM G) {x1 : Int} {x2 : Int} {x3 : Int} {I J : Nat → Nat → Int} (hx1 : inR x1) (hx2 : inR x2) (hx3 : inR x3) {res : (MI) ⊕ (Int × MI)} (h : f_M_tellLeaver_L30 F x1 x2 x3 I J = some res) (kE : ∀ e : MI, res = .inl e → ((True) → Zt l g φ mu_M_tellLeaver 73 [some (vR g 296), some (vI x1), some (vI x2), none] [] (z, e, J, G))) (kS : ∀ s : Int × MI, res = .inr s → (inR s.1) → Zt l g φ mu_M_tellLeaver 30 [some (vR g 296), some (vI x1), some (vI x2), some (vI s.1)] [] (z, s.2, J, G)) : Zt l g φ mu_M_tellLeaver 30 [some (vR g 296), some (vI x1), some (vI x2), some (vI x3)] [] (z, I, J, G) := by
  refine z_iload_n dX11_tellLeaver_30 rfl ?_
  refine z_aload_n dX11_tellLeaver_31 rfl ?_
  refine z_nm (fun hN6 => ?_)
  refine y_getI dX11_tellLeaver_32 cl11 sh_296 (by decide) (Nat.le_trans (by decide) hz) 20 rfl rfl (fl_M_275) ?_
  refine z_icmp_ge (tgt := 73) dX11_tellLeaver_35 (by decide) hx3 (hN6.1 296 20) (fun hc7 => ?_) (fun hc7 => ?_)
  · replace h := ifT hc7 h
    refine z_weak (L' := [some (vR g 296), some (vI x1), some (vI x2), none]) (lsS (lsS (lsS (lsN ls0)))) ?_
    exact kE _ (someE h).symm trivial
  replace h := ifF hc7 h
  refine z_aload_n dX11_tellLeaver_38 rfl ?_
  refine y_getI dX11_tellLeaver_39 cl11 sh_296 (by decide) (Nat.le_trans (by decide) hz) 13 rfl rfl (fl_M_239) ?_
  refine z_if_ne (tgt := 73) dX11_tellLeaver_42 (by decide) (hN6.1 296 13) (fun hc8 => ?_) (fun hc8 => ?_)
  · replace h := ifT hc8 h
    refine z_weak (L' := [some (vR g 296), some (vI x1), some (vI x2), none]) (lsS (lsS (lsS (lsN ls0)))) ?_
    exact kE _ (someE h).symm trivial
  replace h := ifF (fun q => q hc8) h
  refine z_aload_n dX11_tellLeaver_45 rfl ?_
  refine y_getR dX11_tellLeaver_46 cl11 sh_296 (by decide) (Nat.le_trans (by decide) hz) 21 rfl rfl (fl_M_40) (ly_296_21 hG) (by decide) ?_
  refine z_iload_n dX11_tellLeaver_49 rfl ?_
  obtain ⟨hg9, h⟩ := guardE h
  refine y_lald dX11_tellLeaver_50 sh_304 (by decide) (Nat.le_trans (by decide) hz) hx3 hg9 ?_
  refine z_aload_n dX11_tellLeaver_51 rfl ?_
  refine y_getR dX11_tellLeaver_52 cl11 sh_296 (by decide) (Nat.le_trans (by decide) hz) 8 rfl rfl (fl_M_30) (ly_296_8 hG) (by decide) ?_
  refine z_iload_n dX11_tellLeaver_55 rfl ?_
  obtain ⟨hg10, h⟩ := guardE h
  refine y_lald dX11_tellLeaver_56 sh_302 (by decide) (Nat.le_trans (by decide) hz) hx2 hg10 ?_
  refine z_lcmp dX11_tellLeaver_57 ?_
  refine z_if_ne (tgt := 67) dX11_tellLeaver_58 (by decide) inR_cmp (fun hc11 => ?_) (fun hc11 => ?_)
  · replace h := ifT hc11 h
    refine z_iinc (L' := [some (vR g 296), some (vI x1), some (vI x2), some (vI (w32 (x3 + 1)))]) dX11_tellLeaver_67 rfl rfl rfl rfl ?_
    refine z_goto (tgt := 30) dX11_tellLeaver_70 (by decide) ?_
    exact kS _ (someE h).symm (inR_w32 _)
  replace h := ifF (fun q => q hc11) h
  refine z_aload_n dX11_tellLeaver_61 rfl ?_
  refine z_iconst dX11_tellLeaver_62 ?_
  refine z_iload_n dX11_tellLeaver_63 rfl ?_
  obtain ⟨q12, hq13, h⟩ := bindE h
  refine z_callV (As := [vI 3, vI x2]) (rest := []) (s_M_wrong hz hG (inRd (x := 3) (by decide)) hx2 hq13) dX11_tellLeaver_64 mw_M_wrong cl11 sh_296 (by decide) (Nat.le_trans (by decide) hz) ml_M_316 im_M_wrong se_M_wrong rfl rfl rfl rfl (Nat.le_refl _) (Nat.le_of_eq hb.symm) (fun hp14 => ?_)
  show Zt _ _ _ _ 67 _ [] (z, q12, J, G)
  refine z_iinc (L' := [some (vR g 296), some (vI x1), some (vI x2), some (vI (w32 (x3 + 1)))]) dX11_tellLeaver_67 rfl rfl rfl rfl ?_
  refine z_goto (tgt := 30) dX11_tellLeaver_70 (by decide) ?_
  exact kS _ (someE h).symm (inR_w32 _)
theorem l_M_tellLeaver_L30 {l : Launch} {g : GX} {φ : CX} {z : Nat} {G : Nat → Nat → Nat} {F : Nat} (hb : cb φ = z) (hz : 353 ≤ z) (hG : lyM G) {x1 : Int} {x2 : Int} {J : Nat → Nat → Int} (hx1 : inR x1) (hx2 : inR x2) (n : Nat) (s : Int × MI) (e : MI) (h : iter (fun s : Int × MI => f_M_tellLeaver_L30 F x1 x2 s.1 s.2 J) n s = some e) (hs : inR s.1) (k : ((True) → Zt l g φ mu_M_tellLeaver 73 [some (vR g 296), some (vI x1), some (vI x2), none] [] (z, e, J, G))) : Zt l g φ mu_M_tellLeaver 30 [some (vR g 296), some (vI x1), some (vI x2), some (vI s.1)] [] (z, s.2, J, G) := by
  refine iter_ind (Z := fun s : Int × MI => Zt l g φ mu_M_tellLeaver 30 [some (vR g 296), some (vI x1), some (vI x2), some (vI s.1)] [] (z, s.2, J, G)) (ZE := fun e : MI => ((True) → Zt l g φ mu_M_tellLeaver 73 [some (vR g 296), some (vI x1), some (vI x2), none] [] (z, e, J, G))) (Rg := fun s : Int × MI => inR s.1) ?_ n s e h hs k
  intro s r hr hst kE kS
  exact t_M_tellLeaver_L30 hb hz hG hx1 hx2 hr hst kE kS
set_option maxHeartbeats 1000000 in
theorem s_M_tellLeaver {l : Launch} {g : GX} {z : Nat} {G : Nat → Nat → Nat} {F : Nat} (hz : 353 ≤ z) (hG : lyM G) {I J : Nat → Nat → Int} {res : MI × MI} (h : f_M_tellLeaver F I J = some res) : Spec l g 3 yX11_tellLeaver cX11_tellLeaver 4 none [vR g 296] (z, I, J, G) none True (z, res.1, res.2, G) := by
  refine spec_of (μ := mu_M_tellLeaver) (k := 3) (L0 := [some (vR g 296), none, none, none]) rfl mw_M_tellLeaver rfl rfl (Nat.le_refl _) (fun φ hb hE => ?_)
  refine z_bipush dX11_tellLeaver_0 (by decide +kernel) ?_
  refine z_aload_n dX11_tellLeaver_2 rfl ?_
  refine z_nm (fun hN1 => ?_)
  refine y_getI dX11_tellLeaver_3 cl11 sh_296 (by decide) (Nat.le_trans (by decide) hz) 19 rfl rfl (fl_M_272) ?_
  refine z_imul dX11_tellLeaver_6 ?_
  refine z_aload_n dX11_tellLeaver_7 rfl ?_
  refine y_getR dX11_tellLeaver_8 cl11 sh_296 (by decide) (Nat.le_trans (by decide) hz) 28 rfl rfl (fl_M_61) (ly_296_28 hG) (by decide) ?_
  refine z_aload_n dX11_tellLeaver_11 rfl ?_
  refine y_getI dX11_tellLeaver_12 cl11 sh_296 (by decide) (Nat.le_trans (by decide) hz) 19 rfl rfl (fl_M_272) ?_
  obtain ⟨hg2, h⟩ := guardE h
  refine y_iald dX11_tellLeaver_15 sh_311 (by decide) (Nat.le_trans (by decide) hz) (hN1.1 296 19) hg2 ?_
  refine z_iadd dX11_tellLeaver_16 ?_
  refine z_istore_n (L' := [some (vR g 296), some (vI (w32 ((w32 (8 * (I 296 19))) + (I 311 ((I 296 19)).toNat)))), none, none]) dX11_tellLeaver_17 rfl rfl rfl ?_
  refine z_aload_n dX11_tellLeaver_18 rfl ?_
  refine y_getI dX11_tellLeaver_19 cl11 sh_296 (by decide) (Nat.le_trans (by decide) hz) 11 rfl rfl (fl_M_242) ?_
  refine z_istore_n (L' := [some (vR g 296), some (vI (w32 ((w32 (8 * (I 296 19))) + (I 311 ((I 296 19)).toNat)))), some (vI (I 296 11)), none]) dX11_tellLeaver_22 rfl rfl rfl ?_
  refine z_aload_n dX11_tellLeaver_23 rfl ?_
  refine z_iconst dX11_tellLeaver_24 ?_
  obtain ⟨q3, hq4, h⟩ := bindE h
  refine z_callV (As := [vI 1]) (rest := []) (s_M_must hz hG (inRd (x := 1) (by decide)) hq4) dX11_tellLeaver_25 mw_M_must cl11 sh_296 (by decide) (Nat.le_trans (by decide) hz) ml_M_297 im_M_must se_M_must rfl rfl rfl rfl (Nat.le_refl _) (Nat.le_of_eq hb.symm) (fun hp5 => ?_)
  show Zt _ _ _ _ 28 _ [] (z, q3, J, G)
  refine z_iconst dX11_tellLeaver_28 ?_
  refine z_istore_n (L' := [some (vR g 296), some (vI (w32 ((w32 (8 * (I 296 19))) + (I 311 ((I 296 19)).toNat)))), some (vI (I 296 11)), some (vI 0)]) dX11_tellLeaver_29 rfl rfl rfl ?_
  obtain ⟨e15, h16, h⟩ := bindE h
  refine l_M_tellLeaver_L30 hb hz hG (inR_w32 _) (hN1.1 296 11) _ _ _ h16 (inRd (x := 0) (by decide)) ?_
  refine fun h17 => ?_
  refine z_aload_n dX11_tellLeaver_73 rfl ?_
  refine y_getR dX11_tellLeaver_74 cl11 sh_296 (by decide) (Nat.le_trans (by decide) hz) 29 rfl rfl (fl_M_64) (ly_296_29 hG) (by decide) ?_
  refine z_iload_n dX11_tellLeaver_77 rfl ?_
  refine z_aload_n dX11_tellLeaver_78 rfl ?_
  refine z_iconst dX11_tellLeaver_79 ?_
  refine z_bipush dX11_tellLeaver_80 (by decide +kernel) ?_
  obtain ⟨q18, hq19, h⟩ := bindE h
  refine z_callV (As := [vI 0, vI 99]) (rest := [vI (w32 ((w32 (8 * (I 296 19))) + (I 311 ((I 296 19)).toNat))), vR g 312]) (s_M_bounded hz hG (inRd (x := 0) (by decide)) (inRd (x := 99) (by decide)) hq19) dX11_tellLeaver_82 mw_M_bounded cl11 sh_296 (by decide) (Nat.le_trans (by decide) hz) ml_M_293 im_M_bounded se_M_bounded rfl rfl rfl rfl (Nat.le_refl _) (Nat.le_of_eq hb.symm) (fun hp20 => ?_)
  show Zt _ _ _ _ 85 _ [vI q18.1, vI (w32 ((w32 (8 * (I 296 19))) + (I 311 ((I 296 19)).toNat))), vR g 312] (z, q18.2, J, G)
  obtain ⟨hg21, h⟩ := guardE h
  refine y_iast dX11_tellLeaver_85 sh_312 (by decide) (Nat.le_trans (by decide) hz) (inR_w32 _) hg21 hp20 ?_
  refine z_aload_n dX11_tellLeaver_86 rfl ?_
  refine y_getR dX11_tellLeaver_87 cl11 sh_296 (by decide) (Nat.le_trans (by decide) hz) 30 rfl rfl (fl_M_67) (ly_296_30 hG) (by decide) ?_
  refine z_iload_n dX11_tellLeaver_90 rfl ?_
  refine z_aload_n dX11_tellLeaver_91 rfl ?_
  refine z_iconst dX11_tellLeaver_92 ?_
  refine z_bipush dX11_tellLeaver_93 (by decide +kernel) ?_
  obtain ⟨q22, hq23, h⟩ := bindE h
  refine z_callV (As := [vI 1, vI 9]) (rest := [vI (w32 ((w32 (8 * (I 296 19))) + (I 311 ((I 296 19)).toNat))), vR g 313]) (s_M_bounded hz hG (inRd (x := 1) (by decide)) (inRd (x := 9) (by decide)) hq23) dX11_tellLeaver_95 mw_M_bounded cl11 sh_296 (by decide) (Nat.le_trans (by decide) hz) ml_M_293 im_M_bounded se_M_bounded rfl rfl rfl rfl (Nat.le_refl _) (Nat.le_of_eq hb.symm) (fun hp24 => ?_)
  show Zt _ _ _ _ 98 _ [vI q22.1, vI (w32 ((w32 (8 * (I 296 19))) + (I 311 ((I 296 19)).toNat))), vR g 313] (z, q22.2, J, G)
  refine y_iast dX11_tellLeaver_98 sh_313 (by decide) (Nat.le_trans (by decide) hz) (inR_w32 _) hg21 hp24 ?_
  refine z_aload_n dX11_tellLeaver_99 rfl ?_
  refine y_getR dX11_tellLeaver_100 cl11 sh_296 (by decide) (Nat.le_trans (by decide) hz) 31 rfl rfl (fl_M_70) (ly_296_31 hG) (by decide) ?_
  refine z_iload_n dX11_tellLeaver_103 rfl ?_
  refine z_aload_n dX11_tellLeaver_104 rfl ?_
  refine z_iconst dX11_tellLeaver_105 ?_
  refine z_bipush dX11_tellLeaver_106 (by decide +kernel) ?_
  obtain ⟨q25, hq26, h⟩ := bindE h
  refine z_callV (As := [vI 1, vI 9]) (rest := [vI (w32 ((w32 (8 * (I 296 19))) + (I 311 ((I 296 19)).toNat))), vR g 314]) (s_M_bounded hz hG (inRd (x := 1) (by decide)) (inRd (x := 9) (by decide)) hq26) dX11_tellLeaver_108 mw_M_bounded cl11 sh_296 (by decide) (Nat.le_trans (by decide) hz) ml_M_293 im_M_bounded se_M_bounded rfl rfl rfl rfl (Nat.le_refl _) (Nat.le_of_eq hb.symm) (fun hp27 => ?_)
  show Zt _ _ _ _ 111 _ [vI q25.1, vI (w32 ((w32 (8 * (I 296 19))) + (I 311 ((I 296 19)).toNat))), vR g 314] (z, q25.2, J, G)
  refine y_iast dX11_tellLeaver_111 sh_314 (by decide) (Nat.le_trans (by decide) hz) (inR_w32 _) hg21 hp27 ?_
  refine z_aload_n dX11_tellLeaver_112 rfl ?_
  refine y_getR dX11_tellLeaver_113 cl11 sh_296 (by decide) (Nat.le_trans (by decide) hz) 32 rfl rfl (fl_M_73) (ly_296_32 hG) (by decide) ?_
  refine z_iload_n dX11_tellLeaver_116 rfl ?_
  refine z_aload_n dX11_tellLeaver_117 rfl ?_
  refine z_iconst dX11_tellLeaver_118 ?_
  refine z_bipush dX11_tellLeaver_119 (by decide +kernel) ?_
  obtain ⟨q28, hq29, h⟩ := bindE h
  refine z_callV (As := [vI 0, vI 99]) (rest := [vI (w32 ((w32 (8 * (I 296 19))) + (I 311 ((I 296 19)).toNat))), vR g 315]) (s_M_bounded hz hG (inRd (x := 0) (by decide)) (inRd (x := 99) (by decide)) hq29) dX11_tellLeaver_121 mw_M_bounded cl11 sh_296 (by decide) (Nat.le_trans (by decide) hz) ml_M_293 im_M_bounded se_M_bounded rfl rfl rfl rfl (Nat.le_refl _) (Nat.le_of_eq hb.symm) (fun hp30 => ?_)
  show Zt _ _ _ _ 124 _ [vI q28.1, vI (w32 ((w32 (8 * (I 296 19))) + (I 311 ((I 296 19)).toNat))), vR g 315] (z, q28.2, J, G)
  refine y_iast dX11_tellLeaver_124 sh_315 (by decide) (Nat.le_trans (by decide) hz) (inR_w32 _) hg21 hp30 ?_
  refine z_aload_n dX11_tellLeaver_125 rfl ?_
  refine z_iconst dX11_tellLeaver_126 ?_
  obtain ⟨q31, hq32, h⟩ := bindE h
  refine z_callV (As := [vI 4]) (rest := []) (s_M_must hz hG (inRd (x := 4) (by decide)) hq32) dX11_tellLeaver_127 mw_M_must cl11 sh_296 (by decide) (Nat.le_trans (by decide) hz) ml_M_297 im_M_must se_M_must rfl rfl rfl rfl (Nat.le_refl _) (Nat.le_of_eq hb.symm) (fun hp33 => ?_)
  show Zt _ _ _ _ 130 _ [] (z, q31, J, G)
  refine z_aload_n dX11_tellLeaver_130 rfl ?_
  refine z_nm (fun hN34 => ?_)
  refine y_getI dX11_tellLeaver_131 cl11 sh_296 (by decide) (Nat.le_trans (by decide) hz) 13 rfl rfl (fl_M_239) ?_
  refine z_if_le (tgt := 138) dX11_tellLeaver_134 (by decide) (hN34.1 296 13) (fun hc35 => ?_) (fun hc35 => ?_)
  · replace h := ifT hc35 h
    refine z_aload_n dX11_tellLeaver_138 rfl ?_
    refine y_getR dX11_tellLeaver_139 cl11 sh_296 (by decide) (Nat.le_trans (by decide) hz) 21 rfl rfl (fl_M_40) (ly_296_21 hG) (by decide) ?_
    refine z_aload_n dX11_tellLeaver_142 rfl ?_
    refine y_getI dX11_tellLeaver_143 cl11 sh_296 (by decide) (Nat.le_trans (by decide) hz) 20 rfl rfl (fl_M_275) ?_
    refine z_aload_n dX11_tellLeaver_146 rfl ?_
    refine y_getR dX11_tellLeaver_147 cl11 sh_296 (by decide) (Nat.le_trans (by decide) hz) 8 rfl rfl (fl_M_30) (ly_296_8 hG) (by decide) ?_
    refine z_iload_n dX11_tellLeaver_150 rfl ?_
    obtain ⟨hg36, h⟩ := guardE h
    refine y_lald dX11_tellLeaver_151 sh_302 (by decide) (Nat.le_trans (by decide) hz) (hN1.1 296 11) hg36 ?_
    obtain ⟨hg37, h⟩ := guardE h
    refine y_last dX11_tellLeaver_152 sh_304 (by decide) (Nat.le_trans (by decide) hz) (hN34.1 296 20) hg37 (hN34.2 302 ((I 296 11)).toNat) ?_
    refine z_aload_n dX11_tellLeaver_153 rfl ?_
    refine z_dup dX11_tellLeaver_154 rfl ?_
    refine z_nm (fun hN38 => ?_)
    refine y_getI dX11_tellLeaver_155 cl11 sh_296 (by decide) (Nat.le_trans (by decide) hz) 20 rfl rfl (fl_M_275) ?_
    refine z_iconst dX11_tellLeaver_158 ?_
    refine z_iadd dX11_tellLeaver_159 ?_
    refine y_putI dX11_tellLeaver_160 cl11 sh_296 (by decide) (Nat.le_trans (by decide) hz) 20 rfl rfl rfl (fl_M_275) rfl rfl (inR_w32 _) ?_
    refine z_aload_n dX11_tellLeaver_163 rfl ?_
    refine y_getR dX11_tellLeaver_164 cl11 sh_296 (by decide) (Nat.le_trans (by decide) hz) 28 rfl rfl (fl_M_61) (ly_296_28 hG) (by decide) ?_
    refine z_aload_n dX11_tellLeaver_167 rfl ?_
    refine z_nm (fun hN39 => ?_)
    refine y_getI dX11_tellLeaver_168 cl11 sh_296 (by decide) (Nat.le_trans (by decide) hz) 19 rfl rfl (fl_M_272) ?_
    refine z_dup2 dX11_tellLeaver_171 rfl rfl ?_
    obtain ⟨hg40, h⟩ := guardE h
    refine y_iald dX11_tellLeaver_172 sh_311 (by decide) (Nat.le_trans (by decide) hz) (hN39.1 296 19) hg40 ?_
    refine z_iconst dX11_tellLeaver_173 ?_
    refine z_iadd dX11_tellLeaver_174 ?_
    refine y_iast dX11_tellLeaver_175 sh_311 (by decide) (Nat.le_trans (by decide) hz) (hN39.1 296 19) hg40 (inR_w32 _) ?_
    obtain rfl := someE h
    exact z_vret dX11_tellLeaver_176 hE trivial rfl
  replace h := ifF hc35 h
  obtain rfl := someE h
  exact z_vret dX11_tellLeaver_137 hE trivial rfl
set_option maxHeartbeats 1000000 in
theorem s_M_tell {l : Launch} {g : GX} {z : Nat} {G : Nat → Nat → Nat} {F : Nat} (hz : 353 ≤ z) (hG : lyM G) {I J : Nat → Nat → Int} {res : MI × MI} (h : f_M_tell F I J = some res) : Spec l g 6 yX11_tell cX11_tell 3 none [vR g 296] (z, I, J, G) none True (z, res.1, res.2, G) := by
  refine spec_of (μ := mu_M_tell) (k := 2) (L0 := [some (vR g 296), none, none]) rfl mw_M_tell rfl rfl (Nat.le_refl _) (fun φ hb hE => ?_)
  refine z_aload_n dX11_tell_0 rfl ?_
  refine y_getR dX11_tell_1 cl11 sh_296 (by decide) (Nat.le_trans (by decide) hz) 5 rfl rfl (fl_M_20) (ly_296_5 hG) (by decide) ?_
  refine z_aload_n dX11_tell_4 rfl ?_
  refine z_nm (fun hN1 => ?_)
  refine y_getI dX11_tell_5 cl11 sh_296 (by decide) (Nat.le_trans (by decide) hz) 11 rfl rfl (fl_M_242) ?_
  obtain ⟨hg2, h⟩ := guardE h
  refine y_iald dX11_tell_8 sh_299 (by decide) (Nat.le_trans (by decide) hz) (hN1.1 296 11) hg2 ?_
  by_cases hc3 : (I 299 ((I 296 11)).toNat) = 20
  · replace h := ifT hc3 h
    refine z_tabIn (tgt := 56) dX11_tell_9 20 hc3 (hN1.1 299 ((I 296 11)).toNat) (by decide) rfl (by decide) ?_
    refine z_aload_n dX11_tell_56 rfl ?_
    obtain ⟨q4, hq5, h⟩ := bindE h
    refine z_callV (As := []) (rest := []) (s_M_goesOn hz hG  hq5) dX11_tell_57 mw_M_goesOn cl11 sh_296 (by decide) (Nat.le_trans (by decide) hz) ml_M_260 im_M_goesOn se_M_goesOn rfl rfl rfl rfl (Nat.le_refl _) (Nat.le_of_eq hb.symm) (fun hp6 => ?_)
    show Zt _ _ _ _ 60 _ [] (z, q4, J, G)
    refine z_aload_n dX11_tell_60 rfl ?_
    refine y_getR dX11_tell_61 cl11 sh_296 (by decide) (Nat.le_trans (by decide) hz) 22 rfl rfl (fl_M_43) (ly_296_22 hG) (by decide) ?_
    refine z_aload_n dX11_tell_64 rfl ?_
    refine z_nm (fun hN7 => ?_)
    refine y_getI dX11_tell_65 cl11 sh_296 (by decide) (Nat.le_trans (by decide) hz) 19 rfl rfl (fl_M_272) ?_
    refine z_aload_n dX11_tell_68 rfl ?_
    refine z_iconst dX11_tell_69 ?_
    refine z_bipush dX11_tell_70 (by decide +kernel) ?_
    obtain ⟨q8, hq9, h⟩ := bindE h
    refine z_callV (As := [vI 1, vI 12]) (rest := [vI (q4 296 19), vR g 305]) (s_M_bounded hz hG (inRd (x := 1) (by decide)) (inRd (x := 12) (by decide)) hq9) dX11_tell_72 mw_M_bounded cl11 sh_296 (by decide) (Nat.le_trans (by decide) hz) ml_M_293 im_M_bounded se_M_bounded rfl rfl rfl rfl (Nat.le_refl _) (Nat.le_of_eq hb.symm) (fun hp10 => ?_)
    show Zt _ _ _ _ 75 _ [vI q8.1, vI (q4 296 19), vR g 305] (z, q8.2, J, G)
    obtain ⟨hg11, h⟩ := guardE h
    refine y_iast dX11_tell_75 sh_305 (by decide) (Nat.le_trans (by decide) hz) (hN7.1 296 19) hg11 hp10 ?_
    refine z_aload_n dX11_tell_76 rfl ?_
    refine y_getR dX11_tell_77 cl11 sh_296 (by decide) (Nat.le_trans (by decide) hz) 23 rfl rfl (fl_M_46) (ly_296_23 hG) (by decide) ?_
    refine z_aload_n dX11_tell_80 rfl ?_
    refine z_nm (fun hN12 => ?_)
    refine y_getI dX11_tell_81 cl11 sh_296 (by decide) (Nat.le_trans (by decide) hz) 19 rfl rfl (fl_M_272) ?_
    refine z_aload_n dX11_tell_84 rfl ?_
    refine z_iconst dX11_tell_85 ?_
    refine z_bipush dX11_tell_86 (by decide +kernel) ?_
    obtain ⟨q13, hq14, h⟩ := bindE h
    refine z_callV (As := [vI 1, vI 8]) (rest := [vI ((up2 q8.2 305 ((q4 296 19)).toNat q8.1) 296 19), vR g 306]) (s_M_bounded hz hG (inRd (x := 1) (by decide)) (inRd (x := 8) (by decide)) hq14) dX11_tell_88 mw_M_bounded cl11 sh_296 (by decide) (Nat.le_trans (by decide) hz) ml_M_293 im_M_bounded se_M_bounded rfl rfl rfl rfl (Nat.le_refl _) (Nat.le_of_eq hb.symm) (fun hp15 => ?_)
    show Zt _ _ _ _ 91 _ [vI q13.1, vI ((up2 q8.2 305 ((q4 296 19)).toNat q8.1) 296 19), vR g 306] (z, q13.2, J, G)
    obtain ⟨hg16, h⟩ := guardE h
    refine y_iast dX11_tell_91 sh_306 (by decide) (Nat.le_trans (by decide) hz) (hN12.1 296 19) hg16 hp15 ?_
    refine z_aload_n dX11_tell_92 rfl ?_
    refine z_iconst dX11_tell_93 ?_
    obtain ⟨q17, hq18, h⟩ := bindE h
    refine z_callV (As := [vI 4]) (rest := []) (s_M_must hz hG (inRd (x := 4) (by decide)) hq18) dX11_tell_94 mw_M_must cl11 sh_296 (by decide) (Nat.le_trans (by decide) hz) ml_M_297 im_M_must se_M_must rfl rfl rfl rfl (Nat.le_refl _) (Nat.le_of_eq hb.symm) (fun hp19 => ?_)
    show Zt _ _ _ _ 97 _ [] (z, q17, J, G)
    refine z_goto (tgt := 300) dX11_tell_97 (by decide) ?_
    obtain rfl := someE h
    exact z_vret dX11_tell_300 hE trivial rfl
  replace h := ifF hc3 h
  by_cases hc20 : (I 299 ((I 296 11)).toNat) = 21
  · replace h := ifT hc20 h
    refine z_tabIn (tgt := 100) dX11_tell_9 21 hc20 (hN1.1 299 ((I 296 11)).toNat) (by decide) rfl (by decide) ?_
    refine z_aload_n dX11_tell_100 rfl ?_
    refine z_aload_n dX11_tell_101 rfl ?_
    refine y_getR dX11_tell_102 cl11 sh_296 (by decide) (Nat.le_trans (by decide) hz) 24 rfl rfl (fl_M_49) (ly_296_24 hG) (by decide) ?_
    refine z_aload_n dX11_tell_105 rfl ?_
    refine y_getI dX11_tell_106 cl11 sh_296 (by decide) (Nat.le_trans (by decide) hz) 19 rfl rfl (fl_M_272) ?_
    obtain ⟨hg21, h⟩ := guardE h
    refine y_iald dX11_tell_109 sh_307 (by decide) (Nat.le_trans (by decide) hz) (hN1.1 296 19) hg21 ?_
    refine z_bipush dX11_tell_110 (by decide +kernel) ?_
    obtain ⟨q22, hq23, h⟩ := bindE h
    refine z_callV (As := [vI (I 307 ((I 296 19)).toNat), vI 20]) (rest := []) (s_M_roomFor hz hG (hN1.1 307 ((I 296 19)).toNat) (inRd (x := 20) (by decide)) hq23) dX11_tell_112 mw_M_roomFor cl11 sh_296 (by decide) (Nat.le_trans (by decide) hz) ml_M_300 im_M_roomFor se_M_roomFor rfl rfl rfl rfl (Nat.le_refl _) (Nat.le_of_eq hb.symm) (fun hp24 => ?_)
    show Zt _ _ _ _ 115 _ [] (z, q22, J, G)
    refine z_aload_n dX11_tell_115 rfl ?_
    refine z_nm (fun hN25 => ?_)
    refine y_getI dX11_tell_116 cl11 sh_296 (by decide) (Nat.le_trans (by decide) hz) 13 rfl rfl (fl_M_239) ?_
    refine z_if_ne (tgt := 300) dX11_tell_119 (by decide) (hN25.1 296 13) (fun hc26 => ?_) (fun hc26 => ?_)
    · replace h := ifT hc26 h
      obtain rfl := someE h
      exact z_vret dX11_tell_300 hE trivial rfl
    replace h := ifF (fun q => q hc26) h
    refine z_aload_n dX11_tell_122 rfl ?_
    obtain ⟨q27, hq28, h⟩ := bindE h
    refine z_callV (As := []) (rest := []) (s_M_tellDepth hz hG  hq28) dX11_tell_123 mw_M_tellDepth cl11 sh_296 (by decide) (Nat.le_trans (by decide) hz) ml_M_304 im_M_tellDepth se_M_tellDepth rfl rfl rfl rfl (Nat.le_refl _) (Nat.le_of_eq hb.symm) (fun hp29 => ?_)
    show Zt _ _ _ _ 126 _ [] (z, q27, J, G)
    refine z_goto (tgt := 300) dX11_tell_126 (by decide) ?_
    obtain rfl := someE h
    exact z_vret dX11_tell_300 hE trivial rfl
  replace h := ifF hc20 h
  by_cases hc30 : (I 299 ((I 296 11)).toNat) = 22
  · replace h := ifT hc30 h
    refine z_tabIn (tgt := 129) dX11_tell_9 22 hc30 (hN1.1 299 ((I 296 11)).toNat) (by decide) rfl (by decide) ?_
    refine z_aload_n dX11_tell_129 rfl ?_
    obtain ⟨q31, hq32, h⟩ := bindE h
    refine z_callV (As := []) (rest := []) (s_M_goesOn hz hG  hq32) dX11_tell_130 mw_M_goesOn cl11 sh_296 (by decide) (Nat.le_trans (by decide) hz) ml_M_260 im_M_goesOn se_M_goesOn rfl rfl rfl rfl (Nat.le_refl _) (Nat.le_of_eq hb.symm) (fun hp33 => ?_)
    show Zt _ _ _ _ 133 _ [] (z, q31, J, G)
    refine z_aload_n dX11_tell_133 rfl ?_
    refine z_iconst dX11_tell_134 ?_
    refine z_bipush dX11_tell_135 (by decide +kernel) ?_
    obtain ⟨q34, hq35, h⟩ := bindE h
    refine z_callV (As := [vI 0, vI 7]) (rest := []) (s_M_bounded hz hG (inRd (x := 0) (by decide)) (inRd (x := 7) (by decide)) hq35) dX11_tell_137 mw_M_bounded cl11 sh_296 (by decide) (Nat.le_trans (by decide) hz) ml_M_293 im_M_bounded se_M_bounded rfl rfl rfl rfl (Nat.le_refl _) (Nat.le_of_eq hb.symm) (fun hp36 => ?_)
    show Zt _ _ _ _ 140 _ [vI q34.1] (z, q34.2, J, G)
    refine z_istore_n (L' := [some (vR g 296), some (vI q34.1), none]) dX11_tell_140 rfl rfl rfl ?_
    refine z_aload_n dX11_tell_141 rfl ?_
    refine z_iconst dX11_tell_142 ?_
    refine z_bipush dX11_tell_143 (by decide +kernel) ?_
    obtain ⟨q37, hq38, h⟩ := bindE h
    refine z_callV (As := [vI 0, vI 9]) (rest := []) (s_M_bounded hz hG (inRd (x := 0) (by decide)) (inRd (x := 9) (by decide)) hq38) dX11_tell_145 mw_M_bounded cl11 sh_296 (by decide) (Nat.le_trans (by decide) hz) ml_M_293 im_M_bounded se_M_bounded rfl rfl rfl rfl (Nat.le_refl _) (Nat.le_of_eq hb.symm) (fun hp39 => ?_)
    show Zt _ _ _ _ 148 _ [vI q37.1] (z, q37.2, J, G)
    refine z_istore_n (L' := [some (vR g 296), some (vI q34.1), some (vI q37.1)]) dX11_tell_148 rfl rfl rfl ?_
    refine z_aload_n dX11_tell_149 rfl ?_
    refine z_iconst dX11_tell_150 ?_
    obtain ⟨q40, hq41, h⟩ := bindE h
    refine z_callV (As := [vI 4]) (rest := []) (s_M_must hz hG (inRd (x := 4) (by decide)) hq41) dX11_tell_151 mw_M_must cl11 sh_296 (by decide) (Nat.le_trans (by decide) hz) ml_M_297 im_M_must se_M_must rfl rfl rfl rfl (Nat.le_refl _) (Nat.le_of_eq hb.symm) (fun hp42 => ?_)
    show Zt _ _ _ _ 154 _ [] (z, q40, J, G)
    refine z_aload_n dX11_tell_154 rfl ?_
    refine z_nm (fun hN43 => ?_)
    refine y_getI dX11_tell_155 cl11 sh_296 (by decide) (Nat.le_trans (by decide) hz) 13 rfl rfl (fl_M_239) ?_
    refine z_if_ne (tgt := 300) dX11_tell_158 (by decide) (hN43.1 296 13) (fun hc44 => ?_) (fun hc44 => ?_)
    · replace h := ifT hc44 h
      obtain rfl := someE h
      exact z_vret dX11_tell_300 hE trivial rfl
    replace h := ifF (fun q => q hc44) h
    refine z_iload_n dX11_tell_161 rfl ?_
    refine z_bipush dX11_tell_162 (by decide +kernel) ?_
    refine z_icmp_ge (tgt := 300) dX11_tell_164 (by decide) hp36 (inRd (x := 8) (by decide)) (fun hc45 => ?_) (fun hc45 => ?_)
    · replace h := ifT hc45 h
      obtain rfl := someE h
      exact z_vret dX11_tell_300 hE trivial rfl
    replace h := ifF hc45 h
    refine z_aload_n dX11_tell_167 rfl ?_
    refine y_getR dX11_tell_168 cl11 sh_296 (by decide) (Nat.le_trans (by decide) hz) 26 rfl rfl (fl_M_55) (ly_296_26 hG) (by decide) ?_
    refine z_bipush dX11_tell_171 (by decide +kernel) ?_
    refine z_aload_n dX11_tell_173 rfl ?_
    refine y_getI dX11_tell_174 cl11 sh_296 (by decide) (Nat.le_trans (by decide) hz) 19 rfl rfl (fl_M_272) ?_
    refine z_imul dX11_tell_177 ?_
    refine z_iload_n dX11_tell_178 rfl ?_
    refine z_iadd dX11_tell_179 ?_
    refine z_iload_n dX11_tell_180 rfl ?_
    obtain ⟨hg46, h⟩ := guardE h
    refine y_iast dX11_tell_181 sh_309 (by decide) (Nat.le_trans (by decide) hz) (inR_w32 _) hg46 hp39 ?_
    refine z_goto (tgt := 300) dX11_tell_182 (by decide) ?_
    obtain rfl := someE h
    exact z_vret dX11_tell_300 hE trivial rfl
  replace h := ifF hc30 h
  by_cases hc47 : (I 299 ((I 296 11)).toNat) = 23
  · replace h := ifT hc47 h
    refine z_tabIn (tgt := 185) dX11_tell_9 23 hc47 (hN1.1 299 ((I 296 11)).toNat) (by decide) rfl (by decide) ?_
    refine z_aload_n dX11_tell_185 rfl ?_
    obtain ⟨q48, hq49, h⟩ := bindE h
    refine z_callV (As := []) (rest := []) (s_M_goesOn hz hG  hq49) dX11_tell_186 mw_M_goesOn cl11 sh_296 (by decide) (Nat.le_trans (by decide) hz) ml_M_260 im_M_goesOn se_M_goesOn rfl rfl rfl rfl (Nat.le_refl _) (Nat.le_of_eq hb.symm) (fun hp50 => ?_)
    show Zt _ _ _ _ 189 _ [] (z, q48, J, G)
    refine z_aload_n dX11_tell_189 rfl ?_
    refine y_getR dX11_tell_190 cl11 sh_296 (by decide) (Nat.le_trans (by decide) hz) 27 rfl rfl (fl_M_58) (ly_296_27 hG) (by decide) ?_
    refine z_aload_n dX11_tell_193 rfl ?_
    refine z_nm (fun hN51 => ?_)
    refine y_getI dX11_tell_194 cl11 sh_296 (by decide) (Nat.le_trans (by decide) hz) 19 rfl rfl (fl_M_272) ?_
    refine z_aload_n dX11_tell_197 rfl ?_
    refine z_iconst dX11_tell_198 ?_
    refine z_iconst dX11_tell_199 ?_
    obtain ⟨q52, hq53, h⟩ := bindE h
    refine z_callV (As := [vI 1, vI 4]) (rest := [vI (q48 296 19), vR g 310]) (s_M_bounded hz hG (inRd (x := 1) (by decide)) (inRd (x := 4) (by decide)) hq53) dX11_tell_200 mw_M_bounded cl11 sh_296 (by decide) (Nat.le_trans (by decide) hz) ml_M_293 im_M_bounded se_M_bounded rfl rfl rfl rfl (Nat.le_refl _) (Nat.le_of_eq hb.symm) (fun hp54 => ?_)
    show Zt _ _ _ _ 203 _ [vI q52.1, vI (q48 296 19), vR g 310] (z, q52.2, J, G)
    obtain ⟨hg55, h⟩ := guardE h
    refine y_iast dX11_tell_203 sh_310 (by decide) (Nat.le_trans (by decide) hz) (hN51.1 296 19) hg55 hp54 ?_
    refine z_aload_n dX11_tell_204 rfl ?_
    refine z_iconst dX11_tell_205 ?_
    obtain ⟨q56, hq57, h⟩ := bindE h
    refine z_callV (As := [vI 4]) (rest := []) (s_M_must hz hG (inRd (x := 4) (by decide)) hq57) dX11_tell_206 mw_M_must cl11 sh_296 (by decide) (Nat.le_trans (by decide) hz) ml_M_297 im_M_must se_M_must rfl rfl rfl rfl (Nat.le_refl _) (Nat.le_of_eq hb.symm) (fun hp58 => ?_)
    show Zt _ _ _ _ 209 _ [] (z, q56, J, G)
    refine z_goto (tgt := 300) dX11_tell_209 (by decide) ?_
    obtain rfl := someE h
    exact z_vret dX11_tell_300 hE trivial rfl
  replace h := ifF hc47 h
  by_cases hc59 : (I 299 ((I 296 11)).toNat) = 24
  · replace h := ifT hc59 h
    refine z_tabIn (tgt := 212) dX11_tell_9 24 hc59 (hN1.1 299 ((I 296 11)).toNat) (by decide) rfl (by decide) ?_
    refine z_aload_n dX11_tell_212 rfl ?_
    refine z_aload_n dX11_tell_213 rfl ?_
    refine y_getR dX11_tell_214 cl11 sh_296 (by decide) (Nat.le_trans (by decide) hz) 28 rfl rfl (fl_M_61) (ly_296_28 hG) (by decide) ?_
    refine z_aload_n dX11_tell_217 rfl ?_
    refine y_getI dX11_tell_218 cl11 sh_296 (by decide) (Nat.le_trans (by decide) hz) 19 rfl rfl (fl_M_272) ?_
    obtain ⟨hg60, h⟩ := guardE h
    refine y_iald dX11_tell_221 sh_311 (by decide) (Nat.le_trans (by decide) hz) (hN1.1 296 19) hg60 ?_
    refine z_bipush dX11_tell_222 (by decide +kernel) ?_
    obtain ⟨q61, hq62, h⟩ := bindE h
    refine z_callV (As := [vI (I 311 ((I 296 19)).toNat), vI 8]) (rest := []) (s_M_roomFor hz hG (hN1.1 311 ((I 296 19)).toNat) (inRd (x := 8) (by decide)) hq62) dX11_tell_224 mw_M_roomFor cl11 sh_296 (by decide) (Nat.le_trans (by decide) hz) ml_M_300 im_M_roomFor se_M_roomFor rfl rfl rfl rfl (Nat.le_refl _) (Nat.le_of_eq hb.symm) (fun hp63 => ?_)
    show Zt _ _ _ _ 227 _ [] (z, q61, J, G)
    refine z_aload_n dX11_tell_227 rfl ?_
    refine z_nm (fun hN64 => ?_)
    refine y_getI dX11_tell_228 cl11 sh_296 (by decide) (Nat.le_trans (by decide) hz) 13 rfl rfl (fl_M_239) ?_
    refine z_if_ne (tgt := 300) dX11_tell_231 (by decide) (hN64.1 296 13) (fun hc65 => ?_) (fun hc65 => ?_)
    · replace h := ifT hc65 h
      obtain rfl := someE h
      exact z_vret dX11_tell_300 hE trivial rfl
    replace h := ifF (fun q => q hc65) h
    refine z_aload_n dX11_tell_234 rfl ?_
    obtain ⟨q66, hq67, h⟩ := bindE h
    refine z_callV (As := []) (rest := []) (s_M_tellLeaver hz hG  hq67) dX11_tell_235 mw_M_tellLeaver cl11 sh_296 (by decide) (Nat.le_trans (by decide) hz) ml_M_307 im_M_tellLeaver se_M_tellLeaver rfl rfl rfl rfl (Nat.le_refl _) (Nat.le_of_eq hb.symm) (fun hp68 => ?_)
    show Zt _ _ _ _ 238 _ [] (z, q66.1, q66.2, G)
    refine z_goto (tgt := 300) dX11_tell_238 (by decide) ?_
    obtain rfl := someE h
    exact z_vret dX11_tell_300 hE trivial rfl
  replace h := ifF hc59 h
  by_cases hc69 : (I 299 ((I 296 11)).toNat) = 25
  · replace h := ifT hc69 h
    refine z_tabIn (tgt := 241) dX11_tell_9 25 hc69 (hN1.1 299 ((I 296 11)).toNat) (by decide) rfl (by decide) ?_
    refine z_aload_n dX11_tell_241 rfl ?_
    refine z_aload_n dX11_tell_242 rfl ?_
    refine y_getR dX11_tell_243 cl11 sh_296 (by decide) (Nat.le_trans (by decide) hz) 33 rfl rfl (fl_M_76) (ly_296_33 hG) (by decide) ?_
    refine z_aload_n dX11_tell_246 rfl ?_
    refine y_getI dX11_tell_247 cl11 sh_296 (by decide) (Nat.le_trans (by decide) hz) 19 rfl rfl (fl_M_272) ?_
    obtain ⟨hg70, h⟩ := guardE h
    refine y_iald dX11_tell_250 sh_316 (by decide) (Nat.le_trans (by decide) hz) (hN1.1 296 19) hg70 ?_
    refine z_bipush dX11_tell_251 (by decide +kernel) ?_
    obtain ⟨q71, hq72, h⟩ := bindE h
    refine z_callV (As := [vI (I 316 ((I 296 19)).toNat), vI 8]) (rest := []) (s_M_roomFor hz hG (hN1.1 316 ((I 296 19)).toNat) (inRd (x := 8) (by decide)) hq72) dX11_tell_253 mw_M_roomFor cl11 sh_296 (by decide) (Nat.le_trans (by decide) hz) ml_M_300 im_M_roomFor se_M_roomFor rfl rfl rfl rfl (Nat.le_refl _) (Nat.le_of_eq hb.symm) (fun hp73 => ?_)
    show Zt _ _ _ _ 256 _ [] (z, q71, J, G)
    refine z_aload_n dX11_tell_256 rfl ?_
    refine z_nm (fun hN74 => ?_)
    refine y_getI dX11_tell_257 cl11 sh_296 (by decide) (Nat.le_trans (by decide) hz) 13 rfl rfl (fl_M_239) ?_
    refine z_if_ne (tgt := 300) dX11_tell_260 (by decide) (hN74.1 296 13) (fun hc75 => ?_) (fun hc75 => ?_)
    · replace h := ifT hc75 h
      obtain rfl := someE h
      exact z_vret dX11_tell_300 hE trivial rfl
    replace h := ifF (fun q => q hc75) h
    refine z_aload_n dX11_tell_263 rfl ?_
    obtain ⟨q76, hq77, h⟩ := bindE h
    refine z_callV (As := []) (rest := []) (s_M_tellFlood hz hG  hq77) dX11_tell_264 mw_M_tellFlood cl11 sh_296 (by decide) (Nat.le_trans (by decide) hz) ml_M_310 im_M_tellFlood se_M_tellFlood rfl rfl rfl rfl (Nat.le_refl _) (Nat.le_of_eq hb.symm) (fun hp78 => ?_)
    show Zt _ _ _ _ 267 _ [] (z, q76, J, G)
    refine z_goto (tgt := 300) dX11_tell_267 (by decide) ?_
    obtain rfl := someE h
    exact z_vret dX11_tell_300 hE trivial rfl
  replace h := ifF hc69 h
  by_cases hc79 : (I 299 ((I 296 11)).toNat) = 26
  · replace h := ifT hc79 h
    refine z_tabIn (tgt := 270) dX11_tell_9 26 hc79 (hN1.1 299 ((I 296 11)).toNat) (by decide) rfl (by decide) ?_
    refine z_aload_n dX11_tell_270 rfl ?_
    refine y_getR dX11_tell_271 cl11 sh_296 (by decide) (Nat.le_trans (by decide) hz) 5 rfl rfl (fl_M_20) (ly_296_5 hG) (by decide) ?_
    refine z_aload_n dX11_tell_274 rfl ?_
    refine y_getI dX11_tell_275 cl11 sh_296 (by decide) (Nat.le_trans (by decide) hz) 11 rfl rfl (fl_M_242) ?_
    refine y_iald dX11_tell_278 sh_299 (by decide) (Nat.le_trans (by decide) hz) (hN1.1 296 11) hg2 ?_
    refine z_bipush dX11_tell_279 (by decide +kernel) ?_
    refine z_isub dX11_tell_281 ?_
    refine z_istore_n (L' := [some (vR g 296), some (vI (w32 ((I 299 ((I 296 11)).toNat) - 26))), none]) dX11_tell_282 rfl rfl rfl ?_
    refine z_aload_n dX11_tell_283 rfl ?_
    obtain ⟨q80, hq81, h⟩ := bindE h
    refine z_callV (As := []) (rest := []) (s_M_goesOn hz hG  hq81) dX11_tell_284 mw_M_goesOn cl11 sh_296 (by decide) (Nat.le_trans (by decide) hz) ml_M_260 im_M_goesOn se_M_goesOn rfl rfl rfl rfl (Nat.le_refl _) (Nat.le_of_eq hb.symm) (fun hp82 => ?_)
    show Zt _ _ _ _ 287 _ [] (z, q80, J, G)
    refine z_aload_n dX11_tell_287 rfl ?_
    refine z_iload_n dX11_tell_288 rfl ?_
    obtain ⟨q83, hq84, h⟩ := bindE h
    refine z_callV (As := [vI (w32 ((I 299 ((I 296 11)).toNat) - 26))]) (rest := []) (s_M_tellLaw hz hG (inR_w32 _) hq84) dX11_tell_289 mw_M_tellLaw cl11 sh_296 (by decide) (Nat.le_trans (by decide) hz) ml_M_313 im_M_tellLaw se_M_tellLaw rfl rfl rfl rfl (Nat.le_refl _) (Nat.le_of_eq hb.symm) (fun hp85 => ?_)
    show Zt _ _ _ _ 292 _ [] (z, q83, J, G)
    refine z_goto (tgt := 300) dX11_tell_292 (by decide) ?_
    obtain rfl := someE h
    exact z_vret dX11_tell_300 hE trivial rfl
  replace h := ifF hc79 h
  by_cases hc86 : (I 299 ((I 296 11)).toNat) = 27
  · replace h := ifT hc86 h
    refine z_tabIn (tgt := 270) dX11_tell_9 27 hc86 (hN1.1 299 ((I 296 11)).toNat) (by decide) rfl (by decide) ?_
    refine z_aload_n dX11_tell_270 rfl ?_
    refine y_getR dX11_tell_271 cl11 sh_296 (by decide) (Nat.le_trans (by decide) hz) 5 rfl rfl (fl_M_20) (ly_296_5 hG) (by decide) ?_
    refine z_aload_n dX11_tell_274 rfl ?_
    refine y_getI dX11_tell_275 cl11 sh_296 (by decide) (Nat.le_trans (by decide) hz) 11 rfl rfl (fl_M_242) ?_
    refine y_iald dX11_tell_278 sh_299 (by decide) (Nat.le_trans (by decide) hz) (hN1.1 296 11) hg2 ?_
    refine z_bipush dX11_tell_279 (by decide +kernel) ?_
    refine z_isub dX11_tell_281 ?_
    refine z_istore_n (L' := [some (vR g 296), some (vI (w32 ((I 299 ((I 296 11)).toNat) - 26))), none]) dX11_tell_282 rfl rfl rfl ?_
    refine z_aload_n dX11_tell_283 rfl ?_
    obtain ⟨q87, hq88, h⟩ := bindE h
    refine z_callV (As := []) (rest := []) (s_M_goesOn hz hG  hq88) dX11_tell_284 mw_M_goesOn cl11 sh_296 (by decide) (Nat.le_trans (by decide) hz) ml_M_260 im_M_goesOn se_M_goesOn rfl rfl rfl rfl (Nat.le_refl _) (Nat.le_of_eq hb.symm) (fun hp89 => ?_)
    show Zt _ _ _ _ 287 _ [] (z, q87, J, G)
    refine z_aload_n dX11_tell_287 rfl ?_
    refine z_iload_n dX11_tell_288 rfl ?_
    obtain ⟨q90, hq91, h⟩ := bindE h
    refine z_callV (As := [vI (w32 ((I 299 ((I 296 11)).toNat) - 26))]) (rest := []) (s_M_tellLaw hz hG (inR_w32 _) hq91) dX11_tell_289 mw_M_tellLaw cl11 sh_296 (by decide) (Nat.le_trans (by decide) hz) ml_M_313 im_M_tellLaw se_M_tellLaw rfl rfl rfl rfl (Nat.le_refl _) (Nat.le_of_eq hb.symm) (fun hp92 => ?_)
    show Zt _ _ _ _ 292 _ [] (z, q90, J, G)
    refine z_goto (tgt := 300) dX11_tell_292 (by decide) ?_
    obtain rfl := someE h
    exact z_vret dX11_tell_300 hE trivial rfl
  replace h := ifF hc86 h
  refine z_tabOut (tgt := 295) dX11_tell_9 (hN1.1 299 ((I 296 11)).toNat) (by omega) (by decide) ?_
  refine z_aload_n dX11_tell_295 rfl ?_
  refine z_iconst dX11_tell_296 ?_
  obtain ⟨q93, hq94, h⟩ := bindE h
  refine z_callV (As := [vI 1]) (rest := []) (s_M_fail hz hG (inRd (x := 1) (by decide)) hq94) dX11_tell_297 mw_M_fail cl11 sh_296 (by decide) (Nat.le_trans (by decide) hz) ml_M_254 im_M_fail se_M_fail rfl rfl rfl rfl (Nat.le_refl _) (Nat.le_of_eq hb.symm) (fun hp95 => ?_)
  show Zt _ _ _ _ 300 _ [] (z, q93, J, G)
  obtain rfl := someE h
  exact z_vret dX11_tell_300 hE trivial rfl
set_option maxHeartbeats 1000000 in
theorem t_M_read_L10 {l : Launch} {g : GX} {φ : CX} {z : Nat} {G : Nat → Nat → Nat} {F : Nat} (hb : cb φ = z) (hz : 353 ≤ z) (hG : lyM G) {x1 : Int} {I J : Nat → Nat → Int} (hx1 : inR x1) {res : (MI) ⊕ (Int × MI)} (h : f_M_read_L10 F x1 I J = some res) (kE : ∀ e : MI, res = .inl e → ((True) → Zt l g φ mu_M_read 36 [some (vR g 296), none] [] (z, e, J, G))) (kS : ∀ s : Int × MI, res = .inr s → (inR s.1) → Zt l g φ mu_M_read 10 [some (vR g 296), some (vI s.1)] [] (z, s.2, J, G)) : Zt l g φ mu_M_read 10 [some (vR g 296), some (vI x1)] [] (z, I, J, G) := by
  refine z_iload_n dX11_read_10 rfl ?_
  refine z_aload_n dX11_read_11 rfl ?_
  refine z_nm (fun hN2 => ?_)
  refine y_getI dX11_read_12 cl11 sh_296 (by decide) (Nat.le_trans (by decide) hz) 4 rfl rfl (fl_M_208) ?_
  refine z_icmp_ge (tgt := 36) dX11_read_15 (by decide) hx1 (hN2.1 296 4) (fun hc3 => ?_) (fun hc3 => ?_)
  · replace h := ifT hc3 h
    refine z_weak (L' := [some (vR g 296), none]) (lsS (lsN ls0)) ?_
    exact kE _ (someE h).symm trivial
  replace h := ifF hc3 h
  refine z_aload_n dX11_read_18 rfl ?_
  refine y_getR dX11_read_19 cl11 sh_296 (by decide) (Nat.le_trans (by decide) hz) 3 rfl rfl (fl_M_17) (ly_296_3 hG) (by decide) ?_
  refine z_iload_n dX11_read_22 rfl ?_
  refine z_aload_n dX11_read_23 rfl ?_
  refine y_getR dX11_read_24 cl11 sh_296 (by decide) (Nat.le_trans (by decide) hz) 1 rfl rfl (fl_M_13) (ly_296_1 hG) (by decide) ?_
  refine z_iload_n dX11_read_27 rfl ?_
  obtain ⟨hg4, h⟩ := guardE h
  refine y_bald dX11_read_28 sh_297 (by decide) (Nat.le_trans (by decide) hz) hx1 hg4 ?_
  refine y_bast dX11_read_29 sh_298 (by decide) (Nat.le_trans (by decide) hz) hx1 hg4 ?_
  refine z_iinc (L' := [some (vR g 296), some (vI (w32 (x1 + 1)))]) dX11_read_30 rfl rfl rfl rfl ?_
  refine z_goto (tgt := 10) dX11_read_33 (by decide) ?_
  exact kS _ (someE h).symm (inR_w32 _)
theorem l_M_read_L10 {l : Launch} {g : GX} {φ : CX} {z : Nat} {G : Nat → Nat → Nat} {F : Nat} (hb : cb φ = z) (hz : 353 ≤ z) (hG : lyM G) {J : Nat → Nat → Int} (n : Nat) (s : Int × MI) (e : MI) (h : iter (fun s : Int × MI => f_M_read_L10 F s.1 s.2 J) n s = some e) (hs : inR s.1) (k : ((True) → Zt l g φ mu_M_read 36 [some (vR g 296), none] [] (z, e, J, G))) : Zt l g φ mu_M_read 10 [some (vR g 296), some (vI s.1)] [] (z, s.2, J, G) := by
  refine iter_ind (Z := fun s : Int × MI => Zt l g φ mu_M_read 10 [some (vR g 296), some (vI s.1)] [] (z, s.2, J, G)) (ZE := fun e : MI => ((True) → Zt l g φ mu_M_read 36 [some (vR g 296), none] [] (z, e, J, G))) (Rg := fun s : Int × MI => inR s.1) ?_ n s e h hs k
  intro s r hr hst kE kS
  exact t_M_read_L10 hb hz hG hr hst kE kS
set_option maxHeartbeats 1000000 in
theorem t_M_read_L112 {l : Launch} {g : GX} {φ : CX} {z : Nat} {G : Nat → Nat → Nat} {F : Nat} (hb : cb φ = z) (hz : 353 ≤ z) (hG : lyM G) {I J : Nat → Nat → Int} {res : (MI × MI) ⊕ (MI × MI)} (h : f_M_read_L112 F I J = some res) (kE : ∀ e : MI × MI, res = .inl e → ((True) → Zt l g φ mu_M_read 134 [some (vR g 296), none] [] (z, e.1, e.2, G))) (kS : ∀ s : MI × MI, res = .inr s → (True) → Zt l g φ mu_M_read 112 [some (vR g 296), none] [] (z, s.1, s.2, G)) : Zt l g φ mu_M_read 112 [some (vR g 296), none] [] (z, I, J, G) := by
  refine z_aload_n dX11_read_112 rfl ?_
  refine z_nm (fun hN18 => ?_)
  refine y_getI dX11_read_113 cl11 sh_296 (by decide) (Nat.le_trans (by decide) hz) 13 rfl rfl (fl_M_239) ?_
  refine z_if_ne (tgt := 134) dX11_read_116 (by decide) (hN18.1 296 13) (fun hc19 => ?_) (fun hc19 => ?_)
  · replace h := ifT hc19 h
    exact kE _ (someE h).symm trivial
  replace h := ifF (fun q => q hc19) h
  refine z_aload_n dX11_read_119 rfl ?_
  refine z_iconst dX11_read_120 ?_
  obtain ⟨q20, hq21, h⟩ := bindE h
  refine z_callV (As := [vI 0]) (rest := []) (s_M_is hz hG (inRd (x := 0) (by decide)) hq21) dX11_read_121 mw_M_is cl11 sh_296 (by decide) (Nat.le_trans (by decide) hz) ml_M_257 im_M_is se_M_is rfl rfl rfl rfl (Nat.le_refl _) (Nat.le_of_eq hb.symm) (fun hp22 => ?_)
  show Zt _ _ _ _ 124 _ [vI q20] (z, I, J, G)
  refine z_if_ne (tgt := 134) dX11_read_124 (by decide) (inR_bool hp22) (fun hc23 => ?_) (fun hc23 => ?_)
  · replace h := ifT hc23 h
    exact kE _ (someE h).symm trivial
  replace h := ifF (fun q => q hc23) h
  refine z_aload_n dX11_read_127 rfl ?_
  obtain ⟨q24, hq25, h⟩ := bindE h
  refine z_callV (As := []) (rest := []) (s_M_tell hz hG  hq25) dX11_read_128 mw_M_tell cl11 sh_296 (by decide) (Nat.le_trans (by decide) hz) ml_M_284 im_M_tell se_M_tell rfl rfl rfl rfl (Nat.le_refl _) (Nat.le_of_eq hb.symm) (fun hp26 => ?_)
  show Zt _ _ _ _ 131 _ [] (z, q24.1, q24.2, G)
  refine z_goto (tgt := 112) dX11_read_131 (by decide) ?_
  exact kS _ (someE h).symm trivial
theorem l_M_read_L112 {l : Launch} {g : GX} {φ : CX} {z : Nat} {G : Nat → Nat → Nat} {F : Nat} (hb : cb φ = z) (hz : 353 ≤ z) (hG : lyM G) (n : Nat) (s : MI × MI) (e : MI × MI) (h : iter (fun s : MI × MI => f_M_read_L112 F s.1 s.2) n s = some e) (hs : True) (k : ((True) → Zt l g φ mu_M_read 134 [some (vR g 296), none] [] (z, e.1, e.2, G))) : Zt l g φ mu_M_read 112 [some (vR g 296), none] [] (z, s.1, s.2, G) := by
  refine iter_ind (Z := fun s : MI × MI => Zt l g φ mu_M_read 112 [some (vR g 296), none] [] (z, s.1, s.2, G)) (ZE := fun e : MI × MI => ((True) → Zt l g φ mu_M_read 134 [some (vR g 296), none] [] (z, e.1, e.2, G))) (Rg := fun s : MI × MI => True) ?_ n s e h hs k
  intro s r hr hst kE kS
  exact t_M_read_L112 hb hz hG  hst kE kS
set_option maxHeartbeats 1000000 in
theorem t_M_read_L215 {l : Launch} {g : GX} {φ : CX} {z : Nat} {G : Nat → Nat → Nat} {F : Nat} (hb : cb φ = z) (hz : 353 ≤ z) (hG : lyM G) {x1 : Int} {I J : Nat → Nat → Int} (hx1 : inR x1) {res : (MI) ⊕ (Int × MI)} (h : f_M_read_L215 F x1 I J = some res) (kE : ∀ e : MI, res = .inl e → ((True) → Zt l g φ mu_M_read 233 [none, none] [] (z, e, J, G))) (kS : ∀ s : Int × MI, res = .inr s → (inR s.1) → Zt l g φ mu_M_read 215 [some (vR g 296), some (vI s.1)] [] (z, s.2, J, G)) : Zt l g φ mu_M_read 215 [some (vR g 296), some (vI x1)] [] (z, I, J, G) := by
  refine z_iload_n dX11_read_215 rfl ?_
  refine z_iconst dX11_read_216 ?_
  refine z_icmp_ge (tgt := 233) dX11_read_217 (by decide) hx1 (inRd (x := 3) (by decide)) (fun hc39 => ?_) (fun hc39 => ?_)
  · replace h := ifT hc39 h
    refine z_weak (L' := [none, none]) (lsN (lsN ls0)) ?_
    exact kE _ (someE h).symm trivial
  replace h := ifF hc39 h
  refine z_aload_n dX11_read_220 rfl ?_
  refine y_getR dX11_read_221 cl11 sh_296 (by decide) (Nat.le_trans (by decide) hz) 79 rfl rfl (fl_M_185) (ly_296_79 hG) (by decide) ?_
  refine z_iload_n dX11_read_224 rfl ?_
  refine z_iconst dX11_read_225 ?_
  obtain ⟨hg40, h⟩ := guardE h
  refine y_zast dX11_read_226 sh_352 (by decide) (Nat.le_trans (by decide) hz) hx1 hg40 b01_0 ?_
  refine z_iinc (L' := [some (vR g 296), some (vI (w32 (x1 + 1)))]) dX11_read_227 rfl rfl rfl rfl ?_
  refine z_goto (tgt := 215) dX11_read_230 (by decide) ?_
  exact kS _ (someE h).symm (inR_w32 _)
theorem l_M_read_L215 {l : Launch} {g : GX} {φ : CX} {z : Nat} {G : Nat → Nat → Nat} {F : Nat} (hb : cb φ = z) (hz : 353 ≤ z) (hG : lyM G) {J : Nat → Nat → Int} (n : Nat) (s : Int × MI) (e : MI) (h : iter (fun s : Int × MI => f_M_read_L215 F s.1 s.2 J) n s = some e) (hs : inR s.1) (k : ((True) → Zt l g φ mu_M_read 233 [none, none] [] (z, e, J, G))) : Zt l g φ mu_M_read 215 [some (vR g 296), some (vI s.1)] [] (z, s.2, J, G) := by
  refine iter_ind (Z := fun s : Int × MI => Zt l g φ mu_M_read 215 [some (vR g 296), some (vI s.1)] [] (z, s.2, J, G)) (ZE := fun e : MI => ((True) → Zt l g φ mu_M_read 233 [none, none] [] (z, e, J, G))) (Rg := fun s : Int × MI => inR s.1) ?_ n s e h hs k
  intro s r hr hst kE kS
  exact t_M_read_L215 hb hz hG hr hst kE kS
set_option maxHeartbeats 1000000 in
theorem t_M_read_b164 {l : Launch} {g : GX} {φ : CX} {z : Nat} {G : Nat → Nat → Nat} {F : Nat} (hb : cb φ = z) (hz : 353 ≤ z) (hG : lyM G) {s1 : Int} {I J : Nat → Nat → Int} (hs1 : inR s1) {res : Int × MI × MI} (h : f_M_read_b164 F s1 I J = some res) (hE : ends g φ (some .int) (some (vI res.1)) (inR res.1) (z, res.2.1, res.2.2, G)) : Zt l g φ mu_M_read 164 [some (vR g 296), none] [vI s1, vR g 296] (z, I, J, G) := by
  refine y_putI dX11_read_164 cl11 sh_296 (by decide) (Nat.le_trans (by decide) hz) 17 rfl rfl rfl (fl_M_37) rfl rfl hs1 ?_
  refine z_aload_n dX11_read_167 rfl ?_
  refine z_nm (fun hN33 => ?_)
  refine y_getI dX11_read_168 cl11 sh_296 (by decide) (Nat.le_trans (by decide) hz) 13 rfl rfl (fl_M_239) ?_
  refine z_if_le (tgt := 179) dX11_read_171 (by decide) (hN33.1 296 13) (fun hc34 => ?_) (fun hc34 => ?_)
  · replace h := ifT hc34 h
    refine z_aload_n dX11_read_179 rfl ?_
    refine y_getI dX11_read_180 cl11 sh_296 (by decide) (Nat.le_trans (by decide) hz) 15 rfl rfl (fl_M_248) ?_
    refine z_if_le (tgt := 191) dX11_read_183 (by decide) (hN33.1 296 15) (fun hc35 => ?_) (fun hc35 => ?_)
    · replace h := ifT hc35 h
      refine z_aload_n dX11_read_191 rfl ?_
      refine z_aload_n dX11_read_192 rfl ?_
      refine y_getI dX11_read_193 cl11 sh_296 (by decide) (Nat.le_trans (by decide) hz) 19 rfl rfl (fl_M_272) ?_
      refine y_putI dX11_read_196 cl11 sh_296 (by decide) (Nat.le_trans (by decide) hz) 18 rfl rfl rfl (fl_M_269) rfl rfl (hN33.1 296 19) ?_
      refine z_aload_n dX11_read_199 rfl ?_
      obtain ⟨q36, hq37, h⟩ := bindE h
      refine z_callV (As := []) (rest := []) (s_M_begins hz hG  hq37) dX11_read_200 mw_M_begins cl11 sh_296 (by decide) (Nat.le_trans (by decide) hz) ml_M_199 im_M_begins se_M_begins rfl rfl rfl rfl (Nat.le_refl _) (Nat.le_of_eq hb.symm) (fun hp38 => ?_)
      show Zt _ _ _ _ 203 _ [] (z, q36, J, G)
      refine z_aload_n dX11_read_203 rfl ?_
      refine z_iconst dX11_read_204 ?_
      refine y_putI dX11_read_205 cl11 sh_296 (by decide) (Nat.le_trans (by decide) hz) 55 rfl rfl rfl (fl_M_287) rfl rfl (inRd (x := 0) (by decide)) ?_
      refine z_aload_n dX11_read_208 rfl ?_
      refine z_iconst dX11_read_209 ?_
      refine y_putI dX11_read_210 cl11 sh_296 (by decide) (Nat.le_trans (by decide) hz) 76 rfl rfl rfl (fl_M_290) rfl rfl (inRd (x := 0) (by decide)) ?_
      refine z_iconst dX11_read_213 ?_
      refine z_istore_n (L' := [some (vR g 296), some (vI 0)]) dX11_read_214 rfl rfl rfl ?_
      obtain ⟨e41, h42, h⟩ := bindE h
      refine l_M_read_L215 hb hz hG  _ _ _ h42 (inRd (x := 0) (by decide)) ?_
      refine fun h43 => ?_
      refine z_iconst dX11_read_233 ?_
      obtain rfl := someE h
      exact z_iret dX11_read_234 hE (inRd (x := 0) (by decide)) rfl
    replace h := ifF hc35 h
    refine z_aload_n dX11_read_186 rfl ?_
    refine y_getI dX11_read_187 cl11 sh_296 (by decide) (Nat.le_trans (by decide) hz) 15 rfl rfl (fl_M_248) ?_
    obtain rfl := someE h
    exact z_iret dX11_read_190 hE (hN33.1 296 15) rfl
  replace h := ifF hc34 h
  refine z_aload_n dX11_read_174 rfl ?_
  refine y_getI dX11_read_175 cl11 sh_296 (by decide) (Nat.le_trans (by decide) hz) 13 rfl rfl (fl_M_239) ?_
  obtain rfl := someE h
  exact z_iret dX11_read_178 hE (hN33.1 296 13) rfl
set_option maxHeartbeats 1000000 in
theorem s_M_read {l : Launch} {g : GX} {z : Nat} {G : Nat → Nat → Nat} {F : Nat} (hz : 353 ≤ z) (hG : lyM G) {I J : Nat → Nat → Int} {res : Int × MI × MI} (h : f_M_read F I J = some res) : Spec l g 7 yX11_read cX11_read 2 (some .int) [vR g 296] (z, I, J, G) (some (vI res.1)) (inR res.1) (z, res.2.1, res.2.2, G) := by
  refine spec_of (μ := mu_M_read) (k := 1) (L0 := [some (vR g 296), none]) rfl mw_M_read rfl rfl (Nat.le_refl _) (fun φ hb hE => ?_)
  refine z_aload_n dX11_read_0 rfl ?_
  refine z_aload_n dX11_read_1 rfl ?_
  refine z_nm (fun hN1 => ?_)
  refine y_getI dX11_read_2 cl11 sh_296 (by decide) (Nat.le_trans (by decide) hz) 2 rfl rfl (fl_M_202) ?_
  refine y_putI dX11_read_5 cl11 sh_296 (by decide) (Nat.le_trans (by decide) hz) 4 rfl rfl rfl (fl_M_208) rfl rfl (hN1.1 296 2) ?_
  refine z_iconst dX11_read_8 ?_
  refine z_istore_n (L' := [some (vR g 296), some (vI 0)]) dX11_read_9 rfl rfl rfl ?_
  obtain ⟨e5, h6, h⟩ := bindE h
  refine l_M_read_L10 hb hz hG  _ _ _ h6 (inRd (x := 0) (by decide)) ?_
  refine fun h7 => ?_
  refine z_aload_n dX11_read_36 rfl ?_
  refine z_iconst dX11_read_37 ?_
  refine y_putI dX11_read_38 cl11 sh_296 (by decide) (Nat.le_trans (by decide) hz) 2 rfl rfl rfl (fl_M_202) rfl rfl (inRd (x := 0) (by decide)) ?_
  refine z_aload_n dX11_read_41 rfl ?_
  obtain ⟨q8, hq9, h⟩ := bindE h
  refine z_callV (As := []) (rest := []) (s_M_cut hz hG  hq9) dX11_read_42 mw_M_cut cl11 sh_296 (by decide) (Nat.le_trans (by decide) hz) ml_M_263 im_M_cut se_M_cut rfl rfl rfl rfl (Nat.le_refl _) (Nat.le_of_eq hb.symm) (fun hp10 => ?_)
  show Zt _ _ _ _ 45 _ [] (z, q8.1, q8.2, G)
  refine z_aload_n dX11_read_45 rfl ?_
  refine z_iconst dX11_read_46 ?_
  refine y_putI dX11_read_47 cl11 sh_296 (by decide) (Nat.le_trans (by decide) hz) 11 rfl rfl rfl (fl_M_242) rfl rfl (inRd (x := 0) (by decide)) ?_
  refine z_aload_n dX11_read_50 rfl ?_
  refine z_iconst dX11_read_51 ?_
  refine y_putI dX11_read_52 cl11 sh_296 (by decide) (Nat.le_trans (by decide) hz) 12 rfl rfl rfl (fl_M_266) rfl rfl (inRd (x := 0) (by decide)) ?_
  refine z_aload_n dX11_read_55 rfl ?_
  refine z_iconst dX11_read_56 ?_
  refine y_putI dX11_read_57 cl11 sh_296 (by decide) (Nat.le_trans (by decide) hz) 13 rfl rfl rfl (fl_M_239) rfl rfl (inRd (x := 0) (by decide)) ?_
  refine z_aload_n dX11_read_60 rfl ?_
  refine z_iconst dX11_read_61 ?_
  refine y_putI dX11_read_62 cl11 sh_296 (by decide) (Nat.le_trans (by decide) hz) 15 rfl rfl rfl (fl_M_248) rfl rfl (inRd (x := 0) (by decide)) ?_
  refine z_aload_n dX11_read_65 rfl ?_
  refine z_iconst dX11_read_66 ?_
  refine z_aload_n dX11_read_67 rfl ?_
  refine z_nm (fun hN11 => ?_)
  refine y_getI dX11_read_68 cl11 sh_296 (by decide) (Nat.le_trans (by decide) hz) 18 rfl rfl (fl_M_269) ?_
  refine z_isub dX11_read_71 ?_
  refine y_putI dX11_read_72 cl11 sh_296 (by decide) (Nat.le_trans (by decide) hz) 19 rfl rfl rfl (fl_M_272) rfl rfl (inR_w32 _) ?_
  refine z_aload_n dX11_read_75 rfl ?_
  refine z_iconst dX11_read_76 ?_
  refine y_putI dX11_read_77 cl11 sh_296 (by decide) (Nat.le_trans (by decide) hz) 20 rfl rfl rfl (fl_M_275) rfl rfl (inRd (x := 0) (by decide)) ?_
  refine z_aload_n dX11_read_80 rfl ?_
  refine z_aload_n dX11_read_81 rfl ?_
  refine z_nm (fun hN12 => ?_)
  refine y_getI dX11_read_82 cl11 sh_296 (by decide) (Nat.le_trans (by decide) hz) 19 rfl rfl (fl_M_272) ?_
  obtain ⟨q13, hq14, h⟩ := bindE h
  refine z_callV (As := [vI ((up2 (up2 (up2 (up2 (up2 (up2 q8.1 296 11 0) 296 12 0) 296 13 0) 296 15 0) 296 19 (w32 (1 - ((up2 (up2 (up2 (up2 q8.1 296 11 0) 296 12 0) 296 13 0) 296 15 0) 296 18)))) 296 20 0) 296 19)]) (rest := []) (s_M_plain hz hG (hN12.1 296 19) hq14) dX11_read_85 mw_M_plain cl11 sh_296 (by decide) (Nat.le_trans (by decide) hz) ml_M_191 im_M_plain se_M_plain rfl rfl rfl rfl (Nat.le_refl _) (Nat.le_of_eq hb.symm) (fun hp15 => ?_)
  show Zt _ _ _ _ 88 _ [] (z, q13, q8.2, G)
  refine z_aload_n dX11_read_88 rfl ?_
  refine z_sipush dX11_read_89 (by decide +kernel) ?_
  refine z_aload_n dX11_read_92 rfl ?_
  refine z_nm (fun hN16 => ?_)
  refine y_getI dX11_read_93 cl11 sh_296 (by decide) (Nat.le_trans (by decide) hz) 19 rfl rfl (fl_M_272) ?_
  refine z_imul dX11_read_96 ?_
  refine y_putI dX11_read_97 cl11 sh_296 (by decide) (Nat.le_trans (by decide) hz) 38 rfl rfl rfl (fl_M_278) rfl rfl (inR_w32 _) ?_
  refine z_aload_n dX11_read_100 rfl ?_
  refine z_sipush dX11_read_101 (by decide +kernel) ?_
  refine z_aload_n dX11_read_104 rfl ?_
  refine z_nm (fun hN17 => ?_)
  refine y_getI dX11_read_105 cl11 sh_296 (by decide) (Nat.le_trans (by decide) hz) 19 rfl rfl (fl_M_272) ?_
  refine z_imul dX11_read_108 ?_
  refine y_putI dX11_read_109 cl11 sh_296 (by decide) (Nat.le_trans (by decide) hz) 44 rfl rfl rfl (fl_M_281) rfl rfl (inR_w32 _) ?_
  obtain ⟨e27, h28, h⟩ := bindE h
  refine l_M_read_L112 hb hz hG  _ _ _ h28 trivial ?_
  refine fun h29 => ?_
  refine z_aload_n dX11_read_134 rfl ?_
  refine z_aload_n dX11_read_135 rfl ?_
  refine z_nm (fun hN30 => ?_)
  refine y_getI dX11_read_136 cl11 sh_296 (by decide) (Nat.le_trans (by decide) hz) 13 rfl rfl (fl_M_239) ?_
  refine z_if_le (tgt := 149) dX11_read_139 (by decide) (hN30.1 296 13) (fun hc31 => ?_) (fun hc31 => ?_)
  · replace h := ifT hc31 h
    refine z_aload_n dX11_read_149 rfl ?_
    refine y_getI dX11_read_150 cl11 sh_296 (by decide) (Nat.le_trans (by decide) hz) 15 rfl rfl (fl_M_248) ?_
    refine z_if_le (tgt := 163) dX11_read_153 (by decide) (hN30.1 296 15) (fun hc32 => ?_) (fun hc32 => ?_)
    · replace h := ifT hc32 h
      refine z_iconst dX11_read_163 ?_
      exact t_M_read_b164 hb hz hG (inRd (x := (-1)) (by decide)) h hE
    replace h := ifF hc32 h
    refine z_aload_n dX11_read_156 rfl ?_
    refine y_getI dX11_read_157 cl11 sh_296 (by decide) (Nat.le_trans (by decide) hz) 16 rfl rfl (fl_M_251) ?_
    refine z_goto (tgt := 164) dX11_read_160 (by decide) ?_
    exact t_M_read_b164 hb hz hG (hN30.1 296 16) h hE
  replace h := ifF hc31 h
  refine z_aload_n dX11_read_142 rfl ?_
  refine y_getI dX11_read_143 cl11 sh_296 (by decide) (Nat.le_trans (by decide) hz) 14 rfl rfl (fl_M_245) ?_
  refine z_goto (tgt := 164) dX11_read_146 (by decide) ?_
  exact t_M_read_b164 hb hz hG (hN30.1 296 14) h hE
set_option maxHeartbeats 1000000 in
theorem s_M_place {l : Launch} {g : GX} {z : Nat} {G : Nat → Nat → Nat} {F : Nat} (hz : 353 ≤ z) (hG : lyM G) {I J : Nat → Nat → Int} {res : Int} (h : f_M_place F I J = some res) : Spec l g 0 yX11_place cX11_place 1 (some .int) [vR g 296] (z, I, J, G) (some (vI res)) (inR res) (z, I, J, G) := by
  refine spec_of (μ := mu_M_place) (k := 0) (L0 := [some (vR g 296)]) rfl mw_M_place rfl rfl (Nat.le_refl _) (fun φ hb hE => ?_)
  refine z_aload_n dX11_place_0 rfl ?_
  refine z_nm (fun hN1 => ?_)
  refine y_getI dX11_place_1 cl11 sh_296 (by decide) (Nat.le_trans (by decide) hz) 17 rfl rfl (fl_M_37) ?_
  obtain rfl := someE h
  exact z_iret dX11_place_4 hE (hN1.1 296 17) rfl
set_option maxHeartbeats 1000000 in
theorem t_M_termOf_b158in5 {l : Launch} {g : GX} {φ : CX} {z : Nat} {G : Nat → Nat → Nat} {F : Nat} (hb : cb φ = z) (hz : 353 ≤ z) (hG : lyM G) {x2 : Int} {x3 : Int} {x4 : Int} {s1 : Int} {s2 : Int} {I J : Nat → Nat → Int} (hx2 : inR x2) (hx3 : inR x3) (hx4 : inR x4) (hs1 : inR s1) (hs2 : inR s2) {res : ((MI) ⊕ (MI)) ⊕ (Int × Int × MI)} (h : f_M_termOf_b158in5 F x2 x3 x4 s1 s2 I J = some res) (kE : ∀ e : (MI) ⊕ (MI), res = .inl e → ((fun w : (MI) ⊕ (MI) => (match w with | .inl e0 => ((True) → Zt l g φ mu_M_termOf 97 [some (vR g 296), none, none, none, none, none, none, none] [] (z, e0, J, G)) | .inr o0 => ((True) → Zt l g φ mu_M_termOf 165 [some (vR g 296), none, none, none, none, none, none, none] [] (z, o0, J, G)))) e)) (kS : ∀ s : Int × Int × MI, res = .inr s → (inR s.1 ∧ inR s.2.1) → Zt l g φ mu_M_termOf 5 [some (vR g 296), none, some (vI x2), some (vI s.1), some (vI s.2.1), none, none, none] [] (z, s.2.2, J, G)) : Zt l g φ mu_M_termOf 158 [some (vR g 296), none, some (vI x2), some (vI x3), some (vI x4), none, none, none] [vI s2, vI s1, vR g 330] (z, I, J, G) := by
  obtain ⟨hg12, h⟩ := guardE h
  refine y_iast dX11_termOf_158 sh_330 (by decide) (Nat.le_trans (by decide) hz) hs1 hg12 hs2 ?_
  refine z_iinc (L' := [some (vR g 296), none, some (vI x2), some (vI x3), some (vI (w32 (x4 + 1))), none, none, none]) dX11_termOf_159 rfl rfl rfl rfl ?_
  refine z_goto (tgt := 5) dX11_termOf_162 (by decide) ?_
  exact kS _ (someE h).symm ⟨hx3, (inR_w32 _)⟩
set_option maxHeartbeats 1000000 in
theorem t_M_termOf_b104in5 {l : Launch} {g : GX} {φ : CX} {z : Nat} {G : Nat → Nat → Nat} {F : Nat} (hb : cb φ = z) (hz : 353 ≤ z) (hG : lyM G) {x2 : Int} {x3 : Int} {x4 : Int} {x5 : Int} {x6 : Int} {x7 : Int} {I J : Nat → Nat → Int} (hx2 : inR x2) (hx3 : inR x3) (hx4 : inR x4) (hx5 : inR x5) (hx6 : inR x6) (hx7 : inR x7) {res : ((MI) ⊕ (MI)) ⊕ (Int × Int × MI)} (h : f_M_termOf_b104in5 F x2 x3 x4 x5 x6 x7 I J = some res) (kE : ∀ e : (MI) ⊕ (MI), res = .inl e → ((fun w : (MI) ⊕ (MI) => (match w with | .inl e0 => ((True) → Zt l g φ mu_M_termOf 97 [some (vR g 296), none, none, none, none, none, none, none] [] (z, e0, J, G)) | .inr o0 => ((True) → Zt l g φ mu_M_termOf 165 [some (vR g 296), none, none, none, none, none, none, none] [] (z, o0, J, G)))) e)) (kS : ∀ s : Int × Int × MI, res = .inr s → (inR s.1 ∧ inR s.2.1) → Zt l g φ mu_M_termOf 5 [some (vR g 296), none, some (vI x2), some (vI s.1), some (vI s.2.1), none, none, none] [] (z, s.2.2, J, G)) : Zt l g φ mu_M_termOf 104 [some (vR g 296), none, some (vI x2), some (vI x3), some (vI x4), some (vI x5), some (vI x6), some (vI x7)] [] (z, I, J, G) := by
  refine z_aload_n dX11_termOf_104 rfl ?_
  refine y_getR dX11_termOf_105 cl11 sh_296 (by decide) (Nat.le_trans (by decide) hz) 50 rfl rfl (fl_M_119) (ly_296_50 hG) (by decide) ?_
  refine z_iload_n dX11_termOf_108 rfl ?_
  refine z_iconst dX11_termOf_109 ?_
  refine z_isub dX11_termOf_110 ?_
  refine z_iload dX11_termOf_111 rfl ?_
  refine z_iconst dX11_termOf_113 ?_
  refine z_icmp_ne (tgt := 125) dX11_termOf_114 (by decide) hx5 (inRd (x := 2) (by decide)) (fun hc8 => ?_) (fun hc8 => ?_)
  · replace h := ifT hc8 h
    refine z_iload dX11_termOf_125 rfl ?_
    refine z_iconst dX11_termOf_127 ?_
    refine z_icmp_ne (tgt := 139) dX11_termOf_128 (by decide) hx5 (inRd (x := 3) (by decide)) (fun hc9 => ?_) (fun hc9 => ?_)
    · replace h := ifT hc9 h
      refine z_iload dX11_termOf_139 rfl ?_
      refine z_iconst dX11_termOf_141 ?_
      refine z_icmp_ne (tgt := 153) dX11_termOf_142 (by decide) hx5 (inRd (x := 4) (by decide)) (fun hc10 => ?_) (fun hc10 => ?_)
      · replace h := ifT hc10 h
        refine z_iload dX11_termOf_153 rfl ?_
        refine z_iload dX11_termOf_155 rfl ?_
        obtain ⟨hd11, h⟩ := guardE h
        refine z_idiv dX11_termOf_157 hx7 hd11 ?_
        refine z_weak (L' := [some (vR g 296), none, some (vI x2), some (vI x3), some (vI x4), none, none, none]) (lsS (lsN (lsS (lsS (lsS (lsN (lsN (lsN ls0)))))))) ?_
        exact t_M_termOf_b158in5 hb hz hG hx2 hx3 hx4 (inR_w32 _) inR_div h kE kS
      replace h := ifF (fun q => q hc10) h
      refine z_iload dX11_termOf_145 rfl ?_
      refine z_iload dX11_termOf_147 rfl ?_
      refine z_imul dX11_termOf_149 ?_
      refine z_goto (tgt := 158) dX11_termOf_150 (by decide) ?_
      refine z_weak (L' := [some (vR g 296), none, some (vI x2), some (vI x3), some (vI x4), none, none, none]) (lsS (lsN (lsS (lsS (lsS (lsN (lsN (lsN ls0)))))))) ?_
      exact t_M_termOf_b158in5 hb hz hG hx2 hx3 hx4 (inR_w32 _) (inR_w32 _) h kE kS
    replace h := ifF (fun q => q hc9) h
    refine z_iload dX11_termOf_131 rfl ?_
    refine z_iload dX11_termOf_133 rfl ?_
    refine z_isub dX11_termOf_135 ?_
    refine z_goto (tgt := 158) dX11_termOf_136 (by decide) ?_
    refine z_weak (L' := [some (vR g 296), none, some (vI x2), some (vI x3), some (vI x4), none, none, none]) (lsS (lsN (lsS (lsS (lsS (lsN (lsN (lsN ls0)))))))) ?_
    exact t_M_termOf_b158in5 hb hz hG hx2 hx3 hx4 (inR_w32 _) (inR_w32 _) h kE kS
  replace h := ifF (fun q => q hc8) h
  refine z_iload dX11_termOf_117 rfl ?_
  refine z_iload dX11_termOf_119 rfl ?_
  refine z_iadd dX11_termOf_121 ?_
  refine z_goto (tgt := 158) dX11_termOf_122 (by decide) ?_
  refine z_weak (L' := [some (vR g 296), none, some (vI x2), some (vI x3), some (vI x4), none, none, none]) (lsS (lsN (lsS (lsS (lsS (lsN (lsN (lsN ls0)))))))) ?_
  exact t_M_termOf_b158in5 hb hz hG hx2 hx3 hx4 (inR_w32 _) (inR_w32 _) h kE kS
set_option maxHeartbeats 1000000 in
theorem t_M_termOf_b58in5 {l : Launch} {g : GX} {φ : CX} {z : Nat} {G : Nat → Nat → Nat} {F : Nat} (hb : cb φ = z) (hz : 353 ≤ z) (hG : lyM G) {x2 : Int} {x3 : Int} {x4 : Int} {s1 : Int} {s2 : Int} {I J : Nat → Nat → Int} (hx2 : inR x2) (hx3 : inR x3) (hx4 : inR x4) (hs1 : inR s1) (hs2 : inR s2) {res : ((MI) ⊕ (MI)) ⊕ (Int × Int × MI)} (h : f_M_termOf_b58in5 F x2 x3 x4 s1 s2 I J = some res) (kE : ∀ e : (MI) ⊕ (MI), res = .inl e → ((fun w : (MI) ⊕ (MI) => (match w with | .inl e0 => ((True) → Zt l g φ mu_M_termOf 97 [some (vR g 296), none, none, none, none, none, none, none] [] (z, e0, J, G)) | .inr o0 => ((True) → Zt l g φ mu_M_termOf 165 [some (vR g 296), none, none, none, none, none, none, none] [] (z, o0, J, G)))) e)) (kS : ∀ s : Int × Int × MI, res = .inr s → (inR s.1 ∧ inR s.2.1) → Zt l g φ mu_M_termOf 5 [some (vR g 296), none, some (vI x2), some (vI s.1), some (vI s.2.1), none, none, none] [] (z, s.2.2, J, G)) : Zt l g φ mu_M_termOf 58 [some (vR g 296), none, some (vI x2), some (vI x3), some (vI x4), none, none, none] [vI s2, vI s1, vR g 330] (z, I, J, G) := by
  obtain ⟨hg16, h⟩ := guardE h
  refine y_iast dX11_termOf_58 sh_330 (by decide) (Nat.le_trans (by decide) hz) hs1 hg16 hs2 ?_
  refine z_iinc (L' := [some (vR g 296), none, some (vI x2), some (vI (w32 (x3 + 1))), some (vI x4), none, none, none]) dX11_termOf_59 rfl rfl rfl rfl ?_
  refine z_goto (tgt := 159) dX11_termOf_62 (by decide) ?_
  refine z_iinc (L' := [some (vR g 296), none, some (vI x2), some (vI (w32 (x3 + 1))), some (vI (w32 (x4 + 1))), none, none, none]) dX11_termOf_159 rfl rfl rfl rfl ?_
  refine z_goto (tgt := 5) dX11_termOf_162 (by decide) ?_
  exact kS _ (someE h).symm ⟨(inR_w32 _), (inR_w32 _)⟩
set_option maxHeartbeats 1000000 in
theorem t_M_termOf_L5 {l : Launch} {g : GX} {φ : CX} {z : Nat} {G : Nat → Nat → Nat} {F : Nat} (hb : cb φ = z) (hz : 353 ≤ z) (hG : lyM G) {x2 : Int} {x3 : Int} {x4 : Int} {I J : Nat → Nat → Int} (hx2 : inR x2) (hx3 : inR x3) (hx4 : inR x4) {res : ((MI) ⊕ (MI)) ⊕ (Int × Int × MI)} (h : f_M_termOf_L5 F x2 x3 x4 I J = some res) (kE : ∀ e : (MI) ⊕ (MI), res = .inl e → ((fun w : (MI) ⊕ (MI) => (match w with | .inl e0 => ((True) → Zt l g φ mu_M_termOf 97 [some (vR g 296), none, none, none, none, none, none, none] [] (z, e0, J, G)) | .inr o0 => ((True) → Zt l g φ mu_M_termOf 165 [some (vR g 296), none, none, none, none, none, none, none] [] (z, o0, J, G)))) e)) (kS : ∀ s : Int × Int × MI, res = .inr s → (inR s.1 ∧ inR s.2.1) → Zt l g φ mu_M_termOf 5 [some (vR g 296), none, some (vI x2), some (vI s.1), some (vI s.2.1), none, none, none] [] (z, s.2.2, J, G)) : Zt l g φ mu_M_termOf 5 [some (vR g 296), none, some (vI x2), some (vI x3), some (vI x4), none, none, none] [] (z, I, J, G) := by
  refine z_iload dX11_termOf_5 rfl ?_
  refine z_iload_n dX11_termOf_7 rfl ?_
  refine z_icmp_ge (tgt := 165) dX11_termOf_8 (by decide) hx4 hx2 (fun hc1 => ?_) (fun hc1 => ?_)
  · replace h := ifT hc1 h
    refine z_weak (L' := [some (vR g 296), none, none, none, none, none, none, none]) (lsS (lsN (lsN (lsN (lsN (lsN (lsN (lsN ls0)))))))) ?_
    exact kE _ (someE h).symm trivial
  replace h := ifF hc1 h
  refine z_aload_n dX11_termOf_11 rfl ?_
  refine y_getR dX11_termOf_12 cl11 sh_296 (by decide) (Nat.le_trans (by decide) hz) 45 rfl rfl (fl_M_107) (ly_296_45 hG) (by decide) ?_
  refine z_iload dX11_termOf_15 rfl ?_
  obtain ⟨hg2, h⟩ := guardE h
  refine z_nm (fun hN3 => ?_)
  refine y_iald dX11_termOf_17 sh_326 (by decide) (Nat.le_trans (by decide) hz) hx4 hg2 ?_
  refine z_istore (L' := [some (vR g 296), none, some (vI x2), some (vI x3), some (vI x4), some (vI (I 326 (x4).toNat)), none, none]) dX11_termOf_18 rfl rfl rfl ?_
  refine z_iload dX11_termOf_20 rfl ?_
  refine z_iconst dX11_termOf_22 ?_
  refine z_icmp_ge (tgt := 65) dX11_termOf_23 (by decide) (hN3.1 326 (x4).toNat) (inRd (x := 2) (by decide)) (fun hc4 => ?_) (fun hc4 => ?_)
  · replace h := ifT hc4 h
    refine z_iinc (L' := [some (vR g 296), none, some (vI x2), some (vI (w32 (x3 + (-1)))), some (vI x4), some (vI (I 326 (x4).toNat)), none, none]) dX11_termOf_65 rfl rfl rfl rfl ?_
    refine z_aload_n dX11_termOf_68 rfl ?_
    refine y_getR dX11_termOf_69 cl11 sh_296 (by decide) (Nat.le_trans (by decide) hz) 50 rfl rfl (fl_M_119) (ly_296_50 hG) (by decide) ?_
    refine z_iload_n dX11_termOf_72 rfl ?_
    refine z_iconst dX11_termOf_73 ?_
    refine z_isub dX11_termOf_74 ?_
    obtain ⟨hg5, h⟩ := guardE h
    refine y_iald dX11_termOf_75 sh_330 (by decide) (Nat.le_trans (by decide) hz) (inR_w32 _) hg5 ?_
    refine z_istore (L' := [some (vR g 296), none, some (vI x2), some (vI (w32 (x3 + (-1)))), some (vI x4), some (vI (I 326 (x4).toNat)), some (vI (I 330 ((w32 ((w32 (x3 + (-1))) - 1))).toNat)), none]) dX11_termOf_76 rfl rfl rfl ?_
    refine z_aload_n dX11_termOf_78 rfl ?_
    refine y_getR dX11_termOf_79 cl11 sh_296 (by decide) (Nat.le_trans (by decide) hz) 50 rfl rfl (fl_M_119) (ly_296_50 hG) (by decide) ?_
    refine z_iload_n dX11_termOf_82 rfl ?_
    obtain ⟨hg6, h⟩ := guardE h
    refine y_iald dX11_termOf_83 sh_330 (by decide) (Nat.le_trans (by decide) hz) (inR_w32 _) hg6 ?_
    refine z_istore (L' := [some (vR g 296), none, some (vI x2), some (vI (w32 (x3 + (-1)))), some (vI x4), some (vI (I 326 (x4).toNat)), some (vI (I 330 ((w32 ((w32 (x3 + (-1))) - 1))).toNat)), some (vI (I 330 ((w32 (x3 + (-1)))).toNat))]) dX11_termOf_84 rfl rfl rfl ?_
    refine z_iload dX11_termOf_86 rfl ?_
    refine z_iconst dX11_termOf_88 ?_
    refine z_icmp_ne (tgt := 104) dX11_termOf_89 (by decide) (hN3.1 326 (x4).toNat) (inRd (x := 5) (by decide)) (fun hc7 => ?_) (fun hc7 => ?_)
    · replace h := ifT hc7 h
      exact t_M_termOf_b104in5 hb hz hG hx2 (inR_w32 _) hx4 (hN3.1 326 (x4).toNat) (hN3.1 330 ((w32 ((w32 (x3 + (-1))) - 1))).toNat) (hN3.1 330 ((w32 (x3 + (-1)))).toNat) h kE kS
    replace h := ifF (fun q => q hc7) h
    refine z_iload dX11_termOf_92 rfl ?_
    refine z_if_ne (tgt := 104) dX11_termOf_94 (by decide) (hN3.1 330 ((w32 (x3 + (-1)))).toNat) (fun hc13 => ?_) (fun hc13 => ?_)
    · replace h := ifT hc13 h
      exact t_M_termOf_b104in5 hb hz hG hx2 (inR_w32 _) hx4 (hN3.1 326 (x4).toNat) (hN3.1 330 ((w32 ((w32 (x3 + (-1))) - 1))).toNat) (hN3.1 330 ((w32 (x3 + (-1)))).toNat) h kE kS
    replace h := ifF (fun q => q hc13) h
    refine z_weak (L' := [some (vR g 296), none, none, none, none, none, none, none]) (lsS (lsN (lsN (lsN (lsN (lsN (lsN (lsN ls0)))))))) ?_
    exact kE _ (someE h).symm trivial
  replace h := ifF hc4 h
  refine z_aload_n dX11_termOf_26 rfl ?_
  refine y_getR dX11_termOf_27 cl11 sh_296 (by decide) (Nat.le_trans (by decide) hz) 50 rfl rfl (fl_M_119) (ly_296_50 hG) (by decide) ?_
  refine z_iload_n dX11_termOf_30 rfl ?_
  refine z_iload dX11_termOf_31 rfl ?_
  refine z_if_ne (tgt := 46) dX11_termOf_33 (by decide) (hN3.1 326 (x4).toNat) (fun hc14 => ?_) (fun hc14 => ?_)
  · replace h := ifT hc14 h
    refine z_aload_n dX11_termOf_46 rfl ?_
    refine y_getR dX11_termOf_47 cl11 sh_296 (by decide) (Nat.le_trans (by decide) hz) 49 rfl rfl (fl_M_116) (ly_296_49 hG) (by decide) ?_
    refine z_aload_n dX11_termOf_50 rfl ?_
    refine y_getR dX11_termOf_51 cl11 sh_296 (by decide) (Nat.le_trans (by decide) hz) 46 rfl rfl (fl_M_110) (ly_296_46 hG) (by decide) ?_
    refine z_iload dX11_termOf_54 rfl ?_
    refine y_iald dX11_termOf_56 sh_327 (by decide) (Nat.le_trans (by decide) hz) hx4 hg2 ?_
    obtain ⟨hg15, h⟩ := guardE h
    refine y_iald dX11_termOf_57 sh_329 (by decide) (Nat.le_trans (by decide) hz) (hN3.1 327 (x4).toNat) hg15 ?_
    refine z_weak (L' := [some (vR g 296), none, some (vI x2), some (vI x3), some (vI x4), none, none, none]) (lsS (lsN (lsS (lsS (lsS (lsN (lsN (lsN ls0)))))))) ?_
    exact t_M_termOf_b58in5 hb hz hG hx2 hx3 hx4 hx3 (hN3.1 329 ((I 327 (x4).toNat)).toNat) h kE kS
  replace h := ifF (fun q => q hc14) h
  refine z_aload_n dX11_termOf_36 rfl ?_
  refine y_getR dX11_termOf_37 cl11 sh_296 (by decide) (Nat.le_trans (by decide) hz) 46 rfl rfl (fl_M_110) (ly_296_46 hG) (by decide) ?_
  refine z_iload dX11_termOf_40 rfl ?_
  refine y_iald dX11_termOf_42 sh_327 (by decide) (Nat.le_trans (by decide) hz) hx4 hg2 ?_
  refine z_goto (tgt := 58) dX11_termOf_43 (by decide) ?_
  refine z_weak (L' := [some (vR g 296), none, some (vI x2), some (vI x3), some (vI x4), none, none, none]) (lsS (lsN (lsS (lsS (lsS (lsN (lsN (lsN ls0)))))))) ?_
  exact t_M_termOf_b58in5 hb hz hG hx2 hx3 hx4 hx3 (hN3.1 327 (x4).toNat) h kE kS
theorem l_M_termOf_L5 {l : Launch} {g : GX} {φ : CX} {z : Nat} {G : Nat → Nat → Nat} {F : Nat} (hb : cb φ = z) (hz : 353 ≤ z) (hG : lyM G) {x2 : Int} {J : Nat → Nat → Int} (hx2 : inR x2) (n : Nat) (s : Int × Int × MI) (e : (MI) ⊕ (MI)) (h : iter (fun s : Int × Int × MI => f_M_termOf_L5 F x2 s.1 s.2.1 s.2.2 J) n s = some e) (hs : inR s.1 ∧ inR s.2.1) (k : ((fun w : (MI) ⊕ (MI) => (match w with | .inl e0 => ((True) → Zt l g φ mu_M_termOf 97 [some (vR g 296), none, none, none, none, none, none, none] [] (z, e0, J, G)) | .inr o0 => ((True) → Zt l g φ mu_M_termOf 165 [some (vR g 296), none, none, none, none, none, none, none] [] (z, o0, J, G)))) e)) : Zt l g φ mu_M_termOf 5 [some (vR g 296), none, some (vI x2), some (vI s.1), some (vI s.2.1), none, none, none] [] (z, s.2.2, J, G) := by
  refine iter_ind (Z := fun s : Int × Int × MI => Zt l g φ mu_M_termOf 5 [some (vR g 296), none, some (vI x2), some (vI s.1), some (vI s.2.1), none, none, none] [] (z, s.2.2, J, G)) (ZE := fun e : (MI) ⊕ (MI) => ((fun w : (MI) ⊕ (MI) => (match w with | .inl e0 => ((True) → Zt l g φ mu_M_termOf 97 [some (vR g 296), none, none, none, none, none, none, none] [] (z, e0, J, G)) | .inr o0 => ((True) → Zt l g φ mu_M_termOf 165 [some (vR g 296), none, none, none, none, none, none, none] [] (z, o0, J, G)))) e)) (Rg := fun s : Int × Int × MI => inR s.1 ∧ inR s.2.1) ?_ n s e h hs k
  intro s r hr hst kE kS
  exact t_M_termOf_L5 hb hz hG hx2 hr.1 hr.2 hst kE kS
set_option maxHeartbeats 1000000 in
theorem s_M_termOf {l : Launch} {g : GX} {z : Nat} {G : Nat → Nat → Nat} {F : Nat} (hz : 353 ≤ z) (hG : lyM G) {x1 : Int} {x2 : Int} {I J : Nat → Nat → Int} (hx1 : inR x1) (hx2 : inR x2) {res : Int × MI} (h : f_M_termOf F x1 x2 I J = some res) : Spec l g 0 yX11_termOf cX11_termOf 8 (some .int) [vR g 296, vI x1, vI x2] (z, I, J, G) (some (vI res.1)) (inR res.1) (z, res.2, J, G) := by
  refine spec_of (μ := mu_M_termOf) (k := 5) (L0 := [some (vR g 296), some (vI x1), some (vI x2), none, none, none, none, none]) rfl mw_M_termOf rfl rfl (Nat.le_refl _) (fun φ hb hE => ?_)
  refine z_iconst dX11_termOf_0 ?_
  refine z_istore_n (L' := [some (vR g 296), some (vI x1), some (vI x2), some (vI 0), none, none, none, none]) dX11_termOf_1 rfl rfl rfl ?_
  refine z_iload_n dX11_termOf_2 rfl ?_
  refine z_istore (L' := [some (vR g 296), some (vI x1), some (vI x2), some (vI 0), some (vI x1), none, none, none]) dX11_termOf_3 rfl rfl rfl ?_
  refine z_weak (L' := [some (vR g 296), none, some (vI x2), some (vI 0), some (vI x1), none, none, none]) (lsS (lsN (lsS (lsS (lsS (lsN (lsN (lsN ls0)))))))) ?_
  obtain ⟨e17, h18, h⟩ := bindE h
  rcases e17 with e19 | o20
  · refine l_M_termOf_L5 hb hz hG hx2 _ _ _ h18 ⟨(inRd (x := 0) (by decide)), hx1⟩ ?_
    refine fun h21 => ?_
    refine z_aload_n dX11_termOf_97 rfl ?_
    refine z_iconst dX11_termOf_98 ?_
    refine y_putI dX11_termOf_99 cl11 sh_296 (by decide) (Nat.le_trans (by decide) hz) 51 rfl rfl rfl (fl_M_338) (nb_of b01_1) rfl (inRd (x := 1) (by decide)) ?_
    refine z_iconst dX11_termOf_102 ?_
    obtain rfl := someE h
    exact z_iret dX11_termOf_103 hE (inRd (x := 0) (by decide)) rfl
  refine l_M_termOf_L5 hb hz hG hx2 _ _ _ h18 ⟨(inRd (x := 0) (by decide)), hx1⟩ ?_
  refine fun h22 => ?_
  refine z_aload_n dX11_termOf_165 rfl ?_
  refine y_getR dX11_termOf_166 cl11 sh_296 (by decide) (Nat.le_trans (by decide) hz) 50 rfl rfl (fl_M_119) (ly_296_50 hG) (by decide) ?_
  refine z_iconst dX11_termOf_169 ?_
  refine z_nm (fun hN23 => ?_)
  refine y_iald dX11_termOf_170 sh_330 (by decide) (Nat.le_trans (by decide) hz) (inRd (x := 0) (by decide)) (by decide) ?_
  obtain rfl := someE h
  exact z_iret dX11_termOf_171 hE (hN23.1 330 0) rfl
set_option maxHeartbeats 1000000 in
theorem s_M_in {l : Launch} {g : GX} {z : Nat} {G : Nat → Nat → Nat} {F : Nat} (hz : 353 ≤ z) (hG : lyM G) {x0 : Int} {x1 : Int} {x2 : Int} {I J : Nat → Nat → Int} (hx0 : inR x0) (hx1 : inR x1) (hx2 : inR x2) {res : Int} (h : f_M_in F x0 x1 x2 I J = some res) : Spec l g 0 yX11_in cX11_in 3 (some .boolean) [vI x0, vI x1, vI x2] (z, I, J, G) (some (vI res)) (res = 0 ∨ res = 1) (z, I, J, G) := by
  refine spec_of (μ := mu_M_in) (k := 0) (L0 := [some (vI x0), some (vI x1), some (vI x2)]) rfl mw_M_in rfl rfl (Nat.le_refl _) (fun φ hb hE => ?_)
  refine z_iload_n dX11_in_0 rfl ?_
  refine z_iload_n dX11_in_1 rfl ?_
  refine z_icmp_lt (tgt := 14) dX11_in_2 (by decide) hx0 hx1 (fun hc1 => ?_) (fun hc1 => ?_)
  · replace h := ifT hc1 h
    refine z_iconst dX11_in_14 ?_
    obtain rfl := someE h
    exact z_zret dX11_in_15 hE b01_0 b01_0 rfl
  replace h := ifF hc1 h
  refine z_iload_n dX11_in_5 rfl ?_
  refine z_iload_n dX11_in_6 rfl ?_
  refine z_icmp_gt (tgt := 14) dX11_in_7 (by decide) hx0 hx2 (fun hc2 => ?_) (fun hc2 => ?_)
  · replace h := ifT hc2 h
    refine z_iconst dX11_in_14 ?_
    obtain rfl := someE h
    exact z_zret dX11_in_15 hE b01_0 b01_0 rfl
  replace h := ifF hc2 h
  refine z_iconst dX11_in_10 ?_
  refine z_goto (tgt := 15) dX11_in_11 (by decide) ?_
  obtain rfl := someE h
  exact z_zret dX11_in_15 hE b01_1 b01_1 rfl
set_option maxHeartbeats 1000000 in
theorem t_M_counts_L2 {l : Launch} {g : GX} {φ : CX} {z : Nat} {G : Nat → Nat → Nat} {F : Nat} (hb : cb φ = z) (hz : 353 ≤ z) (hG : lyM G) {x1 : Int} {I J : Nat → Nat → Int} (hx1 : inR x1) {res : (MI) ⊕ (Int × MI)} (h : f_M_counts_L2 F x1 I J = some res) (kE : ∀ e : MI, res = .inl e → ((True) → Zt l g φ mu_M_counts 21 [some (vR g 296), none] [] (z, e, J, G))) (kS : ∀ s : Int × MI, res = .inr s → (inR s.1) → Zt l g φ mu_M_counts 2 [some (vR g 296), some (vI s.1)] [] (z, s.2, J, G)) : Zt l g φ mu_M_counts 2 [some (vR g 296), some (vI x1)] [] (z, I, J, G) := by
  refine z_iload_n dX11_counts_2 rfl ?_
  refine z_bipush dX11_counts_3 (by decide +kernel) ?_
  refine z_icmp_ge (tgt := 21) dX11_counts_5 (by decide) hx1 (inRd (x := 96) (by decide)) (fun hc1 => ?_) (fun hc1 => ?_)
  · replace h := ifT hc1 h
    refine z_weak (L' := [some (vR g 296), none]) (lsS (lsN ls0)) ?_
    exact kE _ (someE h).symm trivial
  replace h := ifF hc1 h
  refine z_aload_n dX11_counts_8 rfl ?_
  refine y_getR dX11_counts_9 cl11 sh_296 (by decide) (Nat.le_trans (by decide) hz) 54 rfl rfl (fl_M_128) (ly_296_54 hG) (by decide) ?_
  refine z_iload_n dX11_counts_12 rfl ?_
  refine z_iconst dX11_counts_13 ?_
  obtain ⟨hg2, h⟩ := guardE h
  refine y_iast dX11_counts_14 sh_333 (by decide) (Nat.le_trans (by decide) hz) hx1 hg2 (inRd (x := 0) (by decide)) ?_
  refine z_iinc (L' := [some (vR g 296), some (vI (w32 (x1 + 1)))]) dX11_counts_15 rfl rfl rfl rfl ?_
  refine z_goto (tgt := 2) dX11_counts_18 (by decide) ?_
  exact kS _ (someE h).symm (inR_w32 _)
theorem l_M_counts_L2 {l : Launch} {g : GX} {φ : CX} {z : Nat} {G : Nat → Nat → Nat} {F : Nat} (hb : cb φ = z) (hz : 353 ≤ z) (hG : lyM G) {J : Nat → Nat → Int} (n : Nat) (s : Int × MI) (e : MI) (h : iter (fun s : Int × MI => f_M_counts_L2 F s.1 s.2 J) n s = some e) (hs : inR s.1) (k : ((True) → Zt l g φ mu_M_counts 21 [some (vR g 296), none] [] (z, e, J, G))) : Zt l g φ mu_M_counts 2 [some (vR g 296), some (vI s.1)] [] (z, s.2, J, G) := by
  refine iter_ind (Z := fun s : Int × MI => Zt l g φ mu_M_counts 2 [some (vR g 296), some (vI s.1)] [] (z, s.2, J, G)) (ZE := fun e : MI => ((True) → Zt l g φ mu_M_counts 21 [some (vR g 296), none] [] (z, e, J, G))) (Rg := fun s : Int × MI => inR s.1) ?_ n s e h hs k
  intro s r hr hst kE kS
  exact t_M_counts_L2 hb hz hG hr hst kE kS
set_option maxHeartbeats 1000000 in
theorem t_M_counts_L23 {l : Launch} {g : GX} {φ : CX} {z : Nat} {G : Nat → Nat → Nat} {F : Nat} (hb : cb φ = z) (hz : 353 ≤ z) (hG : lyM G) {x1 : Int} {I J : Nat → Nat → Int} (hx1 : inR x1) {res : (MI) ⊕ (Int × MI)} (h : f_M_counts_L23 F x1 I J = some res) (kE : ∀ e : MI, res = .inl e → ((True) → Zt l g φ mu_M_counts 59 [none, none] [] (z, e, J, G))) (kS : ∀ s : Int × MI, res = .inr s → (inR s.1) → Zt l g φ mu_M_counts 23 [some (vR g 296), some (vI s.1)] [] (z, s.2, J, G)) : Zt l g φ mu_M_counts 23 [some (vR g 296), some (vI x1)] [] (z, I, J, G) := by
  refine z_iload_n dX11_counts_23 rfl ?_
  refine z_bipush dX11_counts_24 (by decide +kernel) ?_
  refine z_icmp_ge (tgt := 59) dX11_counts_26 (by decide) hx1 (inRd (x := 72) (by decide)) (fun hc6 => ?_) (fun hc6 => ?_)
  · replace h := ifT hc6 h
    refine z_weak (L' := [none, none]) (lsN (lsN ls0)) ?_
    exact kE _ (someE h).symm trivial
  replace h := ifF hc6 h
  refine z_aload_n dX11_counts_29 rfl ?_
  refine y_getR dX11_counts_30 cl11 sh_296 (by decide) (Nat.le_trans (by decide) hz) 53 rfl rfl (fl_M_125) (ly_296_53 hG) (by decide) ?_
  refine z_iload_n dX11_counts_33 rfl ?_
  obtain ⟨hg7, h⟩ := guardE h
  refine z_nm (fun hN8 => ?_)
  refine y_iald dX11_counts_34 sh_332 (by decide) (Nat.le_trans (by decide) hz) hx1 hg7 ?_
  refine z_if_lt (tgt := 53) dX11_counts_35 (by decide) (hN8.1 332 (x1).toNat) (fun hc9 => ?_) (fun hc9 => ?_)
  · replace h := ifT hc9 h
    refine z_iinc (L' := [some (vR g 296), some (vI (w32 (x1 + 1)))]) dX11_counts_53 rfl rfl rfl rfl ?_
    refine z_goto (tgt := 23) dX11_counts_56 (by decide) ?_
    exact kS _ (someE h).symm (inR_w32 _)
  replace h := ifF hc9 h
  refine z_aload_n dX11_counts_38 rfl ?_
  refine y_getR dX11_counts_39 cl11 sh_296 (by decide) (Nat.le_trans (by decide) hz) 54 rfl rfl (fl_M_128) (ly_296_54 hG) (by decide) ?_
  refine z_aload_n dX11_counts_42 rfl ?_
  refine y_getR dX11_counts_43 cl11 sh_296 (by decide) (Nat.le_trans (by decide) hz) 53 rfl rfl (fl_M_125) (ly_296_53 hG) (by decide) ?_
  refine z_iload_n dX11_counts_46 rfl ?_
  refine y_iald dX11_counts_47 sh_332 (by decide) (Nat.le_trans (by decide) hz) hx1 hg7 ?_
  refine z_dup2 dX11_counts_48 rfl rfl ?_
  obtain ⟨hg10, h⟩ := guardE h
  refine y_iald dX11_counts_49 sh_333 (by decide) (Nat.le_trans (by decide) hz) (hN8.1 332 (x1).toNat) hg10 ?_
  refine z_iconst dX11_counts_50 ?_
  refine z_iadd dX11_counts_51 ?_
  refine y_iast dX11_counts_52 sh_333 (by decide) (Nat.le_trans (by decide) hz) (hN8.1 332 (x1).toNat) hg10 (inR_w32 _) ?_
  refine z_iinc (L' := [some (vR g 296), some (vI (w32 (x1 + 1)))]) dX11_counts_53 rfl rfl rfl rfl ?_
  refine z_goto (tgt := 23) dX11_counts_56 (by decide) ?_
  exact kS _ (someE h).symm (inR_w32 _)
theorem l_M_counts_L23 {l : Launch} {g : GX} {φ : CX} {z : Nat} {G : Nat → Nat → Nat} {F : Nat} (hb : cb φ = z) (hz : 353 ≤ z) (hG : lyM G) {J : Nat → Nat → Int} (n : Nat) (s : Int × MI) (e : MI) (h : iter (fun s : Int × MI => f_M_counts_L23 F s.1 s.2 J) n s = some e) (hs : inR s.1) (k : ((True) → Zt l g φ mu_M_counts 59 [none, none] [] (z, e, J, G))) : Zt l g φ mu_M_counts 23 [some (vR g 296), some (vI s.1)] [] (z, s.2, J, G) := by
  refine iter_ind (Z := fun s : Int × MI => Zt l g φ mu_M_counts 23 [some (vR g 296), some (vI s.1)] [] (z, s.2, J, G)) (ZE := fun e : MI => ((True) → Zt l g φ mu_M_counts 59 [none, none] [] (z, e, J, G))) (Rg := fun s : Int × MI => inR s.1) ?_ n s e h hs k
  intro s r hr hst kE kS
  exact t_M_counts_L23 hb hz hG hr hst kE kS
set_option maxHeartbeats 1000000 in
theorem s_M_counts {l : Launch} {g : GX} {z : Nat} {G : Nat → Nat → Nat} {F : Nat} (hz : 353 ≤ z) (hG : lyM G) {I J : Nat → Nat → Int} {res : MI} (h : f_M_counts F I J = some res) : Spec l g 0 yX11_counts cX11_counts 2 none [vR g 296] (z, I, J, G) none True (z, res, J, G) := by
  refine spec_of (μ := mu_M_counts) (k := 1) (L0 := [some (vR g 296), none]) rfl mw_M_counts rfl rfl (Nat.le_refl _) (fun φ hb hE => ?_)
  refine z_iconst dX11_counts_0 ?_
  refine z_istore_n (L' := [some (vR g 296), some (vI 0)]) dX11_counts_1 rfl rfl rfl ?_
  obtain ⟨e3, h4, h⟩ := bindE h
  refine l_M_counts_L2 hb hz hG  _ _ _ h4 (inRd (x := 0) (by decide)) ?_
  refine fun h5 => ?_
  refine z_iconst dX11_counts_21 ?_
  refine z_istore_n (L' := [some (vR g 296), some (vI 0)]) dX11_counts_22 rfl rfl rfl ?_
  obtain ⟨e11, h12, h⟩ := bindE h
  refine l_M_counts_L23 hb hz hG  _ _ _ h12 (inRd (x := 0) (by decide)) ?_
  refine fun h13 => ?_
  obtain rfl := someE h
  exact z_vret dX11_counts_59 hE trivial rfl
set_option maxHeartbeats 1000000 in
theorem t_M_copies_L2 {l : Launch} {g : GX} {φ : CX} {z : Nat} {G : Nat → Nat → Nat} {F : Nat} (hb : cb φ = z) (hz : 353 ≤ z) (hG : lyM G) {x1 : Int} {I J : Nat → Nat → Int} (hx1 : inR x1) {res : (MI) ⊕ (Int × MI)} (h : f_M_copies_L2 F x1 I J = some res) (kE : ∀ e : MI, res = .inl e → ((True) → Zt l g φ mu_M_copies 27 [some (vR g 296), none] [] (z, e, J, G))) (kS : ∀ s : Int × MI, res = .inr s → (inR s.1) → Zt l g φ mu_M_copies 2 [some (vR g 296), some (vI s.1)] [] (z, s.2, J, G)) : Zt l g φ mu_M_copies 2 [some (vR g 296), some (vI x1)] [] (z, I, J, G) := by
  refine z_iload_n dX11_copies_2 rfl ?_
  refine z_sipush dX11_copies_3 (by decide +kernel) ?_
  refine z_icmp_ge (tgt := 27) dX11_copies_6 (by decide) hx1 (inRd (x := 250) (by decide)) (fun hc1 => ?_) (fun hc1 => ?_)
  · replace h := ifT hc1 h
    refine z_weak (L' := [some (vR g 296), none]) (lsS (lsN ls0)) ?_
    exact kE _ (someE h).symm trivial
  replace h := ifF hc1 h
  refine z_aload_n dX11_copies_9 rfl ?_
  refine y_getR dX11_copies_10 cl11 sh_296 (by decide) (Nat.le_trans (by decide) hz) 53 rfl rfl (fl_M_125) (ly_296_53 hG) (by decide) ?_
  refine z_iload_n dX11_copies_13 rfl ?_
  refine z_aload_n dX11_copies_14 rfl ?_
  refine y_getR dX11_copies_15 cl11 sh_296 (by decide) (Nat.le_trans (by decide) hz) 52 rfl rfl (fl_M_122) (ly_296_52 hG) (by decide) ?_
  refine z_iload_n dX11_copies_18 rfl ?_
  obtain ⟨hg2, h⟩ := guardE h
  refine z_nm (fun hN3 => ?_)
  refine y_iald dX11_copies_19 sh_331 (by decide) (Nat.le_trans (by decide) hz) hx1 hg2 ?_
  refine y_iast dX11_copies_20 sh_332 (by decide) (Nat.le_trans (by decide) hz) hx1 hg2 (hN3.1 331 (x1).toNat) ?_
  refine z_iinc (L' := [some (vR g 296), some (vI (w32 (x1 + 1)))]) dX11_copies_21 rfl rfl rfl rfl ?_
  refine z_goto (tgt := 2) dX11_copies_24 (by decide) ?_
  exact kS _ (someE h).symm (inR_w32 _)
theorem l_M_copies_L2 {l : Launch} {g : GX} {φ : CX} {z : Nat} {G : Nat → Nat → Nat} {F : Nat} (hb : cb φ = z) (hz : 353 ≤ z) (hG : lyM G) {J : Nat → Nat → Int} (n : Nat) (s : Int × MI) (e : MI) (h : iter (fun s : Int × MI => f_M_copies_L2 F s.1 s.2 J) n s = some e) (hs : inR s.1) (k : ((True) → Zt l g φ mu_M_copies 27 [some (vR g 296), none] [] (z, e, J, G))) : Zt l g φ mu_M_copies 2 [some (vR g 296), some (vI s.1)] [] (z, s.2, J, G) := by
  refine iter_ind (Z := fun s : Int × MI => Zt l g φ mu_M_copies 2 [some (vR g 296), some (vI s.1)] [] (z, s.2, J, G)) (ZE := fun e : MI => ((True) → Zt l g φ mu_M_copies 27 [some (vR g 296), none] [] (z, e, J, G))) (Rg := fun s : Int × MI => inR s.1) ?_ n s e h hs k
  intro s r hr hst kE kS
  exact t_M_copies_L2 hb hz hG hr hst kE kS
set_option maxHeartbeats 1000000 in
theorem s_M_copies {l : Launch} {g : GX} {z : Nat} {G : Nat → Nat → Nat} {F : Nat} (hz : 353 ≤ z) (hG : lyM G) {I J : Nat → Nat → Int} {res : MI} (h : f_M_copies F I J = some res) : Spec l g 1 yX11_copies cX11_copies 2 none [vR g 296] (z, I, J, G) none True (z, res, J, G) := by
  refine spec_of (μ := mu_M_copies) (k := 1) (L0 := [some (vR g 296), none]) rfl mw_M_copies rfl rfl (Nat.le_refl _) (fun φ hb hE => ?_)
  refine z_iconst dX11_copies_0 ?_
  refine z_istore_n (L' := [some (vR g 296), some (vI 0)]) dX11_copies_1 rfl rfl rfl ?_
  obtain ⟨e4, h5, h⟩ := bindE h
  refine l_M_copies_L2 hb hz hG  _ _ _ h5 (inRd (x := 0) (by decide)) ?_
  refine fun h6 => ?_
  refine z_aload_n dX11_copies_27 rfl ?_
  obtain ⟨q7, hq8, h⟩ := bindE h
  refine z_callV (As := []) (rest := []) (s_M_counts hz hG  hq8) dX11_copies_28 mw_M_counts cl11 sh_296 (by decide) (Nat.le_trans (by decide) hz) ml_M_342 im_M_counts se_M_counts rfl rfl rfl rfl (Nat.le_refl _) (Nat.le_of_eq hb.symm) (fun hp9 => ?_)
  show Zt _ _ _ _ 31 _ [] (z, q7, J, G)
  obtain rfl := someE h
  exact z_vret dX11_copies_31 hE trivial rfl
set_option maxHeartbeats 1000000 in
theorem s_M_isCell {l : Launch} {g : GX} {z : Nat} {G : Nat → Nat → Nat} {F : Nat} (hz : 353 ≤ z) (hG : lyM G) {x1 : Int} {x2 : Int} {I J : Nat → Nat → Int} (hx1 : inR x1) (hx2 : inR x2) {res : Int} (h : f_M_isCell F x1 x2 I J = some res) : Spec l g 1 yX11_isCell cX11_isCell 3 (some .boolean) [vR g 296, vI x1, vI x2] (z, I, J, G) (some (vI res)) (res = 0 ∨ res = 1) (z, I, J, G) := by
  refine spec_of (μ := mu_M_isCell) (k := 0) (L0 := [some (vR g 296), some (vI x1), some (vI x2)]) rfl mw_M_isCell rfl rfl (Nat.le_refl _) (fun φ hb hE => ?_)
  refine z_iload_n dX11_isCell_0 rfl ?_
  refine z_iconst dX11_isCell_1 ?_
  refine z_aload_n dX11_isCell_2 rfl ?_
  refine y_getR dX11_isCell_3 cl11 sh_296 (by decide) (Nat.le_trans (by decide) hz) 22 rfl rfl (fl_M_43) (ly_296_22 hG) (by decide) ?_
  refine z_aload_n dX11_isCell_6 rfl ?_
  refine z_nm (fun hN1 => ?_)
  refine y_getI dX11_isCell_7 cl11 sh_296 (by decide) (Nat.le_trans (by decide) hz) 18 rfl rfl (fl_M_269) ?_
  obtain ⟨hg2, h⟩ := guardE h
  refine y_iald dX11_isCell_10 sh_305 (by decide) (Nat.le_trans (by decide) hz) (hN1.1 296 18) hg2 ?_
  refine z_iconst dX11_isCell_11 ?_
  refine z_isub dX11_isCell_12 ?_
  obtain ⟨q3, hq4, h⟩ := bindE h
  refine z_callS (As := [vI x1, vI 0, vI (w32 ((I 305 ((I 296 18)).toNat) - 1))]) (rest := []) (s_M_in hz hG hx1 (inRd (x := 0) (by decide)) (inR_w32 _) hq4) dX11_isCell_13 mw_M_in ml_M_345 st_M_in rfl rfl rfl rfl (Nat.le_refl _) (Nat.le_of_eq hb.symm) (fun hp5 => ?_)
  show Zt _ _ _ _ 16 _ [vI q3] (z, I, J, G)
  refine z_if_eq (tgt := 42) dX11_isCell_16 (by decide) (inR_bool hp5) (fun hc6 => ?_) (fun hc6 => ?_)
  · replace h := ifT hc6 h
    refine z_iconst dX11_isCell_42 ?_
    obtain rfl := someE h
    exact z_zret dX11_isCell_43 hE b01_0 b01_0 rfl
  replace h := ifF hc6 h
  refine z_iload_n dX11_isCell_19 rfl ?_
  refine z_iconst dX11_isCell_20 ?_
  refine z_aload_n dX11_isCell_21 rfl ?_
  refine y_getR dX11_isCell_22 cl11 sh_296 (by decide) (Nat.le_trans (by decide) hz) 23 rfl rfl (fl_M_46) (ly_296_23 hG) (by decide) ?_
  refine z_aload_n dX11_isCell_25 rfl ?_
  refine y_getI dX11_isCell_26 cl11 sh_296 (by decide) (Nat.le_trans (by decide) hz) 18 rfl rfl (fl_M_269) ?_
  refine y_iald dX11_isCell_29 sh_306 (by decide) (Nat.le_trans (by decide) hz) (hN1.1 296 18) hg2 ?_
  refine z_iconst dX11_isCell_30 ?_
  refine z_isub dX11_isCell_31 ?_
  obtain ⟨q7, hq8, h⟩ := bindE h
  refine z_callS (As := [vI x2, vI 0, vI (w32 ((I 306 ((I 296 18)).toNat) - 1))]) (rest := []) (s_M_in hz hG hx2 (inRd (x := 0) (by decide)) (inR_w32 _) hq8) dX11_isCell_32 mw_M_in ml_M_345 st_M_in rfl rfl rfl rfl (Nat.le_refl _) (Nat.le_of_eq hb.symm) (fun hp9 => ?_)
  show Zt _ _ _ _ 35 _ [vI q7] (z, I, J, G)
  refine z_if_eq (tgt := 42) dX11_isCell_35 (by decide) (inR_bool hp9) (fun hc10 => ?_) (fun hc10 => ?_)
  · replace h := ifT hc10 h
    refine z_iconst dX11_isCell_42 ?_
    obtain rfl := someE h
    exact z_zret dX11_isCell_43 hE b01_0 b01_0 rfl
  replace h := ifF hc10 h
  refine z_iconst dX11_isCell_38 ?_
  refine z_goto (tgt := 43) dX11_isCell_39 (by decide) ?_
  obtain rfl := someE h
  exact z_zret dX11_isCell_43 hE b01_1 b01_1 rfl
set_option maxHeartbeats 1000000 in
theorem s_M_isLeaver {l : Launch} {g : GX} {z : Nat} {G : Nat → Nat → Nat} {F : Nat} (hz : 353 ≤ z) (hG : lyM G) {x1 : Int} {I J : Nat → Nat → Int} (hx1 : inR x1) {res : Int} (h : f_M_isLeaver F x1 I J = some res) : Spec l g 1 yX11_isLeaver cX11_isLeaver 2 (some .boolean) [vR g 296, vI x1] (z, I, J, G) (some (vI res)) (res = 0 ∨ res = 1) (z, I, J, G) := by
  refine spec_of (μ := mu_M_isLeaver) (k := 0) (L0 := [some (vR g 296), some (vI x1)]) rfl mw_M_isLeaver rfl rfl (Nat.le_refl _) (fun φ hb hE => ?_)
  refine z_iload_n dX11_isLeaver_0 rfl ?_
  refine z_iconst dX11_isLeaver_1 ?_
  refine z_aload_n dX11_isLeaver_2 rfl ?_
  refine y_getR dX11_isLeaver_3 cl11 sh_296 (by decide) (Nat.le_trans (by decide) hz) 28 rfl rfl (fl_M_61) (ly_296_28 hG) (by decide) ?_
  refine z_aload_n dX11_isLeaver_6 rfl ?_
  refine z_nm (fun hN1 => ?_)
  refine y_getI dX11_isLeaver_7 cl11 sh_296 (by decide) (Nat.le_trans (by decide) hz) 18 rfl rfl (fl_M_269) ?_
  obtain ⟨hg2, h⟩ := guardE h
  refine y_iald dX11_isLeaver_10 sh_311 (by decide) (Nat.le_trans (by decide) hz) (hN1.1 296 18) hg2 ?_
  refine z_iconst dX11_isLeaver_11 ?_
  refine z_isub dX11_isLeaver_12 ?_
  obtain ⟨q3, hq4, h⟩ := bindE h
  refine z_callS (As := [vI x1, vI 0, vI (w32 ((I 311 ((I 296 18)).toNat) - 1))]) (rest := []) (s_M_in hz hG hx1 (inRd (x := 0) (by decide)) (inR_w32 _) hq4) dX11_isLeaver_13 mw_M_in ml_M_345 st_M_in rfl rfl rfl rfl (Nat.le_refl _) (Nat.le_of_eq hb.symm) (fun hp5 => ?_)
  show Zt _ _ _ _ 16 _ [vI q3] (z, I, J, G)
  obtain rfl := someE h
  exact z_zret dX11_isLeaver_16 hE hp5 hp5 rfl
set_option maxHeartbeats 1000000 in
theorem s_M_deep {l : Launch} {g : GX} {z : Nat} {G : Nat → Nat → Nat} {F : Nat} (hz : 353 ≤ z) (hG : lyM G) {x1 : Int} {I J : Nat → Nat → Int} (hx1 : inR x1) {res : Int} (h : f_M_deep F x1 I J = some res) : Spec l g 0 yX11_deep cX11_deep 2 (some .int) [vR g 296, vI x1] (z, I, J, G) (some (vI res)) (inR res) (z, I, J, G) := by
  refine spec_of (μ := mu_M_deep) (k := 0) (L0 := [some (vR g 296), some (vI x1)]) rfl mw_M_deep rfl rfl (Nat.le_refl _) (fun φ hb hE => ?_)
  refine z_aload_n dX11_deep_0 rfl ?_
  refine y_getR dX11_deep_1 cl11 sh_296 (by decide) (Nat.le_trans (by decide) hz) 25 rfl rfl (fl_M_52) (ly_296_25 hG) (by decide) ?_
  refine z_bipush dX11_deep_4 (by decide +kernel) ?_
  refine z_aload_n dX11_deep_6 rfl ?_
  refine z_nm (fun hN1 => ?_)
  refine y_getI dX11_deep_7 cl11 sh_296 (by decide) (Nat.le_trans (by decide) hz) 18 rfl rfl (fl_M_269) ?_
  refine z_imul dX11_deep_10 ?_
  refine z_iload_n dX11_deep_11 rfl ?_
  refine z_iadd dX11_deep_12 ?_
  obtain ⟨hg2, h⟩ := guardE h
  refine y_iald dX11_deep_13 sh_308 (by decide) (Nat.le_trans (by decide) hz) (inR_w32 _) hg2 ?_
  obtain rfl := someE h
  exact z_iret dX11_deep_14 hE (hN1.1 308 ((w32 ((w32 (96 * (I 296 18))) + x1))).toNat) rfl
set_option maxHeartbeats 1000000 in
theorem s_M_isStep {l : Launch} {g : GX} {z : Nat} {G : Nat → Nat → Nat} {F : Nat} (hz : 353 ≤ z) (hG : lyM G) {x1 : Int} {I J : Nat → Nat → Int} (hx1 : inR x1) {res : Int} (h : f_M_isStep F x1 I J = some res) : Spec l g 1 yX11_isStep cX11_isStep 2 (some .boolean) [vR g 296, vI x1] (z, I, J, G) (some (vI res)) (res = 0 ∨ res = 1) (z, I, J, G) := by
  refine spec_of (μ := mu_M_isStep) (k := 0) (L0 := [some (vR g 296), some (vI x1)]) rfl mw_M_isStep rfl rfl (Nat.le_refl _) (fun φ hb hE => ?_)
  refine z_aload_n dX11_isStep_0 rfl ?_
  refine y_getR dX11_isStep_1 cl11 sh_296 (by decide) (Nat.le_trans (by decide) hz) 54 rfl rfl (fl_M_128) (ly_296_54 hG) (by decide) ?_
  refine z_iload_n dX11_isStep_4 rfl ?_
  obtain ⟨hg1, h⟩ := guardE h
  refine z_nm (fun hN2 => ?_)
  refine y_iald dX11_isStep_5 sh_333 (by decide) (Nat.le_trans (by decide) hz) hx1 hg1 ?_
  refine z_aload_n dX11_isStep_6 rfl ?_
  refine z_iload_n dX11_isStep_7 rfl ?_
  obtain ⟨q3, hq4, h⟩ := bindE h
  refine z_callV (As := [vI x1]) (rest := [vI (I 333 (x1).toNat)]) (s_M_deep hz hG hx1 hq4) dX11_isStep_8 mw_M_deep cl11 sh_296 (by decide) (Nat.le_trans (by decide) hz) ml_M_349 im_M_deep se_M_deep rfl rfl rfl rfl (Nat.le_refl _) (Nat.le_of_eq hb.symm) (fun hp5 => ?_)
  show Zt _ _ _ _ 11 _ [vI q3, vI (I 333 (x1).toNat)] (z, I, J, G)
  refine z_icmp_lt (tgt := 18) dX11_isStep_11 (by decide) (hN2.1 333 (x1).toNat) hp5 (fun hc6 => ?_) (fun hc6 => ?_)
  · replace h := ifT hc6 h
    refine z_iconst dX11_isStep_18 ?_
    obtain rfl := someE h
    exact z_zret dX11_isStep_19 hE b01_0 b01_0 rfl
  replace h := ifF hc6 h
  refine z_iconst dX11_isStep_14 ?_
  refine z_goto (tgt := 19) dX11_isStep_15 (by decide) ?_
  obtain rfl := someE h
  exact z_zret dX11_isStep_19 hE b01_1 b01_1 rfl
set_option maxHeartbeats 1000000 in
theorem t_M_tellsBy_L105 {l : Launch} {g : GX} {φ : CX} {z : Nat} {G : Nat → Nat → Nat} {F : Nat} (hb : cb φ = z) (hz : 353 ≤ z) (hG : lyM G) {x4 : Int} {x6 : Int} {x7 : Int} {I J : Nat → Nat → Int} (hx4 : inR x4) (hx6 : inR x6) (hx7 : inR x7) {res : ((MI) ⊕ ((Int × MI) ⊕ (MI))) ⊕ (Int × MI)} (h : f_M_tellsBy_L105 F x4 x6 x7 I J = some res) (kE : ∀ e : (MI) ⊕ ((Int × MI) ⊕ (MI)), res = .inl e → ((fun w : (MI) ⊕ ((Int × MI) ⊕ (MI)) => (match w with | .inl e0 => ((True) → Zt l g φ mu_M_tellsBy 169 [none, none, none, none, none, none, none, none, none, none] [] (z, e0, J, G)) | .inr o0 => (match o0 with | .inl e1 => ((inR e1.1) → Zt l g φ mu_M_tellsBy 181 [some (vR g 296), none, none, none, some (vI x4), none, none, some (vI e1.1), none, none] [] (z, e1.2, J, G)) | .inr o1 => ((True) → Zt l g φ mu_M_tellsBy 238 [none, none, none, none, none, none, none, none, none, none] [] (z, o1, J, G))))) e)) (kS : ∀ s : Int × MI, res = .inr s → (inR s.1) → Zt l g φ mu_M_tellsBy 105 [some (vR g 296), none, none, none, some (vI x4), none, some (vI x6), some (vI s.1), none, none] [] (z, s.2, J, G)) : Zt l g φ mu_M_tellsBy 105 [some (vR g 296), none, none, none, some (vI x4), none, some (vI x6), some (vI x7), none, none] [] (z, I, J, G) := by
  refine z_iload dX11_tellsBy_105 rfl ?_
  refine z_iload dX11_tellsBy_107 rfl ?_
  refine z_icmp_ge (tgt := 238) dX11_tellsBy_109 (by decide) hx7 hx6 (fun hc9 => ?_) (fun hc9 => ?_)
  · replace h := ifT hc9 h
    refine z_weak (L' := [none, none, none, none, none, none, none, none, none, none]) (lsN (lsN (lsN (lsN (lsN (lsN (lsN (lsN (lsN (lsN ls0)))))))))) ?_
    exact kE _ (someE h).symm trivial
  replace h := ifF hc9 h
  refine z_aload_n dX11_tellsBy_112 rfl ?_
  refine y_getR dX11_tellsBy_113 cl11 sh_296 (by decide) (Nat.le_trans (by decide) hz) 39 rfl rfl (fl_M_91) (ly_296_39 hG) (by decide) ?_
  refine z_iload dX11_tellsBy_116 rfl ?_
  obtain ⟨hg10, h⟩ := guardE h
  refine z_nm (fun hN11 => ?_)
  refine y_zald dX11_tellsBy_118 sh_321 (by decide) (Nat.le_trans (by decide) hz) hx7 hg10 ?_
  refine z_if_eq (tgt := 181) dX11_tellsBy_119 (by decide) (hN11.1 321 (x7).toNat) (fun hc12 => ?_) (fun hc12 => ?_)
  · replace h := ifT hc12 h
    refine z_weak (L' := [some (vR g 296), none, none, none, some (vI x4), none, none, some (vI x7), none, none]) (lsS (lsN (lsN (lsN (lsS (lsN (lsN (lsS (lsN (lsN ls0)))))))))) ?_
    exact kE _ (someE h).symm hx7
  replace h := ifF hc12 h
  refine z_aload_n dX11_tellsBy_122 rfl ?_
  refine z_aload_n dX11_tellsBy_123 rfl ?_
  refine y_getR dX11_tellsBy_124 cl11 sh_296 (by decide) (Nat.le_trans (by decide) hz) 40 rfl rfl (fl_M_95) (ly_296_40 hG) (by decide) ?_
  refine z_iload dX11_tellsBy_127 rfl ?_
  refine y_iald dX11_tellsBy_129 sh_322 (by decide) (Nat.le_trans (by decide) hz) hx7 hg10 ?_
  refine z_aload_n dX11_tellsBy_130 rfl ?_
  refine y_getR dX11_tellsBy_131 cl11 sh_296 (by decide) (Nat.le_trans (by decide) hz) 41 rfl rfl (fl_M_98) (ly_296_41 hG) (by decide) ?_
  refine z_iload dX11_tellsBy_134 rfl ?_
  refine y_iald dX11_tellsBy_136 sh_323 (by decide) (Nat.le_trans (by decide) hz) hx7 hg10 ?_
  obtain ⟨q13, hq14, h⟩ := bindE h
  refine z_callV (As := [vI (I 322 (x7).toNat), vI (I 323 (x7).toNat)]) (rest := []) (s_M_termOf hz hG (hN11.1 322 (x7).toNat) (hN11.1 323 (x7).toNat) hq14) dX11_tellsBy_137 mw_M_termOf cl11 sh_296 (by decide) (Nat.le_trans (by decide) hz) ml_M_352 im_M_termOf se_M_termOf rfl rfl rfl rfl (Nat.le_refl _) (Nat.le_of_eq hb.symm) (fun hp15 => ?_)
  show Zt _ _ _ _ 140 _ [vI q13.1] (z, q13.2, J, G)
  refine z_istore (L' := [some (vR g 296), none, none, none, some (vI x4), none, some (vI x6), some (vI x7), some (vI q13.1), none]) dX11_tellsBy_140 rfl rfl rfl ?_
  refine z_aload_n dX11_tellsBy_142 rfl ?_
  refine z_aload_n dX11_tellsBy_143 rfl ?_
  refine y_getR dX11_tellsBy_144 cl11 sh_296 (by decide) (Nat.le_trans (by decide) hz) 41 rfl rfl (fl_M_98) (ly_296_41 hG) (by decide) ?_
  refine z_iload dX11_tellsBy_147 rfl ?_
  refine z_nm (fun hN16 => ?_)
  refine y_iald dX11_tellsBy_149 sh_323 (by decide) (Nat.le_trans (by decide) hz) hx7 hg10 ?_
  refine z_aload_n dX11_tellsBy_150 rfl ?_
  refine y_getR dX11_tellsBy_151 cl11 sh_296 (by decide) (Nat.le_trans (by decide) hz) 42 rfl rfl (fl_M_101) (ly_296_42 hG) (by decide) ?_
  refine z_iload dX11_tellsBy_154 rfl ?_
  refine y_iald dX11_tellsBy_156 sh_324 (by decide) (Nat.le_trans (by decide) hz) hx7 hg10 ?_
  obtain ⟨q17, hq18, h⟩ := bindE h
  refine z_callV (As := [vI (q13.2 323 (x7).toNat), vI (q13.2 324 (x7).toNat)]) (rest := []) (s_M_termOf hz hG (hN16.1 323 (x7).toNat) (hN16.1 324 (x7).toNat) hq18) dX11_tellsBy_157 mw_M_termOf cl11 sh_296 (by decide) (Nat.le_trans (by decide) hz) ml_M_352 im_M_termOf se_M_termOf rfl rfl rfl rfl (Nat.le_refl _) (Nat.le_of_eq hb.symm) (fun hp19 => ?_)
  show Zt _ _ _ _ 160 _ [vI q17.1] (z, q17.2, J, G)
  refine z_istore (L' := [some (vR g 296), none, none, none, some (vI x4), none, some (vI x6), some (vI x7), some (vI q13.1), some (vI q17.1)]) dX11_tellsBy_160 rfl rfl rfl ?_
  refine z_aload_n dX11_tellsBy_162 rfl ?_
  refine z_nm (fun hN20 => ?_)
  refine y_getI dX11_tellsBy_163 cl11 sh_296 (by decide) (Nat.le_trans (by decide) hz) 51 rfl rfl (fl_M_338) ?_
  refine z_if_eq (tgt := 171) dX11_tellsBy_166 (by decide) (hN20.1 296 51) (fun hc21 => ?_) (fun hc21 => ?_)
  · replace h := ifT hc21 h
    refine z_iload dX11_tellsBy_171 rfl ?_
    refine z_iload dX11_tellsBy_173 rfl ?_
    refine z_icmp_lt (tgt := 181) dX11_tellsBy_175 (by decide) hp15 hp19 (fun hc22 => ?_) (fun hc22 => ?_)
    · replace h := ifT hc22 h
      refine z_weak (L' := [some (vR g 296), none, none, none, some (vI x4), none, none, some (vI x7), none, none]) (lsS (lsN (lsN (lsN (lsS (lsN (lsN (lsS (lsN (lsN ls0)))))))))) ?_
      exact kE _ (someE h).symm hx7
    replace h := ifF hc22 h
    refine z_goto (tgt := 232) dX11_tellsBy_178 (by decide) ?_
    refine z_iinc (L' := [some (vR g 296), none, none, none, some (vI x4), none, some (vI x6), some (vI (w32 (x7 + 1))), some (vI q13.1), some (vI q17.1)]) dX11_tellsBy_232 rfl rfl rfl rfl ?_
    refine z_goto (tgt := 105) dX11_tellsBy_235 (by decide) ?_
    refine z_weak (L' := [some (vR g 296), none, none, none, some (vI x4), none, some (vI x6), some (vI (w32 (x7 + 1))), none, none]) (lsS (lsN (lsN (lsN (lsS (lsN (lsS (lsS (lsN (lsN ls0)))))))))) ?_
    exact kS _ (someE h).symm (inR_w32 _)
  replace h := ifF hc21 h
  refine z_weak (L' := [none, none, none, none, none, none, none, none, none, none]) (lsN (lsN (lsN (lsN (lsN (lsN (lsN (lsN (lsN (lsN ls0)))))))))) ?_
  exact kE _ (someE h).symm trivial
theorem l_M_tellsBy_L105 {l : Launch} {g : GX} {φ : CX} {z : Nat} {G : Nat → Nat → Nat} {F : Nat} (hb : cb φ = z) (hz : 353 ≤ z) (hG : lyM G) {x4 : Int} {x6 : Int} {J : Nat → Nat → Int} (hx4 : inR x4) (hx6 : inR x6) (n : Nat) (s : Int × MI) (e : (MI) ⊕ ((Int × MI) ⊕ (MI))) (h : iter (fun s : Int × MI => f_M_tellsBy_L105 F x4 x6 s.1 s.2 J) n s = some e) (hs : inR s.1) (k : ((fun w : (MI) ⊕ ((Int × MI) ⊕ (MI)) => (match w with | .inl e0 => ((True) → Zt l g φ mu_M_tellsBy 169 [none, none, none, none, none, none, none, none, none, none] [] (z, e0, J, G)) | .inr o0 => (match o0 with | .inl e1 => ((inR e1.1) → Zt l g φ mu_M_tellsBy 181 [some (vR g 296), none, none, none, some (vI x4), none, none, some (vI e1.1), none, none] [] (z, e1.2, J, G)) | .inr o1 => ((True) → Zt l g φ mu_M_tellsBy 238 [none, none, none, none, none, none, none, none, none, none] [] (z, o1, J, G))))) e)) : Zt l g φ mu_M_tellsBy 105 [some (vR g 296), none, none, none, some (vI x4), none, some (vI x6), some (vI s.1), none, none] [] (z, s.2, J, G) := by
  refine iter_ind (Z := fun s : Int × MI => Zt l g φ mu_M_tellsBy 105 [some (vR g 296), none, none, none, some (vI x4), none, some (vI x6), some (vI s.1), none, none] [] (z, s.2, J, G)) (ZE := fun e : (MI) ⊕ ((Int × MI) ⊕ (MI)) => ((fun w : (MI) ⊕ ((Int × MI) ⊕ (MI)) => (match w with | .inl e0 => ((True) → Zt l g φ mu_M_tellsBy 169 [none, none, none, none, none, none, none, none, none, none] [] (z, e0, J, G)) | .inr o0 => (match o0 with | .inl e1 => ((inR e1.1) → Zt l g φ mu_M_tellsBy 181 [some (vR g 296), none, none, none, some (vI x4), none, none, some (vI e1.1), none, none] [] (z, e1.2, J, G)) | .inr o1 => ((True) → Zt l g φ mu_M_tellsBy 238 [none, none, none, none, none, none, none, none, none, none] [] (z, o1, J, G))))) e)) (Rg := fun s : Int × MI => inR s.1) ?_ n s e h hs k
  intro s r hr hst kE kS
  exact t_M_tellsBy_L105 hb hz hG hx4 hx6 hr hst kE kS
set_option maxHeartbeats 1000000 in
theorem s_M_tellsBy {l : Launch} {g : GX} {z : Nat} {G : Nat → Nat → Nat} {F : Nat} (hz : 353 ≤ z) (hG : lyM G) {x1 : Int} {x2 : Int} {x3 : Int} {x4 : Int} {I J : Nat → Nat → Int} (hx1 : inR x1) (hx2 : inR x2) (hx3 : inR x3) (hx4 : inR x4) {res : Int × MI} (h : f_M_tellsBy F x1 x2 x3 x4 I J = some res) : Spec l g 1 yX11_tellsBy cX11_tellsBy 10 (some .int) [vR g 296, vI x1, vI x2, vI x3, vI x4] (z, I, J, G) (some (vI res.1)) (inR res.1) (z, res.2, J, G) := by
  refine spec_of (μ := mu_M_tellsBy) (k := 5) (L0 := [some (vR g 296), some (vI x1), some (vI x2), some (vI x3), some (vI x4), none, none, none, none, none]) rfl mw_M_tellsBy rfl rfl (Nat.le_refl _) (fun φ hb hE => ?_)
  refine z_aload_n dX11_tellsBy_0 rfl ?_
  refine y_getR dX11_tellsBy_1 cl11 sh_296 (by decide) (Nat.le_trans (by decide) hz) 36 rfl rfl (fl_M_85) (ly_296_36 hG) (by decide) ?_
  refine z_iconst dX11_tellsBy_4 ?_
  refine z_aload_n dX11_tellsBy_5 rfl ?_
  refine z_nm (fun hN1 => ?_)
  refine y_getI dX11_tellsBy_6 cl11 sh_296 (by decide) (Nat.le_trans (by decide) hz) 18 rfl rfl (fl_M_269) ?_
  refine z_imul dX11_tellsBy_9 ?_
  refine z_iload_n dX11_tellsBy_10 rfl ?_
  refine z_iadd dX11_tellsBy_11 ?_
  obtain ⟨hg2, h⟩ := guardE h
  refine y_iald dX11_tellsBy_12 sh_319 (by decide) (Nat.le_trans (by decide) hz) (inR_w32 _) hg2 ?_
  refine z_istore (L' := [some (vR g 296), some (vI x1), some (vI x2), some (vI x3), some (vI x4), some (vI (I 319 ((w32 ((w32 (2 * (I 296 18))) + x1))).toNat)), none, none, none, none]) dX11_tellsBy_13 rfl rfl rfl ?_
  refine z_aload_n dX11_tellsBy_15 rfl ?_
  refine y_getR dX11_tellsBy_16 cl11 sh_296 (by decide) (Nat.le_trans (by decide) hz) 37 rfl rfl (fl_M_88) (ly_296_37 hG) (by decide) ?_
  refine z_iconst dX11_tellsBy_19 ?_
  refine z_aload_n dX11_tellsBy_20 rfl ?_
  refine y_getI dX11_tellsBy_21 cl11 sh_296 (by decide) (Nat.le_trans (by decide) hz) 18 rfl rfl (fl_M_269) ?_
  refine z_imul dX11_tellsBy_24 ?_
  refine z_iload_n dX11_tellsBy_25 rfl ?_
  refine z_iadd dX11_tellsBy_26 ?_
  refine y_iald dX11_tellsBy_27 sh_320 (by decide) (Nat.le_trans (by decide) hz) (inR_w32 _) hg2 ?_
  refine z_istore (L' := [some (vR g 296), some (vI x1), some (vI x2), some (vI x3), some (vI x4), some (vI (I 319 ((w32 ((w32 (2 * (I 296 18))) + x1))).toNat)), some (vI (I 320 ((w32 ((w32 (2 * (I 296 18))) + x1))).toNat)), none, none, none]) dX11_tellsBy_28 rfl rfl rfl ?_
  refine z_aload_n dX11_tellsBy_30 rfl ?_
  refine y_getR dX11_tellsBy_31 cl11 sh_296 (by decide) (Nat.le_trans (by decide) hz) 49 rfl rfl (fl_M_116) (ly_296_49 hG) (by decide) ?_
  refine z_iconst dX11_tellsBy_34 ?_
  refine z_aload_n dX11_tellsBy_35 rfl ?_
  refine y_getR dX11_tellsBy_36 cl11 sh_296 (by decide) (Nat.le_trans (by decide) hz) 54 rfl rfl (fl_M_128) (ly_296_54 hG) (by decide) ?_
  refine z_iload_n dX11_tellsBy_39 rfl ?_
  obtain ⟨hg3, h⟩ := guardE h
  refine y_iald dX11_tellsBy_40 sh_333 (by decide) (Nat.le_trans (by decide) hz) hx2 hg3 ?_
  refine y_iast dX11_tellsBy_41 sh_329 (by decide) (Nat.le_trans (by decide) hz) (inRd (x := 0) (by decide)) (by decide) (hN1.1 333 (x2).toNat) ?_
  refine z_aload_n dX11_tellsBy_42 rfl ?_
  refine y_getR dX11_tellsBy_43 cl11 sh_296 (by decide) (Nat.le_trans (by decide) hz) 49 rfl rfl (fl_M_116) (ly_296_49 hG) (by decide) ?_
  refine z_iconst dX11_tellsBy_46 ?_
  refine z_aload_n dX11_tellsBy_47 rfl ?_
  refine z_iload_n dX11_tellsBy_48 rfl ?_
  obtain ⟨q4, hq5, h⟩ := bindE h
  refine z_callV (As := [vI x2]) (rest := [vI 1, vR g 329]) (s_M_deep hz hG hx2 hq5) dX11_tellsBy_49 mw_M_deep cl11 sh_296 (by decide) (Nat.le_trans (by decide) hz) ml_M_349 im_M_deep se_M_deep rfl rfl rfl rfl (Nat.le_refl _) (Nat.le_of_eq hb.symm) (fun hp6 => ?_)
  show Zt _ _ _ _ 52 _ [vI q4, vI 1, vR g 329] (z, (up2 I 329 0 (I 333 (x2).toNat)), J, G)
  refine y_iast dX11_tellsBy_52 sh_329 (by decide) (Nat.le_trans (by decide) hz) (inRd (x := 1) (by decide)) (by decide) hp6 ?_
  refine z_aload_n dX11_tellsBy_53 rfl ?_
  refine y_getR dX11_tellsBy_54 cl11 sh_296 (by decide) (Nat.le_trans (by decide) hz) 49 rfl rfl (fl_M_116) (ly_296_49 hG) (by decide) ?_
  refine z_iconst dX11_tellsBy_57 ?_
  refine z_iload_n dX11_tellsBy_58 rfl ?_
  refine y_iast dX11_tellsBy_59 sh_329 (by decide) (Nat.le_trans (by decide) hz) (inRd (x := 2) (by decide)) (by decide) hx3 ?_
  refine z_aload_n dX11_tellsBy_60 rfl ?_
  refine y_getR dX11_tellsBy_61 cl11 sh_296 (by decide) (Nat.le_trans (by decide) hz) 49 rfl rfl (fl_M_116) (ly_296_49 hG) (by decide) ?_
  refine z_iconst dX11_tellsBy_64 ?_
  refine z_aload_n dX11_tellsBy_65 rfl ?_
  refine y_getR dX11_tellsBy_66 cl11 sh_296 (by decide) (Nat.le_trans (by decide) hz) 53 rfl rfl (fl_M_125) (ly_296_53 hG) (by decide) ?_
  refine z_sipush dX11_tellsBy_69 (by decide +kernel) ?_
  refine z_iload_n dX11_tellsBy_72 rfl ?_
  refine z_iadd dX11_tellsBy_73 ?_
  obtain ⟨hg7, h⟩ := guardE h
  refine z_nm (fun hN8 => ?_)
  refine y_iald dX11_tellsBy_74 sh_332 (by decide) (Nat.le_trans (by decide) hz) (inR_w32 _) hg7 ?_
  refine y_iast dX11_tellsBy_75 sh_329 (by decide) (Nat.le_trans (by decide) hz) (inRd (x := 3) (by decide)) (by decide) (hN8.1 332 ((w32 (144 + x2))).toNat) ?_
  refine z_aload_n dX11_tellsBy_76 rfl ?_
  refine y_getR dX11_tellsBy_77 cl11 sh_296 (by decide) (Nat.le_trans (by decide) hz) 49 rfl rfl (fl_M_116) (ly_296_49 hG) (by decide) ?_
  refine z_iconst dX11_tellsBy_80 ?_
  refine z_iload_n dX11_tellsBy_81 rfl ?_
  refine z_bipush dX11_tellsBy_82 (by decide +kernel) ?_
  refine z_idiv dX11_tellsBy_84 (inRd (x := 12) (by decide)) (by decide) ?_
  refine y_iast dX11_tellsBy_85 sh_329 (by decide) (Nat.le_trans (by decide) hz) (inRd (x := 4) (by decide)) (by decide) inR_div ?_
  refine z_aload_n dX11_tellsBy_86 rfl ?_
  refine y_getR dX11_tellsBy_87 cl11 sh_296 (by decide) (Nat.le_trans (by decide) hz) 49 rfl rfl (fl_M_116) (ly_296_49 hG) (by decide) ?_
  refine z_iconst dX11_tellsBy_90 ?_
  refine z_iload_n dX11_tellsBy_91 rfl ?_
  refine z_bipush dX11_tellsBy_92 (by decide +kernel) ?_
  refine z_irem dX11_tellsBy_94 (inRd (x := 12) (by decide)) (by decide) ?_
  refine y_iast dX11_tellsBy_95 sh_329 (by decide) (Nat.le_trans (by decide) hz) (inRd (x := 5) (by decide)) (by decide) inR_rem ?_
  refine z_aload_n dX11_tellsBy_96 rfl ?_
  refine z_iconst dX11_tellsBy_97 ?_
  refine y_putI dX11_tellsBy_98 cl11 sh_296 (by decide) (Nat.le_trans (by decide) hz) 51 rfl rfl rfl (fl_M_338) (nb_of b01_0) rfl (inRd (x := 0) (by decide)) ?_
  refine z_iload dX11_tellsBy_101 rfl ?_
  refine z_istore (L' := [some (vR g 296), some (vI x1), some (vI x2), some (vI x3), some (vI x4), some (vI (I 319 ((w32 ((w32 (2 * (I 296 18))) + x1))).toNat)), some (vI (I 320 ((w32 ((w32 (2 * (I 296 18))) + x1))).toNat)), some (vI (I 319 ((w32 ((w32 (2 * (I 296 18))) + x1))).toNat)), none, none]) dX11_tellsBy_103 rfl rfl rfl ?_
  refine z_weak (L' := [some (vR g 296), none, none, none, some (vI x4), none, some (vI (I 320 ((w32 ((w32 (2 * (I 296 18))) + x1))).toNat)), some (vI (I 319 ((w32 ((w32 (2 * (I 296 18))) + x1))).toNat)), none, none]) (lsS (lsN (lsN (lsN (lsS (lsN (lsS (lsS (lsN (lsN ls0)))))))))) ?_
  obtain ⟨e23, h24, h⟩ := bindE h
  rcases e23 with e25 | o26
  · refine l_M_tellsBy_L105 hb hz hG hx4 (hN1.1 320 ((w32 ((w32 (2 * (I 296 18))) + x1))).toNat) _ _ _ h24 (hN1.1 319 ((w32 ((w32 (2 * (I 296 18))) + x1))).toNat) ?_
    refine fun h27 => ?_
    refine z_iconst dX11_tellsBy_169 ?_
    obtain rfl := someE h
    exact z_iret dX11_tellsBy_170 hE (inRd (x := 0) (by decide)) rfl
  rcases o26 with e28 | o29
  · refine l_M_tellsBy_L105 hb hz hG hx4 (hN1.1 320 ((w32 ((w32 (2 * (I 296 18))) + x1))).toNat) _ _ _ h24 (hN1.1 319 ((w32 ((w32 (2 * (I 296 18))) + x1))).toNat) ?_
    refine fun h30 => ?_
    refine z_aload_n dX11_tellsBy_181 rfl ?_
    refine z_aload_n dX11_tellsBy_182 rfl ?_
    refine y_getR dX11_tellsBy_183 cl11 sh_296 (by decide) (Nat.le_trans (by decide) hz) 42 rfl rfl (fl_M_101) (ly_296_42 hG) (by decide) ?_
    refine z_iload dX11_tellsBy_186 rfl ?_
    obtain ⟨hg31, h⟩ := guardE h
    refine z_nm (fun hN32 => ?_)
    refine y_iald dX11_tellsBy_188 sh_324 (by decide) (Nat.le_trans (by decide) hz) h30 hg31 ?_
    refine z_aload_n dX11_tellsBy_189 rfl ?_
    refine y_getR dX11_tellsBy_190 cl11 sh_296 (by decide) (Nat.le_trans (by decide) hz) 43 rfl rfl (fl_M_104) (ly_296_43 hG) (by decide) ?_
    refine z_iload dX11_tellsBy_193 rfl ?_
    refine y_iald dX11_tellsBy_195 sh_325 (by decide) (Nat.le_trans (by decide) hz) h30 hg31 ?_
    obtain ⟨q33, hq34, h⟩ := bindE h
    refine z_callV (As := [vI (e28.2 324 (e28.1).toNat), vI (e28.2 325 (e28.1).toNat)]) (rest := []) (s_M_termOf hz hG (hN32.1 324 (e28.1).toNat) (hN32.1 325 (e28.1).toNat) hq34) dX11_tellsBy_196 mw_M_termOf cl11 sh_296 (by decide) (Nat.le_trans (by decide) hz) ml_M_352 im_M_termOf se_M_termOf rfl rfl rfl rfl (Nat.le_refl _) (Nat.le_of_eq hb.symm) (fun hp35 => ?_)
    show Zt _ _ _ _ 199 _ [vI q33.1] (z, q33.2, J, G)
    refine z_istore (L' := [some (vR g 296), none, none, none, some (vI x4), none, none, some (vI e28.1), some (vI q33.1), none]) dX11_tellsBy_199 rfl rfl rfl ?_
    refine z_aload_n dX11_tellsBy_201 rfl ?_
    refine z_nm (fun hN36 => ?_)
    refine y_getI dX11_tellsBy_202 cl11 sh_296 (by decide) (Nat.le_trans (by decide) hz) 51 rfl rfl (fl_M_338) ?_
    refine z_if_ne (tgt := 213) dX11_tellsBy_205 (by decide) (hN36.1 296 51) (fun hc37 => ?_) (fun hc37 => ?_)
    · replace h := ifT hc37 h
      refine z_iconst dX11_tellsBy_213 ?_
      refine z_goto (tgt := 231) dX11_tellsBy_214 (by decide) ?_
      obtain rfl := someE h
      exact z_iret dX11_tellsBy_231 hE (inRd (x := 0) (by decide)) rfl
    replace h := ifF (fun q => q hc37) h
    refine z_iload dX11_tellsBy_208 rfl ?_
    refine z_if_ge (tgt := 217) dX11_tellsBy_210 (by decide) hp35 (fun hc38 => ?_) (fun hc38 => ?_)
    · replace h := ifT hc38 h
      refine z_iload dX11_tellsBy_217 rfl ?_
      refine z_iload dX11_tellsBy_219 rfl ?_
      refine z_icmp_le (tgt := 229) dX11_tellsBy_221 (by decide) hp35 hx4 (fun hc39 => ?_) (fun hc39 => ?_)
      · replace h := ifT hc39 h
        refine z_iload dX11_tellsBy_229 rfl ?_
        obtain rfl := someE h
        exact z_iret dX11_tellsBy_231 hE hp35 rfl
      replace h := ifF hc39 h
      refine z_iload dX11_tellsBy_224 rfl ?_
      refine z_goto (tgt := 231) dX11_tellsBy_226 (by decide) ?_
      obtain rfl := someE h
      exact z_iret dX11_tellsBy_231 hE hx4 rfl
    replace h := ifF hc38 h
    refine z_iconst dX11_tellsBy_213 ?_
    refine z_goto (tgt := 231) dX11_tellsBy_214 (by decide) ?_
    obtain rfl := someE h
    exact z_iret dX11_tellsBy_231 hE (inRd (x := 0) (by decide)) rfl
  refine l_M_tellsBy_L105 hb hz hG hx4 (hN1.1 320 ((w32 ((w32 (2 * (I 296 18))) + x1))).toNat) _ _ _ h24 (hN1.1 319 ((w32 ((w32 (2 * (I 296 18))) + x1))).toNat) ?_
  refine fun h40 => ?_
  refine z_iconst dX11_tellsBy_238 ?_
  obtain rfl := someE h
  exact z_iret dX11_tellsBy_239 hE (inRd (x := 0) (by decide)) rfl
set_option maxHeartbeats 1000000 in
theorem t_M_leftOf_L4 {l : Launch} {g : GX} {φ : CX} {z : Nat} {G : Nat → Nat → Nat} {F : Nat} (hb : cb φ = z) (hz : 353 ≤ z) (hG : lyM G) {x1 : Int} {x2 : Int} {x3 : Int} {I J : Nat → Nat → Int} (hx1 : inR x1) (hx2 : inR x2) (hx3 : inR x3) {res : (Int) ⊕ (Int × Int)} (h : f_M_leftOf_L4 F x1 x2 x3 I J = some res) (kE : ∀ e : Int, res = .inl e → ((inR e) → Zt l g φ mu_M_leftOf 46 [none, none, some (vI e), none] [] (z, I, J, G))) (kS : ∀ s : Int × Int, res = .inr s → (inR s.1 ∧ inR s.2) → Zt l g φ mu_M_leftOf 4 [some (vR g 296), some (vI x1), some (vI s.1), some (vI s.2)] [] (z, I, J, G)) : Zt l g φ mu_M_leftOf 4 [some (vR g 296), some (vI x1), some (vI x2), some (vI x3)] [] (z, I, J, G) := by
  refine z_iload_n dX11_leftOf_4 rfl ?_
  refine z_aload_n dX11_leftOf_5 rfl ?_
  refine y_getR dX11_leftOf_6 cl11 sh_296 (by decide) (Nat.le_trans (by decide) hz) 31 rfl rfl (fl_M_70) (ly_296_31 hG) (by decide) ?_
  refine z_bipush dX11_leftOf_9 (by decide +kernel) ?_
  refine z_aload_n dX11_leftOf_11 rfl ?_
  refine z_nm (fun hN1 => ?_)
  refine y_getI dX11_leftOf_12 cl11 sh_296 (by decide) (Nat.le_trans (by decide) hz) 18 rfl rfl (fl_M_269) ?_
  refine z_imul dX11_leftOf_15 ?_
  refine z_iload_n dX11_leftOf_16 rfl ?_
  refine z_iadd dX11_leftOf_17 ?_
  obtain ⟨hg2, h⟩ := guardE h
  refine y_iald dX11_leftOf_18 sh_314 (by decide) (Nat.le_trans (by decide) hz) (inR_w32 _) hg2 ?_
  refine z_icmp_ge (tgt := 46) dX11_leftOf_19 (by decide) hx3 (hN1.1 314 ((w32 ((w32 (8 * (I 296 18))) + x1))).toNat) (fun hc3 => ?_) (fun hc3 => ?_)
  · replace h := ifT hc3 h
    refine z_weak (L' := [none, none, some (vI x2), none]) (lsN (lsN (lsS (lsN ls0)))) ?_
    exact kE _ (someE h).symm hx2
  replace h := ifF hc3 h
  refine z_aload_n dX11_leftOf_22 rfl ?_
  refine y_getR dX11_leftOf_23 cl11 sh_296 (by decide) (Nat.le_trans (by decide) hz) 53 rfl rfl (fl_M_125) (ly_296_53 hG) (by decide) ?_
  refine z_bipush dX11_leftOf_26 (by decide +kernel) ?_
  refine z_iload_n dX11_leftOf_28 rfl ?_
  refine z_imul dX11_leftOf_29 ?_
  refine z_iload_n dX11_leftOf_30 rfl ?_
  refine z_iadd dX11_leftOf_31 ?_
  obtain ⟨hg4, h⟩ := guardE h
  refine y_iald dX11_leftOf_32 sh_332 (by decide) (Nat.le_trans (by decide) hz) (inR_w32 _) hg4 ?_
  refine z_iconst dX11_leftOf_33 ?_
  refine z_icmp_ne (tgt := 40) dX11_leftOf_34 (by decide) (hN1.1 332 ((w32 ((w32 (9 * x1)) + x3))).toNat) (inRd (x := (-1)) (by decide)) (fun hc5 => ?_) (fun hc5 => ?_)
  · replace h := ifT hc5 h
    refine z_iinc (L' := [some (vR g 296), some (vI x1), some (vI x2), some (vI (w32 (x3 + 1)))]) dX11_leftOf_40 rfl rfl rfl rfl ?_
    refine z_goto (tgt := 4) dX11_leftOf_43 (by decide) ?_
    exact kS _ (someE h).symm ⟨hx2, (inR_w32 _)⟩
  replace h := ifF (fun q => q hc5) h
  refine z_iinc (L' := [some (vR g 296), some (vI x1), some (vI (w32 (x2 + 1))), some (vI x3)]) dX11_leftOf_37 rfl rfl rfl rfl ?_
  refine z_iinc (L' := [some (vR g 296), some (vI x1), some (vI (w32 (x2 + 1))), some (vI (w32 (x3 + 1)))]) dX11_leftOf_40 rfl rfl rfl rfl ?_
  refine z_goto (tgt := 4) dX11_leftOf_43 (by decide) ?_
  exact kS _ (someE h).symm ⟨(inR_w32 _), (inR_w32 _)⟩
theorem l_M_leftOf_L4 {l : Launch} {g : GX} {φ : CX} {z : Nat} {G : Nat → Nat → Nat} {F : Nat} (hb : cb φ = z) (hz : 353 ≤ z) (hG : lyM G) {x1 : Int} {I : Nat → Nat → Int} {J : Nat → Nat → Int} (hx1 : inR x1) (n : Nat) (s : Int × Int) (e : Int) (h : iter (fun s : Int × Int => f_M_leftOf_L4 F x1 s.1 s.2 I J) n s = some e) (hs : inR s.1 ∧ inR s.2) (k : ((inR e) → Zt l g φ mu_M_leftOf 46 [none, none, some (vI e), none] [] (z, I, J, G))) : Zt l g φ mu_M_leftOf 4 [some (vR g 296), some (vI x1), some (vI s.1), some (vI s.2)] [] (z, I, J, G) := by
  refine iter_ind (Z := fun s : Int × Int => Zt l g φ mu_M_leftOf 4 [some (vR g 296), some (vI x1), some (vI s.1), some (vI s.2)] [] (z, I, J, G)) (ZE := fun e : Int => ((inR e) → Zt l g φ mu_M_leftOf 46 [none, none, some (vI e), none] [] (z, I, J, G))) (Rg := fun s : Int × Int => inR s.1 ∧ inR s.2) ?_ n s e h hs k
  intro s r hr hst kE kS
  exact t_M_leftOf_L4 hb hz hG hx1 hr.1 hr.2 hst kE kS
set_option maxHeartbeats 1000000 in
theorem s_M_leftOf {l : Launch} {g : GX} {z : Nat} {G : Nat → Nat → Nat} {F : Nat} (hz : 353 ≤ z) (hG : lyM G) {x1 : Int} {I J : Nat → Nat → Int} (hx1 : inR x1) {res : Int} (h : f_M_leftOf F x1 I J = some res) : Spec l g 0 yX11_leftOf cX11_leftOf 4 (some .int) [vR g 296, vI x1] (z, I, J, G) (some (vI res)) (inR res) (z, I, J, G) := by
  refine spec_of (μ := mu_M_leftOf) (k := 2) (L0 := [some (vR g 296), some (vI x1), none, none]) rfl mw_M_leftOf rfl rfl (Nat.le_refl _) (fun φ hb hE => ?_)
  refine z_iconst dX11_leftOf_0 ?_
  refine z_istore_n (L' := [some (vR g 296), some (vI x1), some (vI 0), none]) dX11_leftOf_1 rfl rfl rfl ?_
  refine z_iconst dX11_leftOf_2 ?_
  refine z_istore_n (L' := [some (vR g 296), some (vI x1), some (vI 0), some (vI 0)]) dX11_leftOf_3 rfl rfl rfl ?_
  obtain ⟨e6, h7, h⟩ := bindE h
  refine l_M_leftOf_L4 hb hz hG hx1 _ _ _ h7 ⟨(inRd (x := 0) (by decide)), (inRd (x := 0) (by decide))⟩ ?_
  refine fun h8 => ?_
  refine z_iload_n dX11_leftOf_46 rfl ?_
  obtain rfl := someE h
  exact z_iret dX11_leftOf_47 hE h8 rfl
set_option maxHeartbeats 1000000 in
theorem s_M_mayThrow {l : Launch} {g : GX} {z : Nat} {G : Nat → Nat → Nat} {F : Nat} (hz : 353 ≤ z) (hG : lyM G) {x1 : Int} {I J : Nat → Nat → Int} (hx1 : inR x1) {res : Int} (h : f_M_mayThrow F x1 I J = some res) : Spec l g 1 yX11_mayThrow cX11_mayThrow 2 (some .boolean) [vR g 296, vI x1] (z, I, J, G) (some (vI res)) (res = 0 ∨ res = 1) (z, I, J, G) := by
  refine spec_of (μ := mu_M_mayThrow) (k := 0) (L0 := [some (vR g 296), some (vI x1)]) rfl mw_M_mayThrow rfl rfl (Nat.le_refl _) (fun φ hb hE => ?_)
  refine z_aload_n dX11_mayThrow_0 rfl ?_
  refine z_iload_n dX11_mayThrow_1 rfl ?_
  obtain ⟨q1, hq2, h⟩ := bindE h
  refine z_callV (As := [vI x1]) (rest := []) (s_M_leftOf hz hG hx1 hq2) dX11_mayThrow_2 mw_M_leftOf cl11 sh_296 (by decide) (Nat.le_trans (by decide) hz) ml_M_355 im_M_leftOf se_M_leftOf rfl rfl rfl rfl (Nat.le_refl _) (Nat.le_of_eq hb.symm) (fun hp3 => ?_)
  show Zt _ _ _ _ 5 _ [vI q1] (z, I, J, G)
  refine z_if_le (tgt := 37) dX11_mayThrow_5 (by decide) hp3 (fun hc4 => ?_) (fun hc4 => ?_)
  · replace h := ifT hc4 h
    refine z_iconst dX11_mayThrow_37 ?_
    obtain rfl := someE h
    exact z_zret dX11_mayThrow_38 hE b01_0 b01_0 rfl
  replace h := ifF hc4 h
  refine z_aload_n dX11_mayThrow_8 rfl ?_
  refine y_getR dX11_mayThrow_9 cl11 sh_296 (by decide) (Nat.le_trans (by decide) hz) 53 rfl rfl (fl_M_125) (ly_296_53 hG) (by decide) ?_
  refine z_sipush dX11_mayThrow_12 (by decide +kernel) ?_
  refine z_nm (fun hN5 => ?_)
  refine y_iald dX11_mayThrow_15 sh_332 (by decide) (Nat.le_trans (by decide) hz) (inRd (x := 240) (by decide)) (by decide) ?_
  refine z_aload_n dX11_mayThrow_16 rfl ?_
  refine y_getR dX11_mayThrow_17 cl11 sh_296 (by decide) (Nat.le_trans (by decide) hz) 29 rfl rfl (fl_M_64) (ly_296_29 hG) (by decide) ?_
  refine z_bipush dX11_mayThrow_20 (by decide +kernel) ?_
  refine z_aload_n dX11_mayThrow_22 rfl ?_
  refine y_getI dX11_mayThrow_23 cl11 sh_296 (by decide) (Nat.le_trans (by decide) hz) 18 rfl rfl (fl_M_269) ?_
  refine z_imul dX11_mayThrow_26 ?_
  refine z_iload_n dX11_mayThrow_27 rfl ?_
  refine z_iadd dX11_mayThrow_28 ?_
  obtain ⟨hg6, h⟩ := guardE h
  refine y_iald dX11_mayThrow_29 sh_312 (by decide) (Nat.le_trans (by decide) hz) (inR_w32 _) hg6 ?_
  refine z_icmp_lt (tgt := 37) dX11_mayThrow_30 (by decide) (hN5.1 332 240) (hN5.1 312 ((w32 ((w32 (8 * (I 296 18))) + x1))).toNat) (fun hc7 => ?_) (fun hc7 => ?_)
  · replace h := ifT hc7 h
    refine z_iconst dX11_mayThrow_37 ?_
    obtain rfl := someE h
    exact z_zret dX11_mayThrow_38 hE b01_0 b01_0 rfl
  replace h := ifF hc7 h
  refine z_iconst dX11_mayThrow_33 ?_
  refine z_goto (tgt := 38) dX11_mayThrow_34 (by decide) ?_
  obtain rfl := someE h
  exact z_zret dX11_mayThrow_38 hE b01_1 b01_1 rfl
set_option maxHeartbeats 1000000 in
theorem s_M_driftOf {l : Launch} {g : GX} {z : Nat} {G : Nat → Nat → Nat} {F : Nat} (hz : 353 ≤ z) (hG : lyM G) {x1 : Int} {x2 : Int} {I J : Nat → Nat → Int} (hx1 : inR x1) (hx2 : inR x2) {res : Int} (h : f_M_driftOf F x1 x2 I J = some res) : Spec l g 0 yX11_driftOf cX11_driftOf 3 (some .int) [vR g 296, vI x1, vI x2] (z, I, J, G) (some (vI res)) (inR res) (z, I, J, G) := by
  refine spec_of (μ := mu_M_driftOf) (k := 0) (L0 := [some (vR g 296), some (vI x1), some (vI x2)]) rfl mw_M_driftOf rfl rfl (Nat.le_refl _) (fun φ hb hE => ?_)
  refine z_aload_n dX11_driftOf_0 rfl ?_
  refine y_getR dX11_driftOf_1 cl11 sh_296 (by decide) (Nat.le_trans (by decide) hz) 26 rfl rfl (fl_M_55) (ly_296_26 hG) (by decide) ?_
  refine z_bipush dX11_driftOf_4 (by decide +kernel) ?_
  refine z_aload_n dX11_driftOf_6 rfl ?_
  refine z_nm (fun hN1 => ?_)
  refine y_getI dX11_driftOf_7 cl11 sh_296 (by decide) (Nat.le_trans (by decide) hz) 18 rfl rfl (fl_M_269) ?_
  refine z_imul dX11_driftOf_10 ?_
  refine z_iload_n dX11_driftOf_11 rfl ?_
  refine z_iadd dX11_driftOf_12 ?_
  obtain ⟨hg2, h⟩ := guardE h
  refine y_iald dX11_driftOf_13 sh_309 (by decide) (Nat.le_trans (by decide) hz) (inR_w32 _) hg2 ?_
  refine z_aload_n dX11_driftOf_14 rfl ?_
  refine y_getR dX11_driftOf_15 cl11 sh_296 (by decide) (Nat.le_trans (by decide) hz) 30 rfl rfl (fl_M_67) (ly_296_30 hG) (by decide) ?_
  refine z_bipush dX11_driftOf_18 (by decide +kernel) ?_
  refine z_aload_n dX11_driftOf_20 rfl ?_
  refine y_getI dX11_driftOf_21 cl11 sh_296 (by decide) (Nat.le_trans (by decide) hz) 18 rfl rfl (fl_M_269) ?_
  refine z_imul dX11_driftOf_24 ?_
  refine z_iload_n dX11_driftOf_25 rfl ?_
  refine z_iadd dX11_driftOf_26 ?_
  obtain ⟨hg3, h⟩ := guardE h
  refine y_iald dX11_driftOf_27 sh_313 (by decide) (Nat.le_trans (by decide) hz) (inR_w32 _) hg3 ?_
  obtain ⟨hd4, h⟩ := guardE h
  refine z_idiv dX11_driftOf_28 (hN1.1 313 ((w32 ((w32 (8 * (I 296 18))) + x1))).toNat) hd4 ?_
  obtain rfl := someE h
  exact z_iret dX11_driftOf_29 hE inR_div rfl
set_option maxHeartbeats 1000000 in
theorem t_M_throwsAt_L6 {l : Launch} {g : GX} {φ : CX} {z : Nat} {G : Nat → Nat → Nat} {F : Nat} (hb : cb φ = z) (hz : 353 ≤ z) (hG : lyM G) {x1 : Int} {x2 : Int} {x3 : Int} {x4 : Int} {I J : Nat → Nat → Int} (hx1 : inR x1) (hx2 : inR x2) (hx3 : inR x3) (hx4 : inR x4) {res : (Int) ⊕ (Int)} (h : f_M_throwsAt_L6 F x1 x2 x3 x4 I J = some res) (kE : ∀ e : Int, res = .inl e → ((inR e) → Zt l g φ mu_M_throwsAt 23 [some (vR g 296), some (vI x1), some (vI x2), some (vI x3), some (vI e), none, none] [] (z, I, J, G))) (kS : ∀ s : Int, res = .inr s → (inR s) → Zt l g φ mu_M_throwsAt 6 [some (vR g 296), some (vI x1), some (vI x2), some (vI x3), some (vI s), none, none] [] (z, I, J, G)) : Zt l g φ mu_M_throwsAt 6 [some (vR g 296), some (vI x1), some (vI x2), some (vI x3), some (vI x4), none, none] [] (z, I, J, G) := by
  refine z_aload_n dX11_throwsAt_6 rfl ?_
  refine y_getR dX11_throwsAt_7 cl11 sh_296 (by decide) (Nat.le_trans (by decide) hz) 53 rfl rfl (fl_M_125) (ly_296_53 hG) (by decide) ?_
  refine z_iload dX11_throwsAt_10 rfl ?_
  obtain ⟨hg1, h⟩ := guardE h
  refine z_nm (fun hN2 => ?_)
  refine y_iald dX11_throwsAt_12 sh_332 (by decide) (Nat.le_trans (by decide) hz) hx4 hg1 ?_
  refine z_iconst dX11_throwsAt_13 ?_
  refine z_icmp_eq (tgt := 23) dX11_throwsAt_14 (by decide) (hN2.1 332 (x4).toNat) (inRd (x := (-1)) (by decide)) (fun hc3 => ?_) (fun hc3 => ?_)
  · replace h := ifT hc3 h
    exact kE _ (someE h).symm hx4
  replace h := ifF hc3 h
  refine z_iinc (L' := [some (vR g 296), some (vI x1), some (vI x2), some (vI x3), some (vI (w32 (x4 + 1))), none, none]) dX11_throwsAt_17 rfl rfl rfl rfl ?_
  refine z_goto (tgt := 6) dX11_throwsAt_20 (by decide) ?_
  exact kS _ (someE h).symm (inR_w32 _)
theorem l_M_throwsAt_L6 {l : Launch} {g : GX} {φ : CX} {z : Nat} {G : Nat → Nat → Nat} {F : Nat} (hb : cb φ = z) (hz : 353 ≤ z) (hG : lyM G) {x1 : Int} {x2 : Int} {x3 : Int} {I : Nat → Nat → Int} {J : Nat → Nat → Int} (hx1 : inR x1) (hx2 : inR x2) (hx3 : inR x3) (n : Nat) (s : Int) (e : Int) (h : iter (fun s : Int => f_M_throwsAt_L6 F x1 x2 x3 s I J) n s = some e) (hs : inR s) (k : ((inR e) → Zt l g φ mu_M_throwsAt 23 [some (vR g 296), some (vI x1), some (vI x2), some (vI x3), some (vI e), none, none] [] (z, I, J, G))) : Zt l g φ mu_M_throwsAt 6 [some (vR g 296), some (vI x1), some (vI x2), some (vI x3), some (vI s), none, none] [] (z, I, J, G) := by
  refine iter_ind (Z := fun s : Int => Zt l g φ mu_M_throwsAt 6 [some (vR g 296), some (vI x1), some (vI x2), some (vI x3), some (vI s), none, none] [] (z, I, J, G)) (ZE := fun e : Int => ((inR e) → Zt l g φ mu_M_throwsAt 23 [some (vR g 296), some (vI x1), some (vI x2), some (vI x3), some (vI e), none, none] [] (z, I, J, G))) (Rg := fun s : Int => inR s) ?_ n s e h hs k
  intro s r hr hst kE kS
  exact t_M_throwsAt_L6 hb hz hG hx1 hx2 hx3 hr hst kE kS
set_option maxHeartbeats 1000000 in
theorem s_M_throwsAt {l : Launch} {g : GX} {z : Nat} {G : Nat → Nat → Nat} {F : Nat} (hz : 353 ≤ z) (hG : lyM G) {x1 : Int} {x2 : Int} {x3 : Int} {I J : Nat → Nat → Int} (hx1 : inR x1) (hx2 : inR x2) (hx3 : inR x3) {res : Int × MI} (h : f_M_throwsAt F x1 x2 x3 I J = some res) : Spec l g 1 yX11_throwsAt cX11_throwsAt 7 (some .int) [vR g 296, vI x1, vI x2, vI x3] (z, I, J, G) (some (vI res.1)) (inR res.1) (z, res.2, J, G) := by
  refine spec_of (μ := mu_M_throwsAt) (k := 3) (L0 := [some (vR g 296), some (vI x1), some (vI x2), some (vI x3), none, none, none]) rfl mw_M_throwsAt rfl rfl (Nat.le_refl _) (fun φ hb hE => ?_)
  refine z_bipush dX11_throwsAt_0 (by decide +kernel) ?_
  refine z_iload_n dX11_throwsAt_2 rfl ?_
  refine z_imul dX11_throwsAt_3 ?_
  refine z_istore (L' := [some (vR g 296), some (vI x1), some (vI x2), some (vI x3), some (vI (w32 (9 * x1))), none, none]) dX11_throwsAt_4 rfl rfl rfl ?_
  obtain ⟨e4, h5, h⟩ := bindE h
  refine l_M_throwsAt_L6 hb hz hG hx1 hx2 hx3 _ _ _ h5 (inR_w32 _) ?_
  refine fun h6 => ?_
  refine z_iload_n dX11_throwsAt_23 rfl ?_
  refine z_aload_n dX11_throwsAt_24 rfl ?_
  refine z_iload_n dX11_throwsAt_25 rfl ?_
  refine z_iload_n dX11_throwsAt_26 rfl ?_
  obtain ⟨q7, hq8, h⟩ := bindE h
  refine z_callV (As := [vI x1, vI x3]) (rest := [vI x2]) (s_M_driftOf hz hG hx1 hx3 hq8) dX11_throwsAt_27 mw_M_driftOf cl11 sh_296 (by decide) (Nat.le_trans (by decide) hz) ml_M_358 im_M_driftOf se_M_driftOf rfl rfl rfl rfl (Nat.le_refl _) (Nat.le_of_eq hb.symm) (fun hp9 => ?_)
  show Zt _ _ _ _ 30 _ [vI q7, vI x2] (z, I, J, G)
  refine z_iadd dX11_throwsAt_30 ?_
  refine z_istore (L' := [some (vR g 296), some (vI x1), some (vI x2), some (vI x3), some (vI e4), some (vI (w32 (x2 + q7))), none]) dX11_throwsAt_31 rfl rfl rfl ?_
  refine z_iload dX11_throwsAt_33 rfl ?_
  refine z_aload_n dX11_throwsAt_35 rfl ?_
  refine y_getR dX11_throwsAt_36 cl11 sh_296 (by decide) (Nat.le_trans (by decide) hz) 22 rfl rfl (fl_M_43) (ly_296_22 hG) (by decide) ?_
  refine z_aload_n dX11_throwsAt_39 rfl ?_
  refine z_nm (fun hN10 => ?_)
  refine y_getI dX11_throwsAt_40 cl11 sh_296 (by decide) (Nat.le_trans (by decide) hz) 18 rfl rfl (fl_M_269) ?_
  obtain ⟨hg11, h⟩ := guardE h
  refine y_iald dX11_throwsAt_43 sh_305 (by decide) (Nat.le_trans (by decide) hz) (hN10.1 296 18) hg11 ?_
  refine z_icmp_lt (tgt := 59) dX11_throwsAt_44 (by decide) (inR_w32 _) (hN10.1 305 ((I 296 18)).toNat) (fun hc12 => ?_) (fun hc12 => ?_)
  · replace h := ifT hc12 h
    refine z_bipush dX11_throwsAt_59 (by decide +kernel) ?_
    refine z_iload_n dX11_throwsAt_61 rfl ?_
    refine z_imul dX11_throwsAt_62 ?_
    refine z_iload dX11_throwsAt_63 rfl ?_
    refine z_iadd dX11_throwsAt_65 ?_
    refine z_istore (L' := [some (vR g 296), some (vI x1), some (vI x2), some (vI x3), some (vI e4), some (vI (w32 (x2 + q7))), some (vI (w32 ((w32 (12 * x3)) + (w32 (x2 + q7)))))]) dX11_throwsAt_66 rfl rfl rfl ?_
    refine z_aload_n dX11_throwsAt_68 rfl ?_
    refine y_getR dX11_throwsAt_69 cl11 sh_296 (by decide) (Nat.le_trans (by decide) hz) 53 rfl rfl (fl_M_125) (ly_296_53 hG) (by decide) ?_
    refine z_iload dX11_throwsAt_72 rfl ?_
    refine z_iload dX11_throwsAt_74 rfl ?_
    obtain ⟨hg13, h⟩ := guardE h
    refine y_iast dX11_throwsAt_76 sh_332 (by decide) (Nat.le_trans (by decide) hz) h6 hg13 (inR_w32 _) ?_
    refine z_aload_n dX11_throwsAt_77 rfl ?_
    refine y_getR dX11_throwsAt_78 cl11 sh_296 (by decide) (Nat.le_trans (by decide) hz) 53 rfl rfl (fl_M_125) (ly_296_53 hG) (by decide) ?_
    refine z_bipush dX11_throwsAt_81 (by decide +kernel) ?_
    refine z_iload dX11_throwsAt_83 rfl ?_
    refine z_iadd dX11_throwsAt_85 ?_
    refine z_aload_n dX11_throwsAt_86 rfl ?_
    refine y_getR dX11_throwsAt_87 cl11 sh_296 (by decide) (Nat.le_trans (by decide) hz) 54 rfl rfl (fl_M_128) (ly_296_54 hG) (by decide) ?_
    refine z_iload dX11_throwsAt_90 rfl ?_
    obtain ⟨hg14, h⟩ := guardE h
    refine z_nm (fun hN15 => ?_)
    refine y_iald dX11_throwsAt_92 sh_333 (by decide) (Nat.le_trans (by decide) hz) (inR_w32 _) hg14 ?_
    obtain ⟨hg16, h⟩ := guardE h
    refine y_iast dX11_throwsAt_93 sh_332 (by decide) (Nat.le_trans (by decide) hz) (inR_w32 _) hg16 (hN15.1 333 ((w32 ((w32 (12 * x3)) + (w32 (x2 + q7))))).toNat) ?_
    refine z_aload_n dX11_throwsAt_94 rfl ?_
    refine y_getR dX11_throwsAt_95 cl11 sh_296 (by decide) (Nat.le_trans (by decide) hz) 54 rfl rfl (fl_M_128) (ly_296_54 hG) (by decide) ?_
    refine z_iload dX11_throwsAt_98 rfl ?_
    refine z_dup2 dX11_throwsAt_100 rfl rfl ?_
    refine z_nm (fun hN17 => ?_)
    refine y_iald dX11_throwsAt_101 sh_333 (by decide) (Nat.le_trans (by decide) hz) (inR_w32 _) hg14 ?_
    refine z_iconst dX11_throwsAt_102 ?_
    refine z_iadd dX11_throwsAt_103 ?_
    refine y_iast dX11_throwsAt_104 sh_333 (by decide) (Nat.le_trans (by decide) hz) (inR_w32 _) hg14 (inR_w32 _) ?_
    refine z_aload_n dX11_throwsAt_105 rfl ?_
    refine y_getR dX11_throwsAt_106 cl11 sh_296 (by decide) (Nat.le_trans (by decide) hz) 53 rfl rfl (fl_M_125) (ly_296_53 hG) (by decide) ?_
    refine z_sipush dX11_throwsAt_109 (by decide +kernel) ?_
    refine z_iload dX11_throwsAt_112 rfl ?_
    refine z_iadd dX11_throwsAt_114 ?_
    refine z_iconst dX11_throwsAt_115 ?_
    obtain ⟨hg18, h⟩ := guardE h
    refine y_iast dX11_throwsAt_116 sh_332 (by decide) (Nat.le_trans (by decide) hz) (inR_w32 _) hg18 (inRd (x := 0) (by decide)) ?_
    refine z_iload dX11_throwsAt_117 rfl ?_
    obtain rfl := someE h
    exact z_iret dX11_throwsAt_119 hE (inR_w32 _) rfl
  replace h := ifF hc12 h
  refine z_aload_n dX11_throwsAt_47 rfl ?_
  refine y_getR dX11_throwsAt_48 cl11 sh_296 (by decide) (Nat.le_trans (by decide) hz) 53 rfl rfl (fl_M_125) (ly_296_53 hG) (by decide) ?_
  refine z_iload dX11_throwsAt_51 rfl ?_
  refine z_bipush dX11_throwsAt_53 (by decide +kernel) ?_
  obtain ⟨hg19, h⟩ := guardE h
  refine y_iast dX11_throwsAt_55 sh_332 (by decide) (Nat.le_trans (by decide) hz) h6 hg19 (inRd (x := (-2)) (by decide)) ?_
  refine z_bipush dX11_throwsAt_56 (by decide +kernel) ?_
  obtain rfl := someE h
  exact z_iret dX11_throwsAt_58 hE (inRd (x := (-2)) (by decide)) rfl
set_option maxHeartbeats 1000000 in
theorem t_M_carries_L45 {l : Launch} {g : GX} {φ : CX} {z : Nat} {G : Nat → Nat → Nat} {F : Nat} (hb : cb φ = z) (hz : 353 ≤ z) (hG : lyM G) {x1 : Int} {x2 : Int} {x4 : Int} {x6 : Int} {x7 : Int} {I J : Nat → Nat → Int} (hx1 : inR x1) (hx2 : inR x2) (hx4 : inR x4) (hx6 : inR x6) (hx7 : inR x7) {res : (MI) ⊕ (Int × MI)} (h : f_M_carries_L45 F x1 x2 x4 x6 x7 I J = some res) (kE : ∀ e : MI, res = .inl e → ((True) → Zt l g φ mu_M_carries 124 [some (vR g 296), some (vI x1), some (vI x2), none, some (vI x4), none, some (vI x6), none] [] (z, e, J, G))) (kS : ∀ s : Int × MI, res = .inr s → (inR s.1) → Zt l g φ mu_M_carries 45 [some (vR g 296), some (vI x1), some (vI x2), none, some (vI x4), none, some (vI x6), some (vI s.1)] [] (z, s.2, J, G)) : Zt l g φ mu_M_carries 45 [some (vR g 296), some (vI x1), some (vI x2), none, some (vI x4), none, some (vI x6), some (vI x7)] [] (z, I, J, G) := by
  refine z_iload dX11_carries_45 rfl ?_
  refine z_bipush dX11_carries_47 (by decide +kernel) ?_
  refine z_icmp_ge (tgt := 124) dX11_carries_49 (by decide) hx7 (inRd (x := 72) (by decide)) (fun hc5 => ?_) (fun hc5 => ?_)
  · replace h := ifT hc5 h
    refine z_weak (L' := [some (vR g 296), some (vI x1), some (vI x2), none, some (vI x4), none, some (vI x6), none]) (lsS (lsS (lsS (lsN (lsS (lsN (lsS (lsN ls0)))))))) ?_
    exact kE _ (someE h).symm trivial
  replace h := ifF hc5 h
  refine z_aload_n dX11_carries_52 rfl ?_
  refine y_getR dX11_carries_53 cl11 sh_296 (by decide) (Nat.le_trans (by decide) hz) 53 rfl rfl (fl_M_125) (ly_296_53 hG) (by decide) ?_
  refine z_iload dX11_carries_56 rfl ?_
  obtain ⟨hg6, h⟩ := guardE h
  refine z_nm (fun hN7 => ?_)
  refine y_iald dX11_carries_58 sh_332 (by decide) (Nat.le_trans (by decide) hz) hx7 hg6 ?_
  refine z_iload_n dX11_carries_59 rfl ?_
  refine z_icmp_ne (tgt := 118) dX11_carries_60 (by decide) (hN7.1 332 (x7).toNat) hx1 (fun hc8 => ?_) (fun hc8 => ?_)
  · replace h := ifT hc8 h
    refine z_iinc (L' := [some (vR g 296), some (vI x1), some (vI x2), none, some (vI x4), none, some (vI x6), some (vI (w32 (x7 + 1)))]) dX11_carries_118 rfl rfl rfl rfl ?_
    refine z_goto (tgt := 45) dX11_carries_121 (by decide) ?_
    exact kS _ (someE h).symm (inR_w32 _)
  replace h := ifF (fun q => q hc8) h
  refine z_aload_n dX11_carries_63 rfl ?_
  refine y_getR dX11_carries_64 cl11 sh_296 (by decide) (Nat.le_trans (by decide) hz) 53 rfl rfl (fl_M_125) (ly_296_53 hG) (by decide) ?_
  refine z_bipush dX11_carries_67 (by decide +kernel) ?_
  refine z_iload dX11_carries_69 rfl ?_
  refine z_iadd dX11_carries_71 ?_
  obtain ⟨hg9, h⟩ := guardE h
  refine y_iald dX11_carries_72 sh_332 (by decide) (Nat.le_trans (by decide) hz) (inR_w32 _) hg9 ?_
  refine z_iload dX11_carries_73 rfl ?_
  refine z_icmp_ge (tgt := 81) dX11_carries_75 (by decide) (hN7.1 332 ((w32 (72 + x7))).toNat) hx4 (fun hc10 => ?_) (fun hc10 => ?_)
  · replace h := ifT hc10 h
    refine z_aload_n dX11_carries_81 rfl ?_
    refine y_getR dX11_carries_82 cl11 sh_296 (by decide) (Nat.le_trans (by decide) hz) 53 rfl rfl (fl_M_125) (ly_296_53 hG) (by decide) ?_
    refine z_iload dX11_carries_85 rfl ?_
    refine z_iload dX11_carries_87 rfl ?_
    refine y_iast dX11_carries_89 sh_332 (by decide) (Nat.le_trans (by decide) hz) hx7 hg6 hx6 ?_
    refine z_iload dX11_carries_90 rfl ?_
    refine z_if_lt (tgt := 118) dX11_carries_92 (by decide) hx6 (fun hc11 => ?_) (fun hc11 => ?_)
    · replace h := ifT hc11 h
      refine z_iinc (L' := [some (vR g 296), some (vI x1), some (vI x2), none, some (vI x4), none, some (vI x6), some (vI (w32 (x7 + 1)))]) dX11_carries_118 rfl rfl rfl rfl ?_
      refine z_goto (tgt := 45) dX11_carries_121 (by decide) ?_
      exact kS _ (someE h).symm (inR_w32 _)
    replace h := ifF hc11 h
    refine z_aload_n dX11_carries_95 rfl ?_
    refine y_getR dX11_carries_96 cl11 sh_296 (by decide) (Nat.le_trans (by decide) hz) 53 rfl rfl (fl_M_125) (ly_296_53 hG) (by decide) ?_
    refine z_bipush dX11_carries_99 (by decide +kernel) ?_
    refine z_iload dX11_carries_101 rfl ?_
    refine z_iadd dX11_carries_103 ?_
    refine z_dup2 dX11_carries_104 rfl rfl ?_
    refine z_nm (fun hN12 => ?_)
    refine y_iald dX11_carries_105 sh_332 (by decide) (Nat.le_trans (by decide) hz) (inR_w32 _) hg9 ?_
    refine z_aload_n dX11_carries_106 rfl ?_
    refine y_getR dX11_carries_107 cl11 sh_296 (by decide) (Nat.le_trans (by decide) hz) 54 rfl rfl (fl_M_128) (ly_296_54 hG) (by decide) ?_
    refine z_iload dX11_carries_110 rfl ?_
    obtain ⟨hg13, h⟩ := guardE h
    refine y_iald dX11_carries_112 sh_333 (by decide) (Nat.le_trans (by decide) hz) hx6 hg13 ?_
    refine z_iload dX11_carries_113 rfl ?_
    refine z_isub dX11_carries_115 ?_
    refine z_iadd dX11_carries_116 ?_
    refine y_iast dX11_carries_117 sh_332 (by decide) (Nat.le_trans (by decide) hz) (inR_w32 _) hg9 (inR_w32 _) ?_
    refine z_iinc (L' := [some (vR g 296), some (vI x1), some (vI x2), none, some (vI x4), none, some (vI x6), some (vI (w32 (x7 + 1)))]) dX11_carries_118 rfl rfl rfl rfl ?_
    refine z_goto (tgt := 45) dX11_carries_121 (by decide) ?_
    exact kS _ (someE h).symm (inR_w32 _)
  replace h := ifF hc10 h
  refine z_goto (tgt := 118) dX11_carries_78 (by decide) ?_
  refine z_iinc (L' := [some (vR g 296), some (vI x1), some (vI x2), none, some (vI x4), none, some (vI x6), some (vI (w32 (x7 + 1)))]) dX11_carries_118 rfl rfl rfl rfl ?_
  refine z_goto (tgt := 45) dX11_carries_121 (by decide) ?_
  exact kS _ (someE h).symm (inR_w32 _)
theorem l_M_carries_L45 {l : Launch} {g : GX} {φ : CX} {z : Nat} {G : Nat → Nat → Nat} {F : Nat} (hb : cb φ = z) (hz : 353 ≤ z) (hG : lyM G) {x1 : Int} {x2 : Int} {x4 : Int} {x6 : Int} {J : Nat → Nat → Int} (hx1 : inR x1) (hx2 : inR x2) (hx4 : inR x4) (hx6 : inR x6) (n : Nat) (s : Int × MI) (e : MI) (h : iter (fun s : Int × MI => f_M_carries_L45 F x1 x2 x4 x6 s.1 s.2 J) n s = some e) (hs : inR s.1) (k : ((True) → Zt l g φ mu_M_carries 124 [some (vR g 296), some (vI x1), some (vI x2), none, some (vI x4), none, some (vI x6), none] [] (z, e, J, G))) : Zt l g φ mu_M_carries 45 [some (vR g 296), some (vI x1), some (vI x2), none, some (vI x4), none, some (vI x6), some (vI s.1)] [] (z, s.2, J, G) := by
  refine iter_ind (Z := fun s : Int × MI => Zt l g φ mu_M_carries 45 [some (vR g 296), some (vI x1), some (vI x2), none, some (vI x4), none, some (vI x6), some (vI s.1)] [] (z, s.2, J, G)) (ZE := fun e : MI => ((True) → Zt l g φ mu_M_carries 124 [some (vR g 296), some (vI x1), some (vI x2), none, some (vI x4), none, some (vI x6), none] [] (z, e, J, G))) (Rg := fun s : Int × MI => inR s.1) ?_ n s e h hs k
  intro s r hr hst kE kS
  exact t_M_carries_L45 hb hz hG hx1 hx2 hx4 hx6 hr hst kE kS
set_option maxHeartbeats 1000000 in
theorem t_M_carries_b40 {l : Launch} {g : GX} {φ : CX} {z : Nat} {G : Nat → Nat → Nat} {F : Nat} (hb : cb φ = z) (hz : 353 ≤ z) (hG : lyM G) {x1 : Int} {x2 : Int} {x4 : Int} {s0 : Int} {I J : Nat → Nat → Int} (hx1 : inR x1) (hx2 : inR x2) (hx4 : inR x4) (hs0 : inR s0) {res : MI} (h : f_M_carries_b40 F x1 x2 x4 s0 I J = some res) (hE : ends g φ none none True (z, res, J, G)) : Zt l g φ mu_M_carries 40 [some (vR g 296), some (vI x1), some (vI x2), none, some (vI x4), none, none, none] [vI s0] (z, I, J, G) := by
  refine z_istore (L' := [some (vR g 296), some (vI x1), some (vI x2), none, some (vI x4), none, some (vI s0), none]) dX11_carries_40 rfl rfl rfl ?_
  refine z_iconst dX11_carries_42 ?_
  refine z_istore (L' := [some (vR g 296), some (vI x1), some (vI x2), none, some (vI x4), none, some (vI s0), some (vI 0)]) dX11_carries_43 rfl rfl rfl ?_
  obtain ⟨e14, h15, h⟩ := bindE h
  refine l_M_carries_L45 hb hz hG hx1 hx2 hx4 hs0 _ _ _ h15 (inRd (x := 0) (by decide)) ?_
  refine fun h16 => ?_
  refine z_aload_n dX11_carries_124 rfl ?_
  refine y_getR dX11_carries_125 cl11 sh_296 (by decide) (Nat.le_trans (by decide) hz) 54 rfl rfl (fl_M_128) (ly_296_54 hG) (by decide) ?_
  refine z_iload_n dX11_carries_128 rfl ?_
  refine z_iload dX11_carries_129 rfl ?_
  obtain ⟨hg17, h⟩ := guardE h
  refine y_iast dX11_carries_131 sh_333 (by decide) (Nat.le_trans (by decide) hz) hx1 hg17 hx4 ?_
  refine z_aload_n dX11_carries_132 rfl ?_
  refine y_getR dX11_carries_133 cl11 sh_296 (by decide) (Nat.le_trans (by decide) hz) 53 rfl rfl (fl_M_125) (ly_296_53 hG) (by decide) ?_
  refine z_sipush dX11_carries_136 (by decide +kernel) ?_
  refine z_iload_n dX11_carries_139 rfl ?_
  refine z_iadd dX11_carries_140 ?_
  refine z_iconst dX11_carries_141 ?_
  obtain ⟨hg18, h⟩ := guardE h
  refine y_iast dX11_carries_142 sh_332 (by decide) (Nat.le_trans (by decide) hz) (inR_w32 _) hg18 (inRd (x := 0) (by decide)) ?_
  refine z_iload dX11_carries_143 rfl ?_
  refine z_if_ge (tgt := 149) dX11_carries_145 (by decide) hs0 (fun hc19 => ?_) (fun hc19 => ?_)
  · replace h := ifT hc19 h
    refine z_aload_n dX11_carries_149 rfl ?_
    refine y_getR dX11_carries_150 cl11 sh_296 (by decide) (Nat.le_trans (by decide) hz) 54 rfl rfl (fl_M_128) (ly_296_54 hG) (by decide) ?_
    refine z_iload dX11_carries_153 rfl ?_
    refine z_dup2 dX11_carries_155 rfl rfl ?_
    obtain ⟨hg20, h⟩ := guardE h
    refine z_nm (fun hN21 => ?_)
    refine y_iald dX11_carries_156 sh_333 (by decide) (Nat.le_trans (by decide) hz) hs0 hg20 ?_
    refine z_iload_n dX11_carries_157 rfl ?_
    refine z_iadd dX11_carries_158 ?_
    refine y_iast dX11_carries_159 sh_333 (by decide) (Nat.le_trans (by decide) hz) hs0 hg20 (inR_w32 _) ?_
    refine z_aload_n dX11_carries_160 rfl ?_
    refine y_getR dX11_carries_161 cl11 sh_296 (by decide) (Nat.le_trans (by decide) hz) 53 rfl rfl (fl_M_125) (ly_296_53 hG) (by decide) ?_
    refine z_sipush dX11_carries_164 (by decide +kernel) ?_
    refine z_iload dX11_carries_167 rfl ?_
    refine z_iadd dX11_carries_169 ?_
    refine z_iconst dX11_carries_170 ?_
    obtain ⟨hg22, h⟩ := guardE h
    refine y_iast dX11_carries_171 sh_332 (by decide) (Nat.le_trans (by decide) hz) (inR_w32 _) hg22 (inRd (x := 0) (by decide)) ?_
    obtain rfl := someE h
    exact z_vret dX11_carries_172 hE trivial rfl
  replace h := ifF hc19 h
  obtain rfl := someE h
  exact z_vret dX11_carries_148 hE trivial rfl
set_option maxHeartbeats 1000000 in
theorem s_M_carries {l : Launch} {g : GX} {z : Nat} {G : Nat → Nat → Nat} {F : Nat} (hz : 353 ≤ z) (hG : lyM G) {x1 : Int} {x2 : Int} {x3 : Int} {I J : Nat → Nat → Int} (hx1 : inR x1) (hx2 : inR x2) (hx3 : inR x3) {res : MI} (h : f_M_carries F x1 x2 x3 I J = some res) : Spec l g 0 yX11_carries cX11_carries 8 none [vR g 296, vI x1, vI x2, vI x3] (z, I, J, G) none True (z, res, J, G) := by
  refine spec_of (μ := mu_M_carries) (k := 4) (L0 := [some (vR g 296), some (vI x1), some (vI x2), some (vI x3), none, none, none, none]) rfl mw_M_carries rfl rfl (Nat.le_refl _) (fun φ hb hE => ?_)
  refine z_aload_n dX11_carries_0 rfl ?_
  refine y_getR dX11_carries_1 cl11 sh_296 (by decide) (Nat.le_trans (by decide) hz) 54 rfl rfl (fl_M_128) (ly_296_54 hG) (by decide) ?_
  refine z_iload_n dX11_carries_4 rfl ?_
  obtain ⟨hg1, h⟩ := guardE h
  refine z_nm (fun hN2 => ?_)
  refine y_iald dX11_carries_5 sh_333 (by decide) (Nat.le_trans (by decide) hz) hx1 hg1 ?_
  refine z_iload_n dX11_carries_6 rfl ?_
  refine z_isub dX11_carries_7 ?_
  refine z_istore (L' := [some (vR g 296), some (vI x1), some (vI x2), some (vI x3), some (vI (w32 ((I 333 (x1).toNat) - x2))), none, none, none]) dX11_carries_8 rfl rfl rfl ?_
  refine z_iload_n dX11_carries_10 rfl ?_
  refine z_bipush dX11_carries_11 (by decide +kernel) ?_
  refine z_irem dX11_carries_13 (inRd (x := 12) (by decide)) (by decide) ?_
  refine z_iload_n dX11_carries_14 rfl ?_
  refine z_iadd dX11_carries_15 ?_
  refine z_istore (L' := [some (vR g 296), some (vI x1), some (vI x2), some (vI x3), some (vI (w32 ((I 333 (x1).toNat) - x2))), some (vI (w32 ((rem32 x1 12) + x3))), none, none]) dX11_carries_16 rfl rfl rfl ?_
  refine z_iload dX11_carries_18 rfl ?_
  refine z_aload_n dX11_carries_20 rfl ?_
  refine y_getR dX11_carries_21 cl11 sh_296 (by decide) (Nat.le_trans (by decide) hz) 22 rfl rfl (fl_M_43) (ly_296_22 hG) (by decide) ?_
  refine z_aload_n dX11_carries_24 rfl ?_
  refine y_getI dX11_carries_25 cl11 sh_296 (by decide) (Nat.le_trans (by decide) hz) 18 rfl rfl (fl_M_269) ?_
  obtain ⟨hg3, h⟩ := guardE h
  refine y_iald dX11_carries_28 sh_305 (by decide) (Nat.le_trans (by decide) hz) (hN2.1 296 18) hg3 ?_
  refine z_icmp_ge (tgt := 38) dX11_carries_29 (by decide) (inR_w32 _) (hN2.1 305 ((I 296 18)).toNat) (fun hc4 => ?_) (fun hc4 => ?_)
  · replace h := ifT hc4 h
    refine z_bipush dX11_carries_38 (by decide +kernel) ?_
    refine z_weak (L' := [some (vR g 296), some (vI x1), some (vI x2), none, some (vI (w32 ((I 333 (x1).toNat) - x2))), none, none, none]) (lsS (lsS (lsS (lsN (lsS (lsN (lsN (lsN ls0)))))))) ?_
    exact t_M_carries_b40 hb hz hG hx1 hx2 (inR_w32 _) (inRd (x := (-2)) (by decide)) h hE
  replace h := ifF hc4 h
  refine z_iload_n dX11_carries_32 rfl ?_
  refine z_iload_n dX11_carries_33 rfl ?_
  refine z_iadd dX11_carries_34 ?_
  refine z_goto (tgt := 40) dX11_carries_35 (by decide) ?_
  refine z_weak (L' := [some (vR g 296), some (vI x1), some (vI x2), none, some (vI (w32 ((I 333 (x1).toNat) - x2))), none, none, none]) (lsS (lsS (lsS (lsN (lsS (lsN (lsN (lsN ls0)))))))) ?_
  exact t_M_carries_b40 hb hz hG hx1 hx2 (inR_w32 _) (inR_w32 _) h hE
set_option maxHeartbeats 1000000 in
theorem t_M_dayGoes_L2 {l : Launch} {g : GX} {φ : CX} {z : Nat} {G : Nat → Nat → Nat} {F : Nat} (hb : cb φ = z) (hz : 353 ≤ z) (hG : lyM G) {x1 : Int} {I J : Nat → Nat → Int} (hx1 : inR x1) {res : (MI) ⊕ (Int × MI)} (h : f_M_dayGoes_L2 F x1 I J = some res) (kE : ∀ e : MI, res = .inl e → ((True) → Zt l g φ mu_M_dayGoes 52 [some (vR g 296), none, none, none, none, none, none] [] (z, e, J, G))) (kS : ∀ s : Int × MI, res = .inr s → (inR s.1) → Zt l g φ mu_M_dayGoes 2 [some (vR g 296), some (vI s.1), none, none, none, none, none] [] (z, s.2, J, G)) : Zt l g φ mu_M_dayGoes 2 [some (vR g 296), some (vI x1), none, none, none, none, none] [] (z, I, J, G) := by
  refine z_iload_n dX11_dayGoes_2 rfl ?_
  refine z_bipush dX11_dayGoes_3 (by decide +kernel) ?_
  refine z_icmp_ge (tgt := 52) dX11_dayGoes_5 (by decide) hx1 (inRd (x := 96) (by decide)) (fun hc1 => ?_) (fun hc1 => ?_)
  · replace h := ifT hc1 h
    refine z_weak (L' := [some (vR g 296), none, none, none, none, none, none]) (lsS (lsN (lsN (lsN (lsN (lsN (lsN ls0))))))) ?_
    exact kE _ (someE h).symm trivial
  replace h := ifF hc1 h
  refine z_aload_n dX11_dayGoes_8 rfl ?_
  refine y_getR dX11_dayGoes_9 cl11 sh_296 (by decide) (Nat.le_trans (by decide) hz) 54 rfl rfl (fl_M_128) (ly_296_54 hG) (by decide) ?_
  refine z_iload_n dX11_dayGoes_12 rfl ?_
  obtain ⟨hg2, h⟩ := guardE h
  refine z_nm (fun hN3 => ?_)
  refine y_iald dX11_dayGoes_13 sh_333 (by decide) (Nat.le_trans (by decide) hz) hx1 hg2 ?_
  refine z_if_le (tgt := 46) dX11_dayGoes_14 (by decide) (hN3.1 333 (x1).toNat) (fun hc4 => ?_) (fun hc4 => ?_)
  · replace h := ifT hc4 h
    refine z_iinc (L' := [some (vR g 296), some (vI (w32 (x1 + 1))), none, none, none, none, none]) dX11_dayGoes_46 rfl rfl rfl rfl ?_
    refine z_goto (tgt := 2) dX11_dayGoes_49 (by decide) ?_
    exact kS _ (someE h).symm (inR_w32 _)
  replace h := ifF hc4 h
  refine z_aload_n dX11_dayGoes_17 rfl ?_
  refine y_getR dX11_dayGoes_18 cl11 sh_296 (by decide) (Nat.le_trans (by decide) hz) 53 rfl rfl (fl_M_125) (ly_296_53 hG) (by decide) ?_
  refine z_sipush dX11_dayGoes_21 (by decide +kernel) ?_
  refine z_iload_n dX11_dayGoes_24 rfl ?_
  refine z_iadd dX11_dayGoes_25 ?_
  obtain ⟨hg5, h⟩ := guardE h
  refine y_iald dX11_dayGoes_26 sh_332 (by decide) (Nat.le_trans (by decide) hz) (inR_w32 _) hg5 ?_
  refine z_bipush dX11_dayGoes_27 (by decide +kernel) ?_
  refine z_icmp_ge (tgt := 46) dX11_dayGoes_29 (by decide) (hN3.1 332 ((w32 (144 + x1))).toNat) (inRd (x := 99) (by decide)) (fun hc6 => ?_) (fun hc6 => ?_)
  · replace h := ifT hc6 h
    refine z_iinc (L' := [some (vR g 296), some (vI (w32 (x1 + 1))), none, none, none, none, none]) dX11_dayGoes_46 rfl rfl rfl rfl ?_
    refine z_goto (tgt := 2) dX11_dayGoes_49 (by decide) ?_
    exact kS _ (someE h).symm (inR_w32 _)
  replace h := ifF hc6 h
  refine z_aload_n dX11_dayGoes_32 rfl ?_
  refine y_getR dX11_dayGoes_33 cl11 sh_296 (by decide) (Nat.le_trans (by decide) hz) 53 rfl rfl (fl_M_125) (ly_296_53 hG) (by decide) ?_
  refine z_sipush dX11_dayGoes_36 (by decide +kernel) ?_
  refine z_iload_n dX11_dayGoes_39 rfl ?_
  refine z_iadd dX11_dayGoes_40 ?_
  refine z_dup2 dX11_dayGoes_41 rfl rfl ?_
  refine y_iald dX11_dayGoes_42 sh_332 (by decide) (Nat.le_trans (by decide) hz) (inR_w32 _) hg5 ?_
  refine z_iconst dX11_dayGoes_43 ?_
  refine z_iadd dX11_dayGoes_44 ?_
  refine y_iast dX11_dayGoes_45 sh_332 (by decide) (Nat.le_trans (by decide) hz) (inR_w32 _) hg5 (inR_w32 _) ?_
  refine z_iinc (L' := [some (vR g 296), some (vI (w32 (x1 + 1))), none, none, none, none, none]) dX11_dayGoes_46 rfl rfl rfl rfl ?_
  refine z_goto (tgt := 2) dX11_dayGoes_49 (by decide) ?_
  exact kS _ (someE h).symm (inR_w32 _)
theorem l_M_dayGoes_L2 {l : Launch} {g : GX} {φ : CX} {z : Nat} {G : Nat → Nat → Nat} {F : Nat} (hb : cb φ = z) (hz : 353 ≤ z) (hG : lyM G) {J : Nat → Nat → Int} (n : Nat) (s : Int × MI) (e : MI) (h : iter (fun s : Int × MI => f_M_dayGoes_L2 F s.1 s.2 J) n s = some e) (hs : inR s.1) (k : ((True) → Zt l g φ mu_M_dayGoes 52 [some (vR g 296), none, none, none, none, none, none] [] (z, e, J, G))) : Zt l g φ mu_M_dayGoes 2 [some (vR g 296), some (vI s.1), none, none, none, none, none] [] (z, s.2, J, G) := by
  refine iter_ind (Z := fun s : Int × MI => Zt l g φ mu_M_dayGoes 2 [some (vR g 296), some (vI s.1), none, none, none, none, none] [] (z, s.2, J, G)) (ZE := fun e : MI => ((True) → Zt l g φ mu_M_dayGoes 52 [some (vR g 296), none, none, none, none, none, none] [] (z, e, J, G))) (Rg := fun s : Int × MI => inR s.1) ?_ n s e h hs k
  intro s r hr hst kE kS
  exact t_M_dayGoes_L2 hb hz hG hr hst kE kS
set_option maxHeartbeats 1000000 in
theorem t_M_dayGoes_L138 {l : Launch} {g : GX} {φ : CX} {z : Nat} {G : Nat → Nat → Nat} {F : Nat} (hb : cb φ = z) (hz : 353 ≤ z) (hG : lyM G) {x1 : Int} {x2 : Int} {x3 : Int} {x4 : Int} {I J : Nat → Nat → Int} (hx1 : inR x1) (hx2 : inR x2) (hx3 : inR x3) (hx4 : inR x4) {res : (MI) ⊕ (Int × MI)} (h : f_M_dayGoes_L138 F x1 x2 x3 x4 I J = some res) (kE : ∀ e : MI, res = .inl e → ((True) → Zt l g φ mu_M_dayGoes 189 [some (vR g 296), some (vI x1), some (vI x2), some (vI x3), none, none, none] [] (z, e, J, G))) (kS : ∀ s : Int × MI, res = .inr s → (inR s.1) → Zt l g φ mu_M_dayGoes 138 [some (vR g 296), some (vI x1), some (vI x2), some (vI x3), some (vI s.1), none, none] [] (z, s.2, J, G)) : Zt l g φ mu_M_dayGoes 138 [some (vR g 296), some (vI x1), some (vI x2), some (vI x3), some (vI x4), none, none] [] (z, I, J, G) := by
  refine z_iload dX11_dayGoes_138 rfl ?_
  refine z_if_lt (tgt := 189) dX11_dayGoes_140 (by decide) hx4 (fun hc18 => ?_) (fun hc18 => ?_)
  · replace h := ifT hc18 h
    refine z_weak (L' := [some (vR g 296), some (vI x1), some (vI x2), some (vI x3), none, none, none]) (lsS (lsS (lsS (lsS (lsN (lsN (lsN ls0))))))) ?_
    exact kE _ (someE h).symm trivial
  replace h := ifF hc18 h
  refine z_bipush dX11_dayGoes_143 (by decide +kernel) ?_
  refine z_iload_n dX11_dayGoes_145 rfl ?_
  refine z_imul dX11_dayGoes_146 ?_
  refine z_iload dX11_dayGoes_147 rfl ?_
  refine z_iadd dX11_dayGoes_149 ?_
  refine z_istore (L' := [some (vR g 296), some (vI x1), some (vI x2), some (vI x3), some (vI x4), some (vI (w32 ((w32 (12 * x3)) + x4))), none]) dX11_dayGoes_150 rfl rfl rfl ?_
  refine z_aload_n dX11_dayGoes_152 rfl ?_
  refine z_iconst dX11_dayGoes_153 ?_
  refine z_iload dX11_dayGoes_154 rfl ?_
  refine z_iload_n dX11_dayGoes_156 rfl ?_
  refine z_aload_n dX11_dayGoes_157 rfl ?_
  refine y_getR dX11_dayGoes_158 cl11 sh_296 (by decide) (Nat.le_trans (by decide) hz) 54 rfl rfl (fl_M_128) (ly_296_54 hG) (by decide) ?_
  refine z_iload dX11_dayGoes_161 rfl ?_
  obtain ⟨hg19, h⟩ := guardE h
  refine z_nm (fun hN20 => ?_)
  refine y_iald dX11_dayGoes_163 sh_333 (by decide) (Nat.le_trans (by decide) hz) (inR_w32 _) hg19 ?_
  obtain ⟨q21, hq22, h⟩ := bindE h
  refine z_callV (As := [vI 0, vI (w32 ((w32 (12 * x3)) + x4)), vI x2, vI (I 333 ((w32 ((w32 (12 * x3)) + x4))).toNat)]) (rest := []) (s_M_tellsBy hz hG (inRd (x := 0) (by decide)) (inR_w32 _) hx2 (hN20.1 333 ((w32 ((w32 (12 * x3)) + x4))).toNat) hq22) dX11_dayGoes_164 mw_M_tellsBy cl11 sh_296 (by decide) (Nat.le_trans (by decide) hz) ml_M_361 im_M_tellsBy se_M_tellsBy rfl rfl rfl rfl (Nat.le_refl _) (Nat.le_of_eq hb.symm) (fun hp23 => ?_)
  show Zt _ _ _ _ 167 _ [vI q21.1] (z, q21.2, J, G)
  refine z_istore (L' := [some (vR g 296), some (vI x1), some (vI x2), some (vI x3), some (vI x4), some (vI (w32 ((w32 (12 * x3)) + x4))), some (vI q21.1)]) dX11_dayGoes_167 rfl rfl rfl ?_
  refine z_iload dX11_dayGoes_169 rfl ?_
  refine z_if_le (tgt := 183) dX11_dayGoes_171 (by decide) hp23 (fun hc24 => ?_) (fun hc24 => ?_)
  · replace h := ifT hc24 h
    refine z_iinc (L' := [some (vR g 296), some (vI x1), some (vI x2), some (vI x3), some (vI (w32 (x4 + (-1)))), some (vI (w32 ((w32 (12 * x3)) + x4))), some (vI q21.1)]) dX11_dayGoes_183 rfl rfl rfl rfl ?_
    refine z_goto (tgt := 138) dX11_dayGoes_186 (by decide) ?_
    refine z_weak (L' := [some (vR g 296), some (vI x1), some (vI x2), some (vI x3), some (vI (w32 (x4 + (-1)))), none, none]) (lsS (lsS (lsS (lsS (lsS (lsN (lsN ls0))))))) ?_
    exact kS _ (someE h).symm (inR_w32 _)
  replace h := ifF hc24 h
  refine z_aload_n dX11_dayGoes_174 rfl ?_
  refine z_iload dX11_dayGoes_175 rfl ?_
  refine z_iload dX11_dayGoes_177 rfl ?_
  refine z_iload_n dX11_dayGoes_179 rfl ?_
  obtain ⟨q25, hq26, h⟩ := bindE h
  refine z_callV (As := [vI (w32 ((w32 (12 * x3)) + x4)), vI q21.1, vI x2]) (rest := []) (s_M_carries hz hG (inR_w32 _) hp23 hx2 hq26) dX11_dayGoes_180 mw_M_carries cl11 sh_296 (by decide) (Nat.le_trans (by decide) hz) ml_M_365 im_M_carries se_M_carries rfl rfl rfl rfl (Nat.le_refl _) (Nat.le_of_eq hb.symm) (fun hp27 => ?_)
  show Zt _ _ _ _ 183 _ [] (z, q25, J, G)
  refine z_iinc (L' := [some (vR g 296), some (vI x1), some (vI x2), some (vI x3), some (vI (w32 (x4 + (-1)))), some (vI (w32 ((w32 (12 * x3)) + x4))), some (vI q21.1)]) dX11_dayGoes_183 rfl rfl rfl rfl ?_
  refine z_goto (tgt := 138) dX11_dayGoes_186 (by decide) ?_
  refine z_weak (L' := [some (vR g 296), some (vI x1), some (vI x2), some (vI x3), some (vI (w32 (x4 + (-1)))), none, none]) (lsS (lsS (lsS (lsS (lsS (lsN (lsN ls0))))))) ?_
  exact kS _ (someE h).symm (inR_w32 _)
theorem l_M_dayGoes_L138 {l : Launch} {g : GX} {φ : CX} {z : Nat} {G : Nat → Nat → Nat} {F : Nat} (hb : cb φ = z) (hz : 353 ≤ z) (hG : lyM G) {x1 : Int} {x2 : Int} {x3 : Int} {J : Nat → Nat → Int} (hx1 : inR x1) (hx2 : inR x2) (hx3 : inR x3) (n : Nat) (s : Int × MI) (e : MI) (h : iter (fun s : Int × MI => f_M_dayGoes_L138 F x1 x2 x3 s.1 s.2 J) n s = some e) (hs : inR s.1) (k : ((True) → Zt l g φ mu_M_dayGoes 189 [some (vR g 296), some (vI x1), some (vI x2), some (vI x3), none, none, none] [] (z, e, J, G))) : Zt l g φ mu_M_dayGoes 138 [some (vR g 296), some (vI x1), some (vI x2), some (vI x3), some (vI s.1), none, none] [] (z, s.2, J, G) := by
  refine iter_ind (Z := fun s : Int × MI => Zt l g φ mu_M_dayGoes 138 [some (vR g 296), some (vI x1), some (vI x2), some (vI x3), some (vI s.1), none, none] [] (z, s.2, J, G)) (ZE := fun e : MI => ((True) → Zt l g φ mu_M_dayGoes 189 [some (vR g 296), some (vI x1), some (vI x2), some (vI x3), none, none, none] [] (z, e, J, G))) (Rg := fun s : Int × MI => inR s.1) ?_ n s e h hs k
  intro s r hr hst kE kS
  exact t_M_dayGoes_L138 hb hz hG hx1 hx2 hx3 hr hst kE kS
set_option maxHeartbeats 1000000 in
theorem t_M_dayGoes_L112 {l : Launch} {g : GX} {φ : CX} {z : Nat} {G : Nat → Nat → Nat} {F : Nat} (hb : cb φ = z) (hz : 353 ≤ z) (hG : lyM G) {x1 : Int} {x2 : Int} {x3 : Int} {I J : Nat → Nat → Int} (hx1 : inR x1) (hx2 : inR x2) (hx3 : inR x3) {res : (MI) ⊕ (Int × MI)} (h : f_M_dayGoes_L112 F x1 x2 x3 I J = some res) (kE : ∀ e : MI, res = .inl e → ((True) → Zt l g φ mu_M_dayGoes 195 [some (vR g 296), some (vI x1), none, none, none, none, none] [] (z, e, J, G))) (kS : ∀ s : Int × MI, res = .inr s → (inR s.1) → Zt l g φ mu_M_dayGoes 112 [some (vR g 296), some (vI x1), some (vI x2), some (vI s.1), none, none, none] [] (z, s.2, J, G)) : Zt l g φ mu_M_dayGoes 112 [some (vR g 296), some (vI x1), some (vI x2), some (vI x3), none, none, none] [] (z, I, J, G) := by
  refine z_iload_n dX11_dayGoes_112 rfl ?_
  refine z_aload_n dX11_dayGoes_113 rfl ?_
  refine y_getR dX11_dayGoes_114 cl11 sh_296 (by decide) (Nat.le_trans (by decide) hz) 23 rfl rfl (fl_M_46) (ly_296_23 hG) (by decide) ?_
  refine z_aload_n dX11_dayGoes_117 rfl ?_
  refine z_nm (fun hN15 => ?_)
  refine y_getI dX11_dayGoes_118 cl11 sh_296 (by decide) (Nat.le_trans (by decide) hz) 18 rfl rfl (fl_M_269) ?_
  obtain ⟨hg16, h⟩ := guardE h
  refine y_iald dX11_dayGoes_121 sh_306 (by decide) (Nat.le_trans (by decide) hz) (hN15.1 296 18) hg16 ?_
  refine z_icmp_ge (tgt := 195) dX11_dayGoes_122 (by decide) hx3 (hN15.1 306 ((I 296 18)).toNat) (fun hc17 => ?_) (fun hc17 => ?_)
  · replace h := ifT hc17 h
    refine z_weak (L' := [some (vR g 296), some (vI x1), none, none, none, none, none]) (lsS (lsS (lsN (lsN (lsN (lsN (lsN ls0))))))) ?_
    exact kE _ (someE h).symm trivial
  replace h := ifF hc17 h
  refine z_aload_n dX11_dayGoes_125 rfl ?_
  refine y_getR dX11_dayGoes_126 cl11 sh_296 (by decide) (Nat.le_trans (by decide) hz) 22 rfl rfl (fl_M_43) (ly_296_22 hG) (by decide) ?_
  refine z_aload_n dX11_dayGoes_129 rfl ?_
  refine y_getI dX11_dayGoes_130 cl11 sh_296 (by decide) (Nat.le_trans (by decide) hz) 18 rfl rfl (fl_M_269) ?_
  refine y_iald dX11_dayGoes_133 sh_305 (by decide) (Nat.le_trans (by decide) hz) (hN15.1 296 18) hg16 ?_
  refine z_iconst dX11_dayGoes_134 ?_
  refine z_isub dX11_dayGoes_135 ?_
  refine z_istore (L' := [some (vR g 296), some (vI x1), some (vI x2), some (vI x3), some (vI (w32 ((I 305 ((I 296 18)).toNat) - 1))), none, none]) dX11_dayGoes_136 rfl rfl rfl ?_
  obtain ⟨e28, h29, h⟩ := bindE h
  refine l_M_dayGoes_L138 hb hz hG hx1 hx2 hx3 _ _ _ h29 (inR_w32 _) ?_
  refine fun h30 => ?_
  refine z_iinc (L' := [some (vR g 296), some (vI x1), some (vI x2), some (vI (w32 (x3 + 1))), none, none, none]) dX11_dayGoes_189 rfl rfl rfl rfl ?_
  refine z_goto (tgt := 112) dX11_dayGoes_192 (by decide) ?_
  exact kS _ (someE h).symm (inR_w32 _)
theorem l_M_dayGoes_L112 {l : Launch} {g : GX} {φ : CX} {z : Nat} {G : Nat → Nat → Nat} {F : Nat} (hb : cb φ = z) (hz : 353 ≤ z) (hG : lyM G) {x1 : Int} {x2 : Int} {J : Nat → Nat → Int} (hx1 : inR x1) (hx2 : inR x2) (n : Nat) (s : Int × MI) (e : MI) (h : iter (fun s : Int × MI => f_M_dayGoes_L112 F x1 x2 s.1 s.2 J) n s = some e) (hs : inR s.1) (k : ((True) → Zt l g φ mu_M_dayGoes 195 [some (vR g 296), some (vI x1), none, none, none, none, none] [] (z, e, J, G))) : Zt l g φ mu_M_dayGoes 112 [some (vR g 296), some (vI x1), some (vI x2), some (vI s.1), none, none, none] [] (z, s.2, J, G) := by
  refine iter_ind (Z := fun s : Int × MI => Zt l g φ mu_M_dayGoes 112 [some (vR g 296), some (vI x1), some (vI x2), some (vI s.1), none, none, none] [] (z, s.2, J, G)) (ZE := fun e : MI => ((True) → Zt l g φ mu_M_dayGoes 195 [some (vR g 296), some (vI x1), none, none, none, none, none] [] (z, e, J, G))) (Rg := fun s : Int × MI => inR s.1) ?_ n s e h hs k
  intro s r hr hst kE kS
  exact t_M_dayGoes_L112 hb hz hG hx1 hx2 hr hst kE kS
set_option maxHeartbeats 1000000 in
theorem t_M_dayGoes_L54 {l : Launch} {g : GX} {φ : CX} {z : Nat} {G : Nat → Nat → Nat} {F : Nat} (hb : cb φ = z) (hz : 353 ≤ z) (hG : lyM G) {x1 : Int} {I J : Nat → Nat → Int} (hx1 : inR x1) {res : (MI) ⊕ (Int × MI)} (h : f_M_dayGoes_L54 F x1 I J = some res) (kE : ∀ e : MI, res = .inl e → ((True) → Zt l g φ mu_M_dayGoes 201 [some (vR g 296), none, none, none, none, none, none] [] (z, e, J, G))) (kS : ∀ s : Int × MI, res = .inr s → (inR s.1) → Zt l g φ mu_M_dayGoes 54 [some (vR g 296), some (vI s.1), none, none, none, none, none] [] (z, s.2, J, G)) : Zt l g φ mu_M_dayGoes 54 [some (vR g 296), some (vI x1), none, none, none, none, none] [] (z, I, J, G) := by
  refine z_iload_n dX11_dayGoes_54 rfl ?_
  refine z_aload_n dX11_dayGoes_55 rfl ?_
  refine y_getR dX11_dayGoes_56 cl11 sh_296 (by decide) (Nat.le_trans (by decide) hz) 33 rfl rfl (fl_M_76) (ly_296_33 hG) (by decide) ?_
  refine z_aload_n dX11_dayGoes_59 rfl ?_
  refine z_nm (fun hN10 => ?_)
  refine y_getI dX11_dayGoes_60 cl11 sh_296 (by decide) (Nat.le_trans (by decide) hz) 18 rfl rfl (fl_M_269) ?_
  obtain ⟨hg11, h⟩ := guardE h
  refine y_iald dX11_dayGoes_63 sh_316 (by decide) (Nat.le_trans (by decide) hz) (hN10.1 296 18) hg11 ?_
  refine z_icmp_ge (tgt := 201) dX11_dayGoes_64 (by decide) hx1 (hN10.1 316 ((I 296 18)).toNat) (fun hc12 => ?_) (fun hc12 => ?_)
  · replace h := ifT hc12 h
    refine z_weak (L' := [some (vR g 296), none, none, none, none, none, none]) (lsS (lsN (lsN (lsN (lsN (lsN (lsN ls0))))))) ?_
    exact kE _ (someE h).symm trivial
  replace h := ifF hc12 h
  refine z_aload_n dX11_dayGoes_67 rfl ?_
  refine y_getR dX11_dayGoes_68 cl11 sh_296 (by decide) (Nat.le_trans (by decide) hz) 34 rfl rfl (fl_M_79) (ly_296_34 hG) (by decide) ?_
  refine z_bipush dX11_dayGoes_71 (by decide +kernel) ?_
  refine z_aload_n dX11_dayGoes_73 rfl ?_
  refine y_getI dX11_dayGoes_74 cl11 sh_296 (by decide) (Nat.le_trans (by decide) hz) 18 rfl rfl (fl_M_269) ?_
  refine z_imul dX11_dayGoes_77 ?_
  refine z_iload_n dX11_dayGoes_78 rfl ?_
  refine z_iadd dX11_dayGoes_79 ?_
  obtain ⟨hg13, h⟩ := guardE h
  refine y_iald dX11_dayGoes_80 sh_317 (by decide) (Nat.le_trans (by decide) hz) (inR_w32 _) hg13 ?_
  refine z_aload_n dX11_dayGoes_81 rfl ?_
  refine y_getR dX11_dayGoes_82 cl11 sh_296 (by decide) (Nat.le_trans (by decide) hz) 53 rfl rfl (fl_M_125) (ly_296_53 hG) (by decide) ?_
  refine z_sipush dX11_dayGoes_85 (by decide +kernel) ?_
  refine y_iald dX11_dayGoes_88 sh_332 (by decide) (Nat.le_trans (by decide) hz) (inRd (x := 240) (by decide)) (by decide) ?_
  refine z_icmp_eq (tgt := 95) dX11_dayGoes_89 (by decide) (hN10.1 317 ((w32 ((w32 (8 * (I 296 18))) + x1))).toNat) (hN10.1 332 240) (fun hc14 => ?_) (fun hc14 => ?_)
  · replace h := ifT hc14 h
    refine z_aload_n dX11_dayGoes_95 rfl ?_
    refine y_getR dX11_dayGoes_96 cl11 sh_296 (by decide) (Nat.le_trans (by decide) hz) 35 rfl rfl (fl_M_82) (ly_296_35 hG) (by decide) ?_
    refine z_bipush dX11_dayGoes_99 (by decide +kernel) ?_
    refine z_aload_n dX11_dayGoes_101 rfl ?_
    refine y_getI dX11_dayGoes_102 cl11 sh_296 (by decide) (Nat.le_trans (by decide) hz) 18 rfl rfl (fl_M_269) ?_
    refine z_imul dX11_dayGoes_105 ?_
    refine z_iload_n dX11_dayGoes_106 rfl ?_
    refine z_iadd dX11_dayGoes_107 ?_
    refine y_iald dX11_dayGoes_108 sh_318 (by decide) (Nat.le_trans (by decide) hz) (inR_w32 _) hg13 ?_
    refine z_istore_n (L' := [some (vR g 296), some (vI x1), some (vI (I 318 ((w32 ((w32 (8 * (I 296 18))) + x1))).toNat)), none, none, none, none]) dX11_dayGoes_109 rfl rfl rfl ?_
    refine z_iconst dX11_dayGoes_110 ?_
    refine z_istore_n (L' := [some (vR g 296), some (vI x1), some (vI (I 318 ((w32 ((w32 (8 * (I 296 18))) + x1))).toNat)), some (vI 0), none, none, none]) dX11_dayGoes_111 rfl rfl rfl ?_
    obtain ⟨e31, h32, h⟩ := bindE h
    refine l_M_dayGoes_L112 hb hz hG hx1 (hN10.1 318 ((w32 ((w32 (8 * (I 296 18))) + x1))).toNat) _ _ _ h32 (inRd (x := 0) (by decide)) ?_
    refine fun h33 => ?_
    refine z_iinc (L' := [some (vR g 296), some (vI (w32 (x1 + 1))), none, none, none, none, none]) dX11_dayGoes_195 rfl rfl rfl rfl ?_
    refine z_goto (tgt := 54) dX11_dayGoes_198 (by decide) ?_
    exact kS _ (someE h).symm (inR_w32 _)
  replace h := ifF hc14 h
  refine z_goto (tgt := 195) dX11_dayGoes_92 (by decide) ?_
  refine z_iinc (L' := [some (vR g 296), some (vI (w32 (x1 + 1))), none, none, none, none, none]) dX11_dayGoes_195 rfl rfl rfl rfl ?_
  refine z_goto (tgt := 54) dX11_dayGoes_198 (by decide) ?_
  exact kS _ (someE h).symm (inR_w32 _)
theorem l_M_dayGoes_L54 {l : Launch} {g : GX} {φ : CX} {z : Nat} {G : Nat → Nat → Nat} {F : Nat} (hb : cb φ = z) (hz : 353 ≤ z) (hG : lyM G) {J : Nat → Nat → Int} (n : Nat) (s : Int × MI) (e : MI) (h : iter (fun s : Int × MI => f_M_dayGoes_L54 F s.1 s.2 J) n s = some e) (hs : inR s.1) (k : ((True) → Zt l g φ mu_M_dayGoes 201 [some (vR g 296), none, none, none, none, none, none] [] (z, e, J, G))) : Zt l g φ mu_M_dayGoes 54 [some (vR g 296), some (vI s.1), none, none, none, none, none] [] (z, s.2, J, G) := by
  refine iter_ind (Z := fun s : Int × MI => Zt l g φ mu_M_dayGoes 54 [some (vR g 296), some (vI s.1), none, none, none, none, none] [] (z, s.2, J, G)) (ZE := fun e : MI => ((True) → Zt l g φ mu_M_dayGoes 201 [some (vR g 296), none, none, none, none, none, none] [] (z, e, J, G))) (Rg := fun s : Int × MI => inR s.1) ?_ n s e h hs k
  intro s r hr hst kE kS
  exact t_M_dayGoes_L54 hb hz hG hr hst kE kS
set_option maxHeartbeats 1000000 in
theorem s_M_dayGoes {l : Launch} {g : GX} {z : Nat} {G : Nat → Nat → Nat} {F : Nat} (hz : 353 ≤ z) (hG : lyM G) {I J : Nat → Nat → Int} {res : MI} (h : f_M_dayGoes F I J = some res) : Spec l g 2 yX11_dayGoes cX11_dayGoes 7 none [vR g 296] (z, I, J, G) none True (z, res, J, G) := by
  refine spec_of (μ := mu_M_dayGoes) (k := 6) (L0 := [some (vR g 296), none, none, none, none, none, none]) rfl mw_M_dayGoes rfl rfl (Nat.le_refl _) (fun φ hb hE => ?_)
  refine z_iconst dX11_dayGoes_0 ?_
  refine z_istore_n (L' := [some (vR g 296), some (vI 0), none, none, none, none, none]) dX11_dayGoes_1 rfl rfl rfl ?_
  obtain ⟨e7, h8, h⟩ := bindE h
  refine l_M_dayGoes_L2 hb hz hG  _ _ _ h8 (inRd (x := 0) (by decide)) ?_
  refine fun h9 => ?_
  refine z_iconst dX11_dayGoes_52 ?_
  refine z_istore_n (L' := [some (vR g 296), some (vI 0), none, none, none, none, none]) dX11_dayGoes_53 rfl rfl rfl ?_
  obtain ⟨e34, h35, h⟩ := bindE h
  refine l_M_dayGoes_L54 hb hz hG  _ _ _ h35 (inRd (x := 0) (by decide)) ?_
  refine fun h36 => ?_
  refine z_aload_n dX11_dayGoes_201 rfl ?_
  refine y_getR dX11_dayGoes_202 cl11 sh_296 (by decide) (Nat.le_trans (by decide) hz) 53 rfl rfl (fl_M_125) (ly_296_53 hG) (by decide) ?_
  refine z_sipush dX11_dayGoes_205 (by decide +kernel) ?_
  refine z_dup2 dX11_dayGoes_208 rfl rfl ?_
  refine z_nm (fun hN37 => ?_)
  refine y_iald dX11_dayGoes_209 sh_332 (by decide) (Nat.le_trans (by decide) hz) (inRd (x := 240) (by decide)) (by decide) ?_
  refine z_iconst dX11_dayGoes_210 ?_
  refine z_iadd dX11_dayGoes_211 ?_
  refine y_iast dX11_dayGoes_212 sh_332 (by decide) (Nat.le_trans (by decide) hz) (inRd (x := 240) (by decide)) (by decide) (inR_w32 _) ?_
  obtain rfl := someE h
  exact z_vret dX11_dayGoes_213 hE trivial rfl
set_option maxHeartbeats 1000000 in
theorem t_M_ownerAt_L2 {l : Launch} {g : GX} {φ : CX} {z : Nat} {G : Nat → Nat → Nat} {F : Nat} (hb : cb φ = z) (hz : 353 ≤ z) (hG : lyM G) {x1 : Int} {x2 : Int} {x3 : Int} {I J : Nat → Nat → Int} (hx1 : inR x1) (hx2 : inR x2) (hx3 : inR x3) {res : ((Int) ⊕ (Unit)) ⊕ (Int)} (h : f_M_ownerAt_L2 F x1 x2 x3 I J = some res) (kE : ∀ e : (Int) ⊕ (Unit), res = .inl e → ((fun w : (Int) ⊕ (Unit) => (match w with | .inl e0 => ((inR e0) → Zt l g φ mu_M_ownerAt 31 [none, none, none, some (vI e0)] [] (z, I, J, G)) | .inr o0 => ((True) → Zt l g φ mu_M_ownerAt 42 [none, none, none, none] [] (z, I, J, G)))) e)) (kS : ∀ s : Int, res = .inr s → (inR s) → Zt l g φ mu_M_ownerAt 2 [some (vR g 296), some (vI x1), some (vI x2), some (vI s)] [] (z, I, J, G)) : Zt l g φ mu_M_ownerAt 2 [some (vR g 296), some (vI x1), some (vI x2), some (vI x3)] [] (z, I, J, G) := by
  refine z_iload_n dX11_ownerAt_2 rfl ?_
  refine z_bipush dX11_ownerAt_3 (by decide +kernel) ?_
  refine z_icmp_ge (tgt := 42) dX11_ownerAt_5 (by decide) hx3 (inRd (x := 72) (by decide)) (fun hc1 => ?_) (fun hc1 => ?_)
  · replace h := ifT hc1 h
    refine z_weak (L' := [none, none, none, none]) (lsN (lsN (lsN (lsN ls0)))) ?_
    exact kE _ (someE h).symm trivial
  replace h := ifF hc1 h
  refine z_aload_n dX11_ownerAt_8 rfl ?_
  refine y_getR dX11_ownerAt_9 cl11 sh_296 (by decide) (Nat.le_trans (by decide) hz) 53 rfl rfl (fl_M_125) (ly_296_53 hG) (by decide) ?_
  refine z_iload_n dX11_ownerAt_12 rfl ?_
  obtain ⟨hg2, h⟩ := guardE h
  refine z_nm (fun hN3 => ?_)
  refine y_iald dX11_ownerAt_13 sh_332 (by decide) (Nat.le_trans (by decide) hz) hx3 hg2 ?_
  refine z_iload_n dX11_ownerAt_14 rfl ?_
  refine z_icmp_ne (tgt := 36) dX11_ownerAt_15 (by decide) (hN3.1 332 (x3).toNat) hx1 (fun hc4 => ?_) (fun hc4 => ?_)
  · replace h := ifT hc4 h
    refine z_iinc (L' := [some (vR g 296), some (vI x1), some (vI x2), some (vI (w32 (x3 + 1)))]) dX11_ownerAt_36 rfl rfl rfl rfl ?_
    refine z_goto (tgt := 2) dX11_ownerAt_39 (by decide) ?_
    exact kS _ (someE h).symm (inR_w32 _)
  replace h := ifF (fun q => q hc4) h
  refine z_aload_n dX11_ownerAt_18 rfl ?_
  refine y_getR dX11_ownerAt_19 cl11 sh_296 (by decide) (Nat.le_trans (by decide) hz) 53 rfl rfl (fl_M_125) (ly_296_53 hG) (by decide) ?_
  refine z_bipush dX11_ownerAt_22 (by decide +kernel) ?_
  refine z_iload_n dX11_ownerAt_24 rfl ?_
  refine z_iadd dX11_ownerAt_25 ?_
  obtain ⟨hg5, h⟩ := guardE h
  refine y_iald dX11_ownerAt_26 sh_332 (by decide) (Nat.le_trans (by decide) hz) (inR_w32 _) hg5 ?_
  refine z_iload_n dX11_ownerAt_27 rfl ?_
  refine z_icmp_ne (tgt := 36) dX11_ownerAt_28 (by decide) (hN3.1 332 ((w32 (72 + x3))).toNat) hx2 (fun hc6 => ?_) (fun hc6 => ?_)
  · replace h := ifT hc6 h
    refine z_iinc (L' := [some (vR g 296), some (vI x1), some (vI x2), some (vI (w32 (x3 + 1)))]) dX11_ownerAt_36 rfl rfl rfl rfl ?_
    refine z_goto (tgt := 2) dX11_ownerAt_39 (by decide) ?_
    exact kS _ (someE h).symm (inR_w32 _)
  replace h := ifF (fun q => q hc6) h
  refine z_weak (L' := [none, none, none, some (vI x3)]) (lsN (lsN (lsN (lsS ls0)))) ?_
  exact kE _ (someE h).symm hx3
theorem l_M_ownerAt_L2 {l : Launch} {g : GX} {φ : CX} {z : Nat} {G : Nat → Nat → Nat} {F : Nat} (hb : cb φ = z) (hz : 353 ≤ z) (hG : lyM G) {x1 : Int} {x2 : Int} {I : Nat → Nat → Int} {J : Nat → Nat → Int} (hx1 : inR x1) (hx2 : inR x2) (n : Nat) (s : Int) (e : (Int) ⊕ (Unit)) (h : iter (fun s : Int => f_M_ownerAt_L2 F x1 x2 s I J) n s = some e) (hs : inR s) (k : ((fun w : (Int) ⊕ (Unit) => (match w with | .inl e0 => ((inR e0) → Zt l g φ mu_M_ownerAt 31 [none, none, none, some (vI e0)] [] (z, I, J, G)) | .inr o0 => ((True) → Zt l g φ mu_M_ownerAt 42 [none, none, none, none] [] (z, I, J, G)))) e)) : Zt l g φ mu_M_ownerAt 2 [some (vR g 296), some (vI x1), some (vI x2), some (vI s)] [] (z, I, J, G) := by
  refine iter_ind (Z := fun s : Int => Zt l g φ mu_M_ownerAt 2 [some (vR g 296), some (vI x1), some (vI x2), some (vI s)] [] (z, I, J, G)) (ZE := fun e : (Int) ⊕ (Unit) => ((fun w : (Int) ⊕ (Unit) => (match w with | .inl e0 => ((inR e0) → Zt l g φ mu_M_ownerAt 31 [none, none, none, some (vI e0)] [] (z, I, J, G)) | .inr o0 => ((True) → Zt l g φ mu_M_ownerAt 42 [none, none, none, none] [] (z, I, J, G)))) e)) (Rg := fun s : Int => inR s) ?_ n s e h hs k
  intro s r hr hst kE kS
  exact t_M_ownerAt_L2 hb hz hG hx1 hx2 hr hst kE kS
set_option maxHeartbeats 1000000 in
theorem s_M_ownerAt {l : Launch} {g : GX} {z : Nat} {G : Nat → Nat → Nat} {F : Nat} (hz : 353 ≤ z) (hG : lyM G) {x1 : Int} {x2 : Int} {I J : Nat → Nat → Int} (hx1 : inR x1) (hx2 : inR x2) {res : Int} (h : f_M_ownerAt F x1 x2 I J = some res) : Spec l g 0 yX11_ownerAt cX11_ownerAt 4 (some .int) [vR g 296, vI x1, vI x2] (z, I, J, G) (some (vI res)) (inR res) (z, I, J, G) := by
  refine spec_of (μ := mu_M_ownerAt) (k := 1) (L0 := [some (vR g 296), some (vI x1), some (vI x2), none]) rfl mw_M_ownerAt rfl rfl (Nat.le_refl _) (fun φ hb hE => ?_)
  refine z_iconst dX11_ownerAt_0 ?_
  refine z_istore_n (L' := [some (vR g 296), some (vI x1), some (vI x2), some (vI 0)]) dX11_ownerAt_1 rfl rfl rfl ?_
  obtain ⟨e7, h8, h⟩ := bindE h
  rcases e7 with e9 | o10
  · refine l_M_ownerAt_L2 hb hz hG hx1 hx2 _ _ _ h8 (inRd (x := 0) (by decide)) ?_
    refine fun h11 => ?_
    refine z_iload_n dX11_ownerAt_31 rfl ?_
    refine z_bipush dX11_ownerAt_32 (by decide +kernel) ?_
    refine z_idiv dX11_ownerAt_34 (inRd (x := 9) (by decide)) (by decide) ?_
    obtain rfl := someE h
    exact z_iret dX11_ownerAt_35 hE inR_div rfl
  refine l_M_ownerAt_L2 hb hz hG hx1 hx2 _ _ _ h8 (inRd (x := 0) (by decide)) ?_
  refine fun h12 => ?_
  refine z_iconst dX11_ownerAt_42 ?_
  obtain rfl := someE h
  exact z_iret dX11_ownerAt_43 hE (inRd (x := (-1)) (by decide)) rfl
set_option maxHeartbeats 1000000 in
theorem s_M_cell {l : Launch} {g : GX} {z : Nat} {G : Nat → Nat → Nat} {F : Nat} (hz : 353 ≤ z) (hG : lyM G) {x1 : Int} {x2 : Int} {x3 : Int} {I J : Nat → Nat → Int} (hx1 : inR x1) (hx2 : inR x2) (hx3 : inR x3) {res : Int × MI} (h : f_M_cell F x1 x2 x3 I J = some res) : Spec l g 2 yX11_cell cX11_cell 5 (some .int) [vR g 296, vI x1, vI x2, vI x3] (z, I, J, G) (some (vI res.1)) (inR res.1) (z, res.2, J, G) := by
  refine spec_of (μ := mu_M_cell) (k := 1) (L0 := [some (vR g 296), some (vI x1), some (vI x2), some (vI x3), none]) rfl mw_M_cell rfl rfl (Nat.le_refl _) (fun φ hb hE => ?_)
  refine z_aload_n dX11_cell_0 rfl ?_
  refine z_iload_n dX11_cell_1 rfl ?_
  refine z_iload_n dX11_cell_2 rfl ?_
  obtain ⟨q1, hq2, h⟩ := bindE h
  refine z_callV (As := [vI x1, vI x2]) (rest := []) (s_M_isCell hz hG hx1 hx2 hq2) dX11_cell_3 mw_M_isCell cl11 sh_296 (by decide) (Nat.le_trans (by decide) hz) ml_M_369 im_M_isCell se_M_isCell rfl rfl rfl rfl (Nat.le_refl _) (Nat.le_of_eq hb.symm) (fun hp3 => ?_)
  show Zt _ _ _ _ 6 _ [vI q1] (z, I, J, G)
  refine z_if_ne (tgt := 11) dX11_cell_6 (by decide) (inR_bool hp3) (fun hc4 => ?_) (fun hc4 => ?_)
  · replace h := ifT hc4 h
    refine z_aload_n dX11_cell_11 rfl ?_
    obtain ⟨q5, hq6, h⟩ := bindE h
    refine z_callV (As := []) (rest := []) (s_M_copies hz hG  hq6) dX11_cell_12 mw_M_copies cl11 sh_296 (by decide) (Nat.le_trans (by decide) hz) ml_M_373 im_M_copies se_M_copies rfl rfl rfl rfl (Nat.le_refl _) (Nat.le_of_eq hb.symm) (fun hp7 => ?_)
    show Zt _ _ _ _ 15 _ [] (z, q5, J, G)
    refine z_bipush dX11_cell_15 (by decide +kernel) ?_
    refine z_iload_n dX11_cell_17 rfl ?_
    refine z_imul dX11_cell_18 ?_
    refine z_iload_n dX11_cell_19 rfl ?_
    refine z_iadd dX11_cell_20 ?_
    refine z_istore (L' := [some (vR g 296), some (vI x1), some (vI x2), some (vI x3), some (vI (w32 ((w32 (12 * x2)) + x1)))]) dX11_cell_21 rfl rfl rfl ?_
    refine z_iload_n dX11_cell_23 rfl ?_
    by_cases hc8 : x3 = 0
    · replace h := ifT hc8 h
      refine z_tabIn (tgt := 64) dX11_cell_24 0 hc8 hx3 (by decide) rfl (by decide) ?_
      refine z_aload_n dX11_cell_64 rfl ?_
      refine y_getR dX11_cell_65 cl11 sh_296 (by decide) (Nat.le_trans (by decide) hz) 54 rfl rfl (fl_M_128) (ly_296_54 hG) (by decide) ?_
      refine z_iload dX11_cell_68 rfl ?_
      obtain ⟨hg9, h⟩ := guardE h
      refine z_nm (fun hN10 => ?_)
      refine y_iald dX11_cell_70 sh_333 (by decide) (Nat.le_trans (by decide) hz) (inR_w32 _) hg9 ?_
      obtain rfl := someE h
      exact z_iret dX11_cell_71 hE (hN10.1 333 ((w32 ((w32 (12 * x2)) + x1))).toNat) rfl
    replace h := ifF hc8 h
    by_cases hc11 : x3 = 1
    · replace h := ifT hc11 h
      refine z_tabIn (tgt := 72) dX11_cell_24 1 hc11 hx3 (by decide) rfl (by decide) ?_
      refine z_aload_n dX11_cell_72 rfl ?_
      refine z_iload dX11_cell_73 rfl ?_
      obtain ⟨q12, hq13, h⟩ := bindE h
      refine z_callV (As := [vI (w32 ((w32 (12 * x2)) + x1))]) (rest := []) (s_M_deep hz hG (inR_w32 _) hq13) dX11_cell_75 mw_M_deep cl11 sh_296 (by decide) (Nat.le_trans (by decide) hz) ml_M_349 im_M_deep se_M_deep rfl rfl rfl rfl (Nat.le_refl _) (Nat.le_of_eq hb.symm) (fun hp14 => ?_)
      show Zt _ _ _ _ 78 _ [vI q12] (z, q5, J, G)
      obtain rfl := someE h
      exact z_iret dX11_cell_78 hE hp14 rfl
    replace h := ifF hc11 h
    by_cases hc15 : x3 = 2
    · replace h := ifT hc15 h
      refine z_tabIn (tgt := 79) dX11_cell_24 2 hc15 hx3 (by decide) rfl (by decide) ?_
      refine z_aload_n dX11_cell_79 rfl ?_
      refine y_getR dX11_cell_80 cl11 sh_296 (by decide) (Nat.le_trans (by decide) hz) 53 rfl rfl (fl_M_125) (ly_296_53 hG) (by decide) ?_
      refine z_sipush dX11_cell_83 (by decide +kernel) ?_
      refine z_iload dX11_cell_86 rfl ?_
      refine z_iadd dX11_cell_88 ?_
      obtain ⟨hg16, h⟩ := guardE h
      refine z_nm (fun hN17 => ?_)
      refine y_iald dX11_cell_89 sh_332 (by decide) (Nat.le_trans (by decide) hz) (inR_w32 _) hg16 ?_
      obtain rfl := someE h
      exact z_iret dX11_cell_90 hE (hN17.1 332 ((w32 (144 + (w32 ((w32 (12 * x2)) + x1))))).toNat) rfl
    replace h := ifF hc15 h
    by_cases hc18 : x3 = 3
    · replace h := ifT hc18 h
      refine z_tabIn (tgt := 91) dX11_cell_24 3 hc18 hx3 (by decide) rfl (by decide) ?_
      refine z_aload_n dX11_cell_91 rfl ?_
      refine z_iload dX11_cell_92 rfl ?_
      obtain ⟨q19, hq20, h⟩ := bindE h
      refine z_callV (As := [vI (w32 ((w32 (12 * x2)) + x1))]) (rest := []) (s_M_isStep hz hG (inR_w32 _) hq20) dX11_cell_94 mw_M_isStep cl11 sh_296 (by decide) (Nat.le_trans (by decide) hz) ml_M_376 im_M_isStep se_M_isStep rfl rfl rfl rfl (Nat.le_refl _) (Nat.le_of_eq hb.symm) (fun hp21 => ?_)
      show Zt _ _ _ _ 97 _ [vI q19] (z, q5, J, G)
      refine z_if_eq (tgt := 104) dX11_cell_97 (by decide) (inR_bool hp21) (fun hc22 => ?_) (fun hc22 => ?_)
      · replace h := ifT hc22 h
        refine z_iconst dX11_cell_104 ?_
        obtain rfl := someE h
        exact z_iret dX11_cell_105 hE (inRd (x := 0) (by decide)) rfl
      replace h := ifF hc22 h
      refine z_iconst dX11_cell_100 ?_
      refine z_goto (tgt := 105) dX11_cell_101 (by decide) ?_
      obtain rfl := someE h
      exact z_iret dX11_cell_105 hE (inRd (x := 1) (by decide)) rfl
    replace h := ifF hc18 h
    by_cases hc23 : x3 = 4
    · replace h := ifT hc23 h
      refine z_tabIn (tgt := 106) dX11_cell_24 4 hc23 hx3 (by decide) rfl (by decide) ?_
      refine z_aload_n dX11_cell_106 rfl ?_
      refine z_iload dX11_cell_107 rfl ?_
      obtain ⟨q24, hq25, h⟩ := bindE h
      refine z_callV (As := [vI (w32 ((w32 (12 * x2)) + x1))]) (rest := []) (s_M_isStep hz hG (inR_w32 _) hq25) dX11_cell_109 mw_M_isStep cl11 sh_296 (by decide) (Nat.le_trans (by decide) hz) ml_M_376 im_M_isStep se_M_isStep rfl rfl rfl rfl (Nat.le_refl _) (Nat.le_of_eq hb.symm) (fun hp26 => ?_)
      show Zt _ _ _ _ 112 _ [vI q24] (z, q5, J, G)
      refine z_if_eq (tgt := 128) dX11_cell_112 (by decide) (inR_bool hp26) (fun hc27 => ?_) (fun hc27 => ?_)
      · replace h := ifT hc27 h
        refine z_bipush dX11_cell_128 (by decide +kernel) ?_
        obtain rfl := someE h
        exact z_iret dX11_cell_130 hE (inRd (x := (-2)) (by decide)) rfl
      replace h := ifF hc27 h
      refine z_aload_n dX11_cell_115 rfl ?_
      refine z_iconst dX11_cell_116 ?_
      refine z_iload dX11_cell_117 rfl ?_
      refine z_iconst dX11_cell_119 ?_
      refine z_bipush dX11_cell_120 (by decide +kernel) ?_
      obtain ⟨q28, hq29, h⟩ := bindE h
      refine z_callV (As := [vI 1, vI (w32 ((w32 (12 * x2)) + x1)), vI 0, vI 100]) (rest := []) (s_M_tellsBy hz hG (inRd (x := 1) (by decide)) (inR_w32 _) (inRd (x := 0) (by decide)) (inRd (x := 100) (by decide)) hq29) dX11_cell_122 mw_M_tellsBy cl11 sh_296 (by decide) (Nat.le_trans (by decide) hz) ml_M_361 im_M_tellsBy se_M_tellsBy rfl rfl rfl rfl (Nat.le_refl _) (Nat.le_of_eq hb.symm) (fun hp30 => ?_)
      show Zt _ _ _ _ 125 _ [vI q28.1] (z, q28.2, J, G)
      refine z_goto (tgt := 130) dX11_cell_125 (by decide) ?_
      obtain rfl := someE h
      exact z_iret dX11_cell_130 hE hp30 rfl
    replace h := ifF hc23 h
    by_cases hc31 : x3 = 5
    · replace h := ifT hc31 h
      refine z_tabIn (tgt := 131) dX11_cell_24 5 hc31 hx3 (by decide) rfl (by decide) ?_
      refine z_aload_n dX11_cell_131 rfl ?_
      refine y_getR dX11_cell_132 cl11 sh_296 (by decide) (Nat.le_trans (by decide) hz) 54 rfl rfl (fl_M_128) (ly_296_54 hG) (by decide) ?_
      refine z_iload dX11_cell_135 rfl ?_
      obtain ⟨hg32, h⟩ := guardE h
      refine z_nm (fun hN33 => ?_)
      refine y_iald dX11_cell_137 sh_333 (by decide) (Nat.le_trans (by decide) hz) (inR_w32 _) hg32 ?_
      refine z_if_ne (tgt := 146) dX11_cell_138 (by decide) (hN33.1 333 ((w32 ((w32 (12 * x2)) + x1))).toNat) (fun hc34 => ?_) (fun hc34 => ?_)
      · replace h := ifT hc34 h
        refine z_aload_n dX11_cell_146 rfl ?_
        refine z_iload dX11_cell_147 rfl ?_
        refine z_aload_n dX11_cell_149 rfl ?_
        refine y_getR dX11_cell_150 cl11 sh_296 (by decide) (Nat.le_trans (by decide) hz) 54 rfl rfl (fl_M_128) (ly_296_54 hG) (by decide) ?_
        refine z_iload dX11_cell_153 rfl ?_
        refine y_iald dX11_cell_155 sh_333 (by decide) (Nat.le_trans (by decide) hz) (inR_w32 _) hg32 ?_
        refine z_iconst dX11_cell_156 ?_
        refine z_isub dX11_cell_157 ?_
        obtain ⟨q35, hq36, h⟩ := bindE h
        refine z_callV (As := [vI (w32 ((w32 (12 * x2)) + x1)), vI (w32 ((q5 333 ((w32 ((w32 (12 * x2)) + x1))).toNat) - 1))]) (rest := []) (s_M_ownerAt hz hG (inR_w32 _) (inR_w32 _) hq36) dX11_cell_158 mw_M_ownerAt cl11 sh_296 (by decide) (Nat.le_trans (by decide) hz) ml_M_379 im_M_ownerAt se_M_ownerAt rfl rfl rfl rfl (Nat.le_refl _) (Nat.le_of_eq hb.symm) (fun hp37 => ?_)
        show Zt _ _ _ _ 161 _ [vI q35] (z, q5, J, G)
        obtain rfl := someE h
        exact z_iret dX11_cell_161 hE hp37 rfl
      replace h := ifF (fun q => q hc34) h
      refine z_bipush dX11_cell_141 (by decide +kernel) ?_
      refine z_goto (tgt := 161) dX11_cell_143 (by decide) ?_
      obtain rfl := someE h
      exact z_iret dX11_cell_161 hE (inRd (x := (-2)) (by decide)) rfl
    replace h := ifF hc31 h
    refine z_tabOut (tgt := 162) dX11_cell_24 hx3 (by omega) (by decide) ?_
    refine z_iconst dX11_cell_162 ?_
    obtain rfl := someE h
    exact z_iret dX11_cell_163 hE (inRd (x := (-1)) (by decide)) rfl
  replace h := ifF (fun q => q hc4) h
  refine z_iconst dX11_cell_9 ?_
  obtain rfl := someE h
  exact z_iret dX11_cell_10 hE (inRd (x := (-1)) (by decide)) rfl
set_option maxHeartbeats 1000000 in
theorem s_M_stone {l : Launch} {g : GX} {z : Nat} {G : Nat → Nat → Nat} {F : Nat} (hz : 353 ≤ z) (hG : lyM G) {x1 : Int} {x2 : Int} {x3 : Int} {I J : Nat → Nat → Int} (hx1 : inR x1) (hx2 : inR x2) (hx3 : inR x3) {res : Int × MI} (h : f_M_stone F x1 x2 x3 I J = some res) : Spec l g 2 yX11_stone cX11_stone 4 (some .int) [vR g 296, vI x1, vI x2, vI x3] (z, I, J, G) (some (vI res.1)) (inR res.1) (z, res.2, J, G) := by
  refine spec_of (μ := mu_M_stone) (k := 0) (L0 := [some (vR g 296), some (vI x1), some (vI x2), some (vI x3)]) rfl mw_M_stone rfl rfl (Nat.le_refl _) (fun φ hb hE => ?_)
  refine z_aload_n dX11_stone_0 rfl ?_
  refine z_iload_n dX11_stone_1 rfl ?_
  refine z_iload_n dX11_stone_2 rfl ?_
  obtain ⟨q1, hq2, h⟩ := bindE h
  refine z_callV (As := [vI x1, vI x2]) (rest := []) (s_M_isCell hz hG hx1 hx2 hq2) dX11_stone_3 mw_M_isCell cl11 sh_296 (by decide) (Nat.le_trans (by decide) hz) ml_M_369 im_M_isCell se_M_isCell rfl rfl rfl rfl (Nat.le_refl _) (Nat.le_of_eq hb.symm) (fun hp3 => ?_)
  show Zt _ _ _ _ 6 _ [vI q1] (z, I, J, G)
  refine z_if_ne (tgt := 11) dX11_stone_6 (by decide) (inR_bool hp3) (fun hc4 => ?_) (fun hc4 => ?_)
  · replace h := ifT hc4 h
    refine z_aload_n dX11_stone_11 rfl ?_
    obtain ⟨q5, hq6, h⟩ := bindE h
    refine z_callV (As := []) (rest := []) (s_M_copies hz hG  hq6) dX11_stone_12 mw_M_copies cl11 sh_296 (by decide) (Nat.le_trans (by decide) hz) ml_M_373 im_M_copies se_M_copies rfl rfl rfl rfl (Nat.le_refl _) (Nat.le_of_eq hb.symm) (fun hp7 => ?_)
    show Zt _ _ _ _ 15 _ [] (z, q5, J, G)
    refine z_iload_n dX11_stone_15 rfl ?_
    refine z_iconst dX11_stone_16 ?_
    refine z_aload_n dX11_stone_17 rfl ?_
    refine y_getR dX11_stone_18 cl11 sh_296 (by decide) (Nat.le_trans (by decide) hz) 54 rfl rfl (fl_M_128) (ly_296_54 hG) (by decide) ?_
    refine z_bipush dX11_stone_21 (by decide +kernel) ?_
    refine z_iload_n dX11_stone_23 rfl ?_
    refine z_imul dX11_stone_24 ?_
    refine z_iload_n dX11_stone_25 rfl ?_
    refine z_iadd dX11_stone_26 ?_
    obtain ⟨hg8, h⟩ := guardE h
    refine z_nm (fun hN9 => ?_)
    refine y_iald dX11_stone_27 sh_333 (by decide) (Nat.le_trans (by decide) hz) (inR_w32 _) hg8 ?_
    refine z_iconst dX11_stone_28 ?_
    refine z_isub dX11_stone_29 ?_
    obtain ⟨q10, hq11, h⟩ := bindE h
    refine z_callS (As := [vI x3, vI 0, vI (w32 ((q5 333 ((w32 ((w32 (12 * x2)) + x1))).toNat) - 1))]) (rest := []) (s_M_in hz hG hx3 (inRd (x := 0) (by decide)) (inR_w32 _) hq11) dX11_stone_30 mw_M_in ml_M_345 st_M_in rfl rfl rfl rfl (Nat.le_refl _) (Nat.le_of_eq hb.symm) (fun hp12 => ?_)
    show Zt _ _ _ _ 33 _ [vI q10] (z, q5, J, G)
    refine z_if_eq (tgt := 50) dX11_stone_33 (by decide) (inR_bool hp12) (fun hc13 => ?_) (fun hc13 => ?_)
    · replace h := ifT hc13 h
      refine z_iconst dX11_stone_50 ?_
      obtain rfl := someE h
      exact z_iret dX11_stone_51 hE (inRd (x := (-1)) (by decide)) rfl
    replace h := ifF hc13 h
    refine z_aload_n dX11_stone_36 rfl ?_
    refine z_bipush dX11_stone_37 (by decide +kernel) ?_
    refine z_iload_n dX11_stone_39 rfl ?_
    refine z_imul dX11_stone_40 ?_
    refine z_iload_n dX11_stone_41 rfl ?_
    refine z_iadd dX11_stone_42 ?_
    refine z_iload_n dX11_stone_43 rfl ?_
    obtain ⟨q14, hq15, h⟩ := bindE h
    refine z_callV (As := [vI (w32 ((w32 (12 * x2)) + x1)), vI x3]) (rest := []) (s_M_ownerAt hz hG (inR_w32 _) hx3 hq15) dX11_stone_44 mw_M_ownerAt cl11 sh_296 (by decide) (Nat.le_trans (by decide) hz) ml_M_379 im_M_ownerAt se_M_ownerAt rfl rfl rfl rfl (Nat.le_refl _) (Nat.le_of_eq hb.symm) (fun hp16 => ?_)
    show Zt _ _ _ _ 47 _ [vI q14] (z, q5, J, G)
    refine z_goto (tgt := 51) dX11_stone_47 (by decide) ?_
    obtain rfl := someE h
    exact z_iret dX11_stone_51 hE hp16 rfl
  replace h := ifF (fun q => q hc4) h
  refine z_iconst dX11_stone_9 ?_
  obtain rfl := someE h
  exact z_iret dX11_stone_10 hE (inRd (x := (-1)) (by decide)) rfl
set_option maxHeartbeats 1000000 in
theorem t_M_leaver_b47in22 {l : Launch} {g : GX} {φ : CX} {z : Nat} {G : Nat → Nat → Nat} {F : Nat} (hb : cb φ = z) (hz : 353 ≤ z) (hG : lyM G) {x1 : Int} {x2 : Int} {x3 : Int} {x4 : Int} {x5 : Int} {I J : Nat → Nat → Int} (hx1 : inR x1) (hx2 : inR x2) (hx3 : inR x3) (hx4 : inR x4) (hx5 : inR x5) {res : (Int × Int) ⊕ (Int × Int × Int)} (h : f_M_leaver_b47in22 F x1 x2 x3 x4 x5 I J = some res) (kE : ∀ e : Int × Int, res = .inl e → ((inR e.1 ∧ inR e.2) → Zt l g φ mu_M_leaver 73 [some (vR g 296), some (vI x1), some (vI x2), some (vI e.1), some (vI e.2), none] [] (z, I, J, G))) (kS : ∀ s : Int × Int × Int, res = .inr s → (inR s.1 ∧ inR s.2.1 ∧ inR s.2.2) → Zt l g φ mu_M_leaver 22 [some (vR g 296), some (vI x1), some (vI x2), some (vI s.1), some (vI s.2.1), some (vI s.2.2)] [] (z, I, J, G)) : Zt l g φ mu_M_leaver 47 [some (vR g 296), some (vI x1), some (vI x2), some (vI x3), some (vI x4), some (vI x5)] [] (z, I, J, G) := by
  refine z_aload_n dX11_leaver_47 rfl ?_
  refine y_getR dX11_leaver_48 cl11 sh_296 (by decide) (Nat.le_trans (by decide) hz) 53 rfl rfl (fl_M_125) (ly_296_53 hG) (by decide) ?_
  refine z_bipush dX11_leaver_51 (by decide +kernel) ?_
  refine z_iload_n dX11_leaver_53 rfl ?_
  refine z_imul dX11_leaver_54 ?_
  refine z_iload dX11_leaver_55 rfl ?_
  refine z_iadd dX11_leaver_57 ?_
  obtain ⟨hg12, h⟩ := guardE h
  refine z_nm (fun hN13 => ?_)
  refine y_iald dX11_leaver_58 sh_332 (by decide) (Nat.le_trans (by decide) hz) (inR_w32 _) hg12 ?_
  refine z_bipush dX11_leaver_59 (by decide +kernel) ?_
  refine z_icmp_ne (tgt := 67) dX11_leaver_61 (by decide) (hN13.1 332 ((w32 ((w32 (9 * x1)) + x5))).toNat) (inRd (x := (-2)) (by decide)) (fun hc14 => ?_) (fun hc14 => ?_)
  · replace h := ifT hc14 h
    refine z_iinc (L' := [some (vR g 296), some (vI x1), some (vI x2), some (vI x3), some (vI x4), some (vI (w32 (x5 + 1)))]) dX11_leaver_67 rfl rfl rfl rfl ?_
    refine z_goto (tgt := 22) dX11_leaver_70 (by decide) ?_
    exact kS _ (someE h).symm ⟨hx3, hx4, (inR_w32 _)⟩
  replace h := ifF (fun q => q hc14) h
  refine z_iinc (L' := [some (vR g 296), some (vI x1), some (vI x2), some (vI x3), some (vI (w32 (x4 + 1))), some (vI x5)]) dX11_leaver_64 rfl rfl rfl rfl ?_
  refine z_iinc (L' := [some (vR g 296), some (vI x1), some (vI x2), some (vI x3), some (vI (w32 (x4 + 1))), some (vI (w32 (x5 + 1)))]) dX11_leaver_67 rfl rfl rfl rfl ?_
  refine z_goto (tgt := 22) dX11_leaver_70 (by decide) ?_
  exact kS _ (someE h).symm ⟨hx3, (inR_w32 _), (inR_w32 _)⟩
set_option maxHeartbeats 1000000 in
theorem t_M_leaver_L22 {l : Launch} {g : GX} {φ : CX} {z : Nat} {G : Nat → Nat → Nat} {F : Nat} (hb : cb φ = z) (hz : 353 ≤ z) (hG : lyM G) {x1 : Int} {x2 : Int} {x3 : Int} {x4 : Int} {x5 : Int} {I J : Nat → Nat → Int} (hx1 : inR x1) (hx2 : inR x2) (hx3 : inR x3) (hx4 : inR x4) (hx5 : inR x5) {res : (Int × Int) ⊕ (Int × Int × Int)} (h : f_M_leaver_L22 F x1 x2 x3 x4 x5 I J = some res) (kE : ∀ e : Int × Int, res = .inl e → ((inR e.1 ∧ inR e.2) → Zt l g φ mu_M_leaver 73 [some (vR g 296), some (vI x1), some (vI x2), some (vI e.1), some (vI e.2), none] [] (z, I, J, G))) (kS : ∀ s : Int × Int × Int, res = .inr s → (inR s.1 ∧ inR s.2.1 ∧ inR s.2.2) → Zt l g φ mu_M_leaver 22 [some (vR g 296), some (vI x1), some (vI x2), some (vI s.1), some (vI s.2.1), some (vI s.2.2)] [] (z, I, J, G)) : Zt l g φ mu_M_leaver 22 [some (vR g 296), some (vI x1), some (vI x2), some (vI x3), some (vI x4), some (vI x5)] [] (z, I, J, G) := by
  refine z_iload dX11_leaver_22 rfl ?_
  refine z_bipush dX11_leaver_24 (by decide +kernel) ?_
  refine z_icmp_ge (tgt := 73) dX11_leaver_26 (by decide) hx5 (inRd (x := 9) (by decide)) (fun hc8 => ?_) (fun hc8 => ?_)
  · replace h := ifT hc8 h
    refine z_weak (L' := [some (vR g 296), some (vI x1), some (vI x2), some (vI x3), some (vI x4), none]) (lsS (lsS (lsS (lsS (lsS (lsN ls0)))))) ?_
    exact kE _ (someE h).symm ⟨hx3, hx4⟩
  replace h := ifF hc8 h
  refine z_aload_n dX11_leaver_29 rfl ?_
  refine y_getR dX11_leaver_30 cl11 sh_296 (by decide) (Nat.le_trans (by decide) hz) 53 rfl rfl (fl_M_125) (ly_296_53 hG) (by decide) ?_
  refine z_bipush dX11_leaver_33 (by decide +kernel) ?_
  refine z_iload_n dX11_leaver_35 rfl ?_
  refine z_imul dX11_leaver_36 ?_
  refine z_iload dX11_leaver_37 rfl ?_
  refine z_iadd dX11_leaver_39 ?_
  obtain ⟨hg9, h⟩ := guardE h
  refine z_nm (fun hN10 => ?_)
  refine y_iald dX11_leaver_40 sh_332 (by decide) (Nat.le_trans (by decide) hz) (inR_w32 _) hg9 ?_
  refine z_if_lt (tgt := 47) dX11_leaver_41 (by decide) (hN10.1 332 ((w32 ((w32 (9 * x1)) + x5))).toNat) (fun hc11 => ?_) (fun hc11 => ?_)
  · replace h := ifT hc11 h
    exact t_M_leaver_b47in22 hb hz hG hx1 hx2 hx3 hx4 hx5 h kE kS
  replace h := ifF hc11 h
  refine z_iinc (L' := [some (vR g 296), some (vI x1), some (vI x2), some (vI (w32 (x3 + 1))), some (vI x4), some (vI x5)]) dX11_leaver_44 rfl rfl rfl rfl ?_
  exact t_M_leaver_b47in22 hb hz hG hx1 hx2 (inR_w32 _) hx4 hx5 h kE kS
theorem l_M_leaver_L22 {l : Launch} {g : GX} {φ : CX} {z : Nat} {G : Nat → Nat → Nat} {F : Nat} (hb : cb φ = z) (hz : 353 ≤ z) (hG : lyM G) {x1 : Int} {x2 : Int} {I : Nat → Nat → Int} {J : Nat → Nat → Int} (hx1 : inR x1) (hx2 : inR x2) (n : Nat) (s : Int × Int × Int) (e : Int × Int) (h : iter (fun s : Int × Int × Int => f_M_leaver_L22 F x1 x2 s.1 s.2.1 s.2.2 I J) n s = some e) (hs : inR s.1 ∧ inR s.2.1 ∧ inR s.2.2) (k : ((inR e.1 ∧ inR e.2) → Zt l g φ mu_M_leaver 73 [some (vR g 296), some (vI x1), some (vI x2), some (vI e.1), some (vI e.2), none] [] (z, I, J, G))) : Zt l g φ mu_M_leaver 22 [some (vR g 296), some (vI x1), some (vI x2), some (vI s.1), some (vI s.2.1), some (vI s.2.2)] [] (z, I, J, G) := by
  refine iter_ind (Z := fun s : Int × Int × Int => Zt l g φ mu_M_leaver 22 [some (vR g 296), some (vI x1), some (vI x2), some (vI s.1), some (vI s.2.1), some (vI s.2.2)] [] (z, I, J, G)) (ZE := fun e : Int × Int => ((inR e.1 ∧ inR e.2) → Zt l g φ mu_M_leaver 73 [some (vR g 296), some (vI x1), some (vI x2), some (vI e.1), some (vI e.2), none] [] (z, I, J, G))) (Rg := fun s : Int × Int × Int => inR s.1 ∧ inR s.2.1 ∧ inR s.2.2) ?_ n s e h hs k
  intro s r hr hst kE kS
  exact t_M_leaver_L22 hb hz hG hx1 hx2 hr.1 hr.2.1 hr.2.2 hst kE kS
set_option maxHeartbeats 1000000 in
theorem s_M_leaver {l : Launch} {g : GX} {z : Nat} {G : Nat → Nat → Nat} {F : Nat} (hz : 353 ≤ z) (hG : lyM G) {x1 : Int} {x2 : Int} {I J : Nat → Nat → Int} (hx1 : inR x1) (hx2 : inR x2) {res : Int × MI} (h : f_M_leaver F x1 x2 I J = some res) : Spec l g 2 yX11_leaver cX11_leaver 6 (some .int) [vR g 296, vI x1, vI x2] (z, I, J, G) (some (vI res.1)) (inR res.1) (z, res.2, J, G) := by
  refine spec_of (μ := mu_M_leaver) (k := 3) (L0 := [some (vR g 296), some (vI x1), some (vI x2), none, none, none]) rfl mw_M_leaver rfl rfl (Nat.le_refl _) (fun φ hb hE => ?_)
  refine z_aload_n dX11_leaver_0 rfl ?_
  refine z_iload_n dX11_leaver_1 rfl ?_
  obtain ⟨q1, hq2, h⟩ := bindE h
  refine z_callV (As := [vI x1]) (rest := []) (s_M_isLeaver hz hG hx1 hq2) dX11_leaver_2 mw_M_isLeaver cl11 sh_296 (by decide) (Nat.le_trans (by decide) hz) ml_M_382 im_M_isLeaver se_M_isLeaver rfl rfl rfl rfl (Nat.le_refl _) (Nat.le_of_eq hb.symm) (fun hp3 => ?_)
  show Zt _ _ _ _ 5 _ [vI q1] (z, I, J, G)
  refine z_if_ne (tgt := 10) dX11_leaver_5 (by decide) (inR_bool hp3) (fun hc4 => ?_) (fun hc4 => ?_)
  · replace h := ifT hc4 h
    refine z_aload_n dX11_leaver_10 rfl ?_
    obtain ⟨q5, hq6, h⟩ := bindE h
    refine z_callV (As := []) (rest := []) (s_M_copies hz hG  hq6) dX11_leaver_11 mw_M_copies cl11 sh_296 (by decide) (Nat.le_trans (by decide) hz) ml_M_373 im_M_copies se_M_copies rfl rfl rfl rfl (Nat.le_refl _) (Nat.le_of_eq hb.symm) (fun hp7 => ?_)
    show Zt _ _ _ _ 14 _ [] (z, q5, J, G)
    refine z_iconst dX11_leaver_14 ?_
    refine z_istore_n (L' := [some (vR g 296), some (vI x1), some (vI x2), some (vI 0), none, none]) dX11_leaver_15 rfl rfl rfl ?_
    refine z_iconst dX11_leaver_16 ?_
    refine z_istore (L' := [some (vR g 296), some (vI x1), some (vI x2), some (vI 0), some (vI 0), none]) dX11_leaver_17 rfl rfl rfl ?_
    refine z_iconst dX11_leaver_19 ?_
    refine z_istore (L' := [some (vR g 296), some (vI x1), some (vI x2), some (vI 0), some (vI 0), some (vI 0)]) dX11_leaver_20 rfl rfl rfl ?_
    obtain ⟨e15, h16, h⟩ := bindE h
    refine l_M_leaver_L22 hb hz hG hx1 hx2 _ _ _ h16 ⟨(inRd (x := 0) (by decide)), (inRd (x := 0) (by decide)), (inRd (x := 0) (by decide))⟩ ?_
    refine fun h17 => ?_
    refine z_iload_n dX11_leaver_73 rfl ?_
    by_cases hc18 : x2 = 0
    · replace h := ifT hc18 h
      refine z_tabIn (tgt := 108) dX11_leaver_74 0 hc18 hx2 (by decide) rfl (by decide) ?_
      refine z_aload_n dX11_leaver_108 rfl ?_
      refine z_iload_n dX11_leaver_109 rfl ?_
      obtain ⟨q19, hq20, h⟩ := bindE h
      refine z_callV (As := [vI x1]) (rest := []) (s_M_leftOf hz hG hx1 hq20) dX11_leaver_110 mw_M_leftOf cl11 sh_296 (by decide) (Nat.le_trans (by decide) hz) ml_M_355 im_M_leftOf se_M_leftOf rfl rfl rfl rfl (Nat.le_refl _) (Nat.le_of_eq hb.symm) (fun hp21 => ?_)
      show Zt _ _ _ _ 113 _ [vI q19] (z, q5, J, G)
      obtain rfl := someE h
      exact z_iret dX11_leaver_113 hE hp21 rfl
    replace h := ifF hc18 h
    by_cases hc22 : x2 = 1
    · replace h := ifT hc22 h
      refine z_tabIn (tgt := 114) dX11_leaver_74 1 hc22 hx2 (by decide) rfl (by decide) ?_
      refine z_iload_n dX11_leaver_114 rfl ?_
      obtain rfl := someE h
      exact z_iret dX11_leaver_115 hE h17.1 rfl
    replace h := ifF hc22 h
    by_cases hc23 : x2 = 2
    · replace h := ifT hc23 h
      refine z_tabIn (tgt := 116) dX11_leaver_74 2 hc23 hx2 (by decide) rfl (by decide) ?_
      refine z_iload dX11_leaver_116 rfl ?_
      obtain rfl := someE h
      exact z_iret dX11_leaver_118 hE h17.2 rfl
    replace h := ifF hc23 h
    by_cases hc24 : x2 = 3
    · replace h := ifT hc24 h
      refine z_tabIn (tgt := 119) dX11_leaver_74 3 hc24 hx2 (by decide) rfl (by decide) ?_
      refine z_aload_n dX11_leaver_119 rfl ?_
      refine y_getR dX11_leaver_120 cl11 sh_296 (by decide) (Nat.le_trans (by decide) hz) 30 rfl rfl (fl_M_67) (ly_296_30 hG) (by decide) ?_
      refine z_bipush dX11_leaver_123 (by decide +kernel) ?_
      refine z_aload_n dX11_leaver_125 rfl ?_
      refine z_nm (fun hN25 => ?_)
      refine y_getI dX11_leaver_126 cl11 sh_296 (by decide) (Nat.le_trans (by decide) hz) 18 rfl rfl (fl_M_269) ?_
      refine z_imul dX11_leaver_129 ?_
      refine z_iload_n dX11_leaver_130 rfl ?_
      refine z_iadd dX11_leaver_131 ?_
      obtain ⟨hg26, h⟩ := guardE h
      refine y_iald dX11_leaver_132 sh_313 (by decide) (Nat.le_trans (by decide) hz) (inR_w32 _) hg26 ?_
      obtain rfl := someE h
      exact z_iret dX11_leaver_133 hE (hN25.1 313 ((w32 ((w32 (8 * (q5 296 18))) + x1))).toNat) rfl
    replace h := ifF hc24 h
    by_cases hc27 : x2 = 4
    · replace h := ifT hc27 h
      refine z_tabIn (tgt := 134) dX11_leaver_74 4 hc27 hx2 (by decide) rfl (by decide) ?_
      refine z_aload_n dX11_leaver_134 rfl ?_
      refine z_iload_n dX11_leaver_135 rfl ?_
      obtain ⟨q28, hq29, h⟩ := bindE h
      refine z_callV (As := [vI x1]) (rest := []) (s_M_mayThrow hz hG hx1 hq29) dX11_leaver_136 mw_M_mayThrow cl11 sh_296 (by decide) (Nat.le_trans (by decide) hz) ml_M_385 im_M_mayThrow se_M_mayThrow rfl rfl rfl rfl (Nat.le_refl _) (Nat.le_of_eq hb.symm) (fun hp30 => ?_)
      show Zt _ _ _ _ 139 _ [vI q28] (z, q5, J, G)
      refine z_if_eq (tgt := 146) dX11_leaver_139 (by decide) (inR_bool hp30) (fun hc31 => ?_) (fun hc31 => ?_)
      · replace h := ifT hc31 h
        refine z_iconst dX11_leaver_146 ?_
        obtain rfl := someE h
        exact z_iret dX11_leaver_147 hE (inRd (x := 0) (by decide)) rfl
      replace h := ifF hc31 h
      refine z_iconst dX11_leaver_142 ?_
      refine z_goto (tgt := 147) dX11_leaver_143 (by decide) ?_
      obtain rfl := someE h
      exact z_iret dX11_leaver_147 hE (inRd (x := 1) (by decide)) rfl
    replace h := ifF hc27 h
    refine z_tabOut (tgt := 148) dX11_leaver_74 hx2 (by omega) (by decide) ?_
    refine z_iconst dX11_leaver_148 ?_
    obtain rfl := someE h
    exact z_iret dX11_leaver_149 hE (inRd (x := (-1)) (by decide)) rfl
  replace h := ifF (fun q => q hc4) h
  refine z_iconst dX11_leaver_8 ?_
  obtain rfl := someE h
  exact z_iret dX11_leaver_9 hE (inRd (x := (-1)) (by decide)) rfl
set_option maxHeartbeats 1000000 in
theorem t_M_keeps_L52 {l : Launch} {g : GX} {φ : CX} {z : Nat} {G : Nat → Nat → Nat} {F : Nat} (hb : cb φ = z) (hz : 353 ≤ z) (hG : lyM G) {x1 : Int} {I J : Nat → Nat → Int} (hx1 : inR x1) {res : (MI) ⊕ (Int × MI)} (h : f_M_keeps_L52 F x1 I J = some res) (kE : ∀ e : MI, res = .inl e → ((True) → Zt l g φ mu_M_keeps 86 [some (vR g 296), none] [] (z, e, J, G))) (kS : ∀ s : Int × MI, res = .inr s → (inR s.1) → Zt l g φ mu_M_keeps 52 [some (vR g 296), some (vI s.1)] [] (z, s.2, J, G)) : Zt l g φ mu_M_keeps 52 [some (vR g 296), some (vI x1)] [] (z, I, J, G) := by
  refine z_iload_n dX11_keeps_52 rfl ?_
  refine z_sipush dX11_keeps_53 (by decide +kernel) ?_
  refine z_icmp_ge (tgt := 86) dX11_keeps_56 (by decide) hx1 (inRd (x := 250) (by decide)) (fun hc3 => ?_) (fun hc3 => ?_)
  · replace h := ifT hc3 h
    refine z_weak (L' := [some (vR g 296), none]) (lsS (lsN ls0)) ?_
    exact kE _ (someE h).symm trivial
  replace h := ifF hc3 h
  refine z_aload_n dX11_keeps_59 rfl ?_
  refine y_getR dX11_keeps_60 cl11 sh_296 (by decide) (Nat.le_trans (by decide) hz) 56 rfl rfl (fl_M_131) (ly_296_56 hG) (by decide) ?_
  refine z_sipush dX11_keeps_63 (by decide +kernel) ?_
  refine z_aload_n dX11_keeps_66 rfl ?_
  refine z_nm (fun hN4 => ?_)
  refine y_getI dX11_keeps_67 cl11 sh_296 (by decide) (Nat.le_trans (by decide) hz) 55 rfl rfl (fl_M_287) ?_
  refine z_imul dX11_keeps_70 ?_
  refine z_iload_n dX11_keeps_71 rfl ?_
  refine z_iadd dX11_keeps_72 ?_
  refine z_aload_n dX11_keeps_73 rfl ?_
  refine y_getR dX11_keeps_74 cl11 sh_296 (by decide) (Nat.le_trans (by decide) hz) 52 rfl rfl (fl_M_122) (ly_296_52 hG) (by decide) ?_
  refine z_iload_n dX11_keeps_77 rfl ?_
  obtain ⟨hg5, h⟩ := guardE h
  refine y_iald dX11_keeps_78 sh_331 (by decide) (Nat.le_trans (by decide) hz) hx1 hg5 ?_
  obtain ⟨hg6, h⟩ := guardE h
  refine y_iast dX11_keeps_79 sh_334 (by decide) (Nat.le_trans (by decide) hz) (inR_w32 _) hg6 (hN4.1 331 (x1).toNat) ?_
  refine z_iinc (L' := [some (vR g 296), some (vI (w32 (x1 + 1)))]) dX11_keeps_80 rfl rfl rfl rfl ?_
  refine z_goto (tgt := 52) dX11_keeps_83 (by decide) ?_
  exact kS _ (someE h).symm (inR_w32 _)
theorem l_M_keeps_L52 {l : Launch} {g : GX} {φ : CX} {z : Nat} {G : Nat → Nat → Nat} {F : Nat} (hb : cb φ = z) (hz : 353 ≤ z) (hG : lyM G) {J : Nat → Nat → Int} (n : Nat) (s : Int × MI) (e : MI) (h : iter (fun s : Int × MI => f_M_keeps_L52 F s.1 s.2 J) n s = some e) (hs : inR s.1) (k : ((True) → Zt l g φ mu_M_keeps 86 [some (vR g 296), none] [] (z, e, J, G))) : Zt l g φ mu_M_keeps 52 [some (vR g 296), some (vI s.1)] [] (z, s.2, J, G) := by
  refine iter_ind (Z := fun s : Int × MI => Zt l g φ mu_M_keeps 52 [some (vR g 296), some (vI s.1)] [] (z, s.2, J, G)) (ZE := fun e : MI => ((True) → Zt l g φ mu_M_keeps 86 [some (vR g 296), none] [] (z, e, J, G))) (Rg := fun s : Int × MI => inR s.1) ?_ n s e h hs k
  intro s r hr hst kE kS
  exact t_M_keeps_L52 hb hz hG hr hst kE kS
set_option maxHeartbeats 1000000 in
theorem t_M_keeps_L98 {l : Launch} {g : GX} {φ : CX} {z : Nat} {G : Nat → Nat → Nat} {F : Nat} (hb : cb φ = z) (hz : 353 ≤ z) (hG : lyM G) {x1 : Int} {I J : Nat → Nat → Int} (hx1 : inR x1) {res : (MI) ⊕ (Int × MI)} (h : f_M_keeps_L98 F x1 I J = some res) (kE : ∀ e : MI, res = .inl e → ((True) → Zt l g φ mu_M_keeps 123 [none, none] [] (z, e, J, G))) (kS : ∀ s : Int × MI, res = .inr s → (inR s.1) → Zt l g φ mu_M_keeps 98 [some (vR g 296), some (vI s.1)] [] (z, s.2, J, G)) : Zt l g φ mu_M_keeps 98 [some (vR g 296), some (vI x1)] [] (z, I, J, G) := by
  refine z_iload_n dX11_keeps_98 rfl ?_
  refine z_sipush dX11_keeps_99 (by decide +kernel) ?_
  refine z_icmp_ge (tgt := 123) dX11_keeps_102 (by decide) hx1 (inRd (x := 250) (by decide)) (fun hc11 => ?_) (fun hc11 => ?_)
  · replace h := ifT hc11 h
    refine z_weak (L' := [none, none]) (lsN (lsN ls0)) ?_
    exact kE _ (someE h).symm trivial
  replace h := ifF hc11 h
  refine z_aload_n dX11_keeps_105 rfl ?_
  refine y_getR dX11_keeps_106 cl11 sh_296 (by decide) (Nat.le_trans (by decide) hz) 52 rfl rfl (fl_M_122) (ly_296_52 hG) (by decide) ?_
  refine z_iload_n dX11_keeps_109 rfl ?_
  refine z_aload_n dX11_keeps_110 rfl ?_
  refine y_getR dX11_keeps_111 cl11 sh_296 (by decide) (Nat.le_trans (by decide) hz) 53 rfl rfl (fl_M_125) (ly_296_53 hG) (by decide) ?_
  refine z_iload_n dX11_keeps_114 rfl ?_
  obtain ⟨hg12, h⟩ := guardE h
  refine z_nm (fun hN13 => ?_)
  refine y_iald dX11_keeps_115 sh_332 (by decide) (Nat.le_trans (by decide) hz) hx1 hg12 ?_
  refine y_iast dX11_keeps_116 sh_331 (by decide) (Nat.le_trans (by decide) hz) hx1 hg12 (hN13.1 332 (x1).toNat) ?_
  refine z_iinc (L' := [some (vR g 296), some (vI (w32 (x1 + 1)))]) dX11_keeps_117 rfl rfl rfl rfl ?_
  refine z_goto (tgt := 98) dX11_keeps_120 (by decide) ?_
  exact kS _ (someE h).symm (inR_w32 _)
theorem l_M_keeps_L98 {l : Launch} {g : GX} {φ : CX} {z : Nat} {G : Nat → Nat → Nat} {F : Nat} (hb : cb φ = z) (hz : 353 ≤ z) (hG : lyM G) {J : Nat → Nat → Int} (n : Nat) (s : Int × MI) (e : MI) (h : iter (fun s : Int × MI => f_M_keeps_L98 F s.1 s.2 J) n s = some e) (hs : inR s.1) (k : ((True) → Zt l g φ mu_M_keeps 123 [none, none] [] (z, e, J, G))) : Zt l g φ mu_M_keeps 98 [some (vR g 296), some (vI s.1)] [] (z, s.2, J, G) := by
  refine iter_ind (Z := fun s : Int × MI => Zt l g φ mu_M_keeps 98 [some (vR g 296), some (vI s.1)] [] (z, s.2, J, G)) (ZE := fun e : MI => ((True) → Zt l g φ mu_M_keeps 123 [none, none] [] (z, e, J, G))) (Rg := fun s : Int × MI => inR s.1) ?_ n s e h hs k
  intro s r hr hst kE kS
  exact t_M_keeps_L98 hb hz hG hr hst kE kS
set_option maxHeartbeats 1000000 in
theorem t_M_keeps_b50 {l : Launch} {g : GX} {φ : CX} {z : Nat} {G : Nat → Nat → Nat} {F : Nat} (hb : cb φ = z) (hz : 353 ≤ z) (hG : lyM G) {I J : Nat → Nat → Int} {res : MI} (h : f_M_keeps_b50 F I J = some res) (hE : ends g φ none none True (z, res, J, G)) : Zt l g φ mu_M_keeps 50 [some (vR g 296), none] [] (z, I, J, G) := by
  refine z_iconst dX11_keeps_50 ?_
  refine z_istore_n (L' := [some (vR g 296), some (vI 0)]) dX11_keeps_51 rfl rfl rfl ?_
  obtain ⟨e7, h8, h⟩ := bindE h
  refine l_M_keeps_L52 hb hz hG  _ _ _ h8 (inRd (x := 0) (by decide)) ?_
  refine fun h9 => ?_
  refine z_aload_n dX11_keeps_86 rfl ?_
  refine z_dup dX11_keeps_87 rfl ?_
  refine z_nm (fun hN10 => ?_)
  refine y_getI dX11_keeps_88 cl11 sh_296 (by decide) (Nat.le_trans (by decide) hz) 55 rfl rfl (fl_M_287) ?_
  refine z_iconst dX11_keeps_91 ?_
  refine z_iadd dX11_keeps_92 ?_
  refine y_putI dX11_keeps_93 cl11 sh_296 (by decide) (Nat.le_trans (by decide) hz) 55 rfl rfl rfl (fl_M_287) rfl rfl (inR_w32 _) ?_
  refine z_iconst dX11_keeps_96 ?_
  refine z_istore_n (L' := [some (vR g 296), some (vI 0)]) dX11_keeps_97 rfl rfl rfl ?_
  obtain ⟨e14, h15, h⟩ := bindE h
  refine l_M_keeps_L98 hb hz hG  _ _ _ h15 (inRd (x := 0) (by decide)) ?_
  refine fun h16 => ?_
  obtain rfl := someE h
  exact z_vret dX11_keeps_123 hE trivial rfl
set_option maxHeartbeats 1000000 in
theorem t_M_keeps_L11 {l : Launch} {g : GX} {φ : CX} {z : Nat} {G : Nat → Nat → Nat} {F : Nat} (hb : cb φ = z) (hz : 353 ≤ z) (hG : lyM G) {x1 : Int} {I J : Nat → Nat → Int} (hx1 : inR x1) {res : (MI) ⊕ (Int × MI)} (h : f_M_keeps_L11 F x1 I J = some res) (kE : ∀ e : MI, res = .inl e → ((True) → Zt l g φ mu_M_keeps 40 [some (vR g 296), none] [] (z, e, J, G))) (kS : ∀ s : Int × MI, res = .inr s → (inR s.1) → Zt l g φ mu_M_keeps 11 [some (vR g 296), some (vI s.1)] [] (z, s.2, J, G)) : Zt l g φ mu_M_keeps 11 [some (vR g 296), some (vI x1)] [] (z, I, J, G) := by
  refine z_iload_n dX11_keeps_11 rfl ?_
  refine z_sipush dX11_keeps_12 (by decide +kernel) ?_
  refine z_icmp_ge (tgt := 40) dX11_keeps_15 (by decide) hx1 (inRd (x := 6000) (by decide)) (fun hc17 => ?_) (fun hc17 => ?_)
  · replace h := ifT hc17 h
    refine z_weak (L' := [some (vR g 296), none]) (lsS (lsN ls0)) ?_
    exact kE _ (someE h).symm trivial
  replace h := ifF hc17 h
  refine z_aload_n dX11_keeps_18 rfl ?_
  refine y_getR dX11_keeps_19 cl11 sh_296 (by decide) (Nat.le_trans (by decide) hz) 56 rfl rfl (fl_M_131) (ly_296_56 hG) (by decide) ?_
  refine z_iload_n dX11_keeps_22 rfl ?_
  refine z_aload_n dX11_keeps_23 rfl ?_
  refine y_getR dX11_keeps_24 cl11 sh_296 (by decide) (Nat.le_trans (by decide) hz) 56 rfl rfl (fl_M_131) (ly_296_56 hG) (by decide) ?_
  refine z_iload_n dX11_keeps_27 rfl ?_
  refine z_sipush dX11_keeps_28 (by decide +kernel) ?_
  refine z_iadd dX11_keeps_31 ?_
  obtain ⟨hg18, h⟩ := guardE h
  refine z_nm (fun hN19 => ?_)
  refine y_iald dX11_keeps_32 sh_334 (by decide) (Nat.le_trans (by decide) hz) (inR_w32 _) hg18 ?_
  obtain ⟨hg20, h⟩ := guardE h
  refine y_iast dX11_keeps_33 sh_334 (by decide) (Nat.le_trans (by decide) hz) hx1 hg20 (hN19.1 334 ((w32 (x1 + 250))).toNat) ?_
  refine z_iinc (L' := [some (vR g 296), some (vI (w32 (x1 + 1)))]) dX11_keeps_34 rfl rfl rfl rfl ?_
  refine z_goto (tgt := 11) dX11_keeps_37 (by decide) ?_
  exact kS _ (someE h).symm (inR_w32 _)
theorem l_M_keeps_L11 {l : Launch} {g : GX} {φ : CX} {z : Nat} {G : Nat → Nat → Nat} {F : Nat} (hb : cb φ = z) (hz : 353 ≤ z) (hG : lyM G) {J : Nat → Nat → Int} (n : Nat) (s : Int × MI) (e : MI) (h : iter (fun s : Int × MI => f_M_keeps_L11 F s.1 s.2 J) n s = some e) (hs : inR s.1) (k : ((True) → Zt l g φ mu_M_keeps 40 [some (vR g 296), none] [] (z, e, J, G))) : Zt l g φ mu_M_keeps 11 [some (vR g 296), some (vI s.1)] [] (z, s.2, J, G) := by
  refine iter_ind (Z := fun s : Int × MI => Zt l g φ mu_M_keeps 11 [some (vR g 296), some (vI s.1)] [] (z, s.2, J, G)) (ZE := fun e : MI => ((True) → Zt l g φ mu_M_keeps 40 [some (vR g 296), none] [] (z, e, J, G))) (Rg := fun s : Int × MI => inR s.1) ?_ n s e h hs k
  intro s r hr hst kE kS
  exact t_M_keeps_L11 hb hz hG hr hst kE kS
set_option maxHeartbeats 1000000 in
theorem s_M_keeps {l : Launch} {g : GX} {z : Nat} {G : Nat → Nat → Nat} {F : Nat} (hz : 353 ≤ z) (hG : lyM G) {I J : Nat → Nat → Int} {res : MI} (h : f_M_keeps F I J = some res) : Spec l g 0 yX11_keeps cX11_keeps 2 none [vR g 296] (z, I, J, G) none True (z, res, J, G) := by
  refine spec_of (μ := mu_M_keeps) (k := 1) (L0 := [some (vR g 296), none]) rfl mw_M_keeps rfl rfl (Nat.le_refl _) (fun φ hb hE => ?_)
  refine z_aload_n dX11_keeps_0 rfl ?_
  refine z_nm (fun hN1 => ?_)
  refine y_getI dX11_keeps_1 cl11 sh_296 (by decide) (Nat.le_trans (by decide) hz) 55 rfl rfl (fl_M_287) ?_
  refine z_bipush dX11_keeps_4 (by decide +kernel) ?_
  refine z_icmp_ne (tgt := 50) dX11_keeps_6 (by decide) (hN1.1 296 55) (inRd (x := 25) (by decide)) (fun hc2 => ?_) (fun hc2 => ?_)
  · replace h := ifT hc2 h
    exact t_M_keeps_b50 hb hz hG  h hE
  replace h := ifF (fun q => q hc2) h
  refine z_iconst dX11_keeps_9 ?_
  refine z_istore_n (L' := [some (vR g 296), some (vI 0)]) dX11_keeps_10 rfl rfl rfl ?_
  obtain ⟨e21, h22, h⟩ := bindE h
  refine l_M_keeps_L11 hb hz hG  _ _ _ h22 (inRd (x := 0) (by decide)) ?_
  refine fun h23 => ?_
  refine z_aload_n dX11_keeps_40 rfl ?_
  refine z_dup dX11_keeps_41 rfl ?_
  refine z_nm (fun hN24 => ?_)
  refine y_getI dX11_keeps_42 cl11 sh_296 (by decide) (Nat.le_trans (by decide) hz) 55 rfl rfl (fl_M_287) ?_
  refine z_iconst dX11_keeps_45 ?_
  refine z_isub dX11_keeps_46 ?_
  refine y_putI dX11_keeps_47 cl11 sh_296 (by decide) (Nat.le_trans (by decide) hz) 55 rfl rfl rfl (fl_M_287) rfl rfl (inR_w32 _) ?_
  exact t_M_keeps_b50 hb hz hG  h hE
set_option maxHeartbeats 1000000 in
theorem s_M_canThrow {l : Launch} {g : GX} {z : Nat} {G : Nat → Nat → Nat} {F : Nat} (hz : 353 ≤ z) (hG : lyM G) {x1 : Int} {I J : Nat → Nat → Int} (hx1 : inR x1) {res : Int × MI} (h : f_M_canThrow F x1 I J = some res) : Spec l g 2 yX11_canThrow cX11_canThrow 2 (some .boolean) [vR g 296, vI x1] (z, I, J, G) (some (vI res.1)) (res.1 = 0 ∨ res.1 = 1) (z, res.2, J, G) := by
  refine spec_of (μ := mu_M_canThrow) (k := 0) (L0 := [some (vR g 296), some (vI x1)]) rfl mw_M_canThrow rfl rfl (Nat.le_refl _) (fun φ hb hE => ?_)
  refine z_aload_n dX11_canThrow_0 rfl ?_
  refine z_iload_n dX11_canThrow_1 rfl ?_
  obtain ⟨q1, hq2, h⟩ := bindE h
  refine z_callV (As := [vI x1]) (rest := []) (s_M_isLeaver hz hG hx1 hq2) dX11_canThrow_2 mw_M_isLeaver cl11 sh_296 (by decide) (Nat.le_trans (by decide) hz) ml_M_382 im_M_isLeaver se_M_isLeaver rfl rfl rfl rfl (Nat.le_refl _) (Nat.le_of_eq hb.symm) (fun hp3 => ?_)
  show Zt _ _ _ _ 5 _ [vI q1] (z, I, J, G)
  refine z_if_ne (tgt := 10) dX11_canThrow_5 (by decide) (inR_bool hp3) (fun hc4 => ?_) (fun hc4 => ?_)
  · replace h := ifT hc4 h
    refine z_aload_n dX11_canThrow_10 rfl ?_
    obtain ⟨q5, hq6, h⟩ := bindE h
    refine z_callV (As := []) (rest := []) (s_M_copies hz hG  hq6) dX11_canThrow_11 mw_M_copies cl11 sh_296 (by decide) (Nat.le_trans (by decide) hz) ml_M_373 im_M_copies se_M_copies rfl rfl rfl rfl (Nat.le_refl _) (Nat.le_of_eq hb.symm) (fun hp7 => ?_)
    show Zt _ _ _ _ 14 _ [] (z, q5, J, G)
    refine z_aload_n dX11_canThrow_14 rfl ?_
    refine z_iload_n dX11_canThrow_15 rfl ?_
    obtain ⟨q8, hq9, h⟩ := bindE h
    refine z_callV (As := [vI x1]) (rest := []) (s_M_mayThrow hz hG hx1 hq9) dX11_canThrow_16 mw_M_mayThrow cl11 sh_296 (by decide) (Nat.le_trans (by decide) hz) ml_M_385 im_M_mayThrow se_M_mayThrow rfl rfl rfl rfl (Nat.le_refl _) (Nat.le_of_eq hb.symm) (fun hp10 => ?_)
    show Zt _ _ _ _ 19 _ [vI q8] (z, q5, J, G)
    obtain rfl := someE h
    exact z_zret dX11_canThrow_19 hE hp10 hp10 rfl
  replace h := ifF (fun q => q hc4) h
  refine z_iconst dX11_canThrow_8 ?_
  obtain rfl := someE h
  exact z_zret dX11_canThrow_9 hE b01_0 b01_0 rfl
set_option maxHeartbeats 1000000 in
theorem s_M_hurl {l : Launch} {g : GX} {z : Nat} {G : Nat → Nat → Nat} {F : Nat} (hz : 353 ≤ z) (hG : lyM G) {x1 : Int} {x2 : Int} {x3 : Int} {I J : Nat → Nat → Int} (hx1 : inR x1) (hx2 : inR x2) (hx3 : inR x3) {res : Int × MI} (h : f_M_hurl F x1 x2 x3 I J = some res) : Spec l g 3 yX11_hurl cX11_hurl 5 (some .int) [vR g 296, vI x1, vI x2, vI x3] (z, I, J, G) (some (vI res.1)) (inR res.1) (z, res.2, J, G) := by
  refine spec_of (μ := mu_M_hurl) (k := 1) (L0 := [some (vR g 296), some (vI x1), some (vI x2), some (vI x3), none]) rfl mw_M_hurl rfl rfl (Nat.le_refl _) (fun φ hb hE => ?_)
  refine z_aload_n dX11_hurl_0 rfl ?_
  refine z_iload_n dX11_hurl_1 rfl ?_
  refine z_iload_n dX11_hurl_2 rfl ?_
  obtain ⟨q1, hq2, h⟩ := bindE h
  refine z_callV (As := [vI x2, vI x3]) (rest := []) (s_M_isCell hz hG hx2 hx3 hq2) dX11_hurl_3 mw_M_isCell cl11 sh_296 (by decide) (Nat.le_trans (by decide) hz) ml_M_369 im_M_isCell se_M_isCell rfl rfl rfl rfl (Nat.le_refl _) (Nat.le_of_eq hb.symm) (fun hp3 => ?_)
  show Zt _ _ _ _ 6 _ [vI q1] (z, I, J, G)
  refine z_if_eq (tgt := 17) dX11_hurl_6 (by decide) (inR_bool hp3) (fun hc4 => ?_) (fun hc4 => ?_)
  · replace h := ifT hc4 h
    refine z_iconst dX11_hurl_17 ?_
    obtain rfl := someE h
    exact z_iret dX11_hurl_18 hE (inRd (x := (-1)) (by decide)) rfl
  replace h := ifF hc4 h
  refine z_aload_n dX11_hurl_9 rfl ?_
  refine z_iload_n dX11_hurl_10 rfl ?_
  obtain ⟨q5, hq6, h⟩ := bindE h
  refine z_callV (As := [vI x1]) (rest := []) (s_M_canThrow hz hG hx1 hq6) dX11_hurl_11 mw_M_canThrow cl11 sh_296 (by decide) (Nat.le_trans (by decide) hz) ml_M_388 im_M_canThrow se_M_canThrow rfl rfl rfl rfl (Nat.le_refl _) (Nat.le_of_eq hb.symm) (fun hp7 => ?_)
  show Zt _ _ _ _ 14 _ [vI q5.1] (z, q5.2, J, G)
  refine z_if_ne (tgt := 19) dX11_hurl_14 (by decide) (inR_bool hp7) (fun hc8 => ?_) (fun hc8 => ?_)
  · replace h := ifT hc8 h
    refine z_aload_n dX11_hurl_19 rfl ?_
    refine z_iload_n dX11_hurl_20 rfl ?_
    refine z_iload_n dX11_hurl_21 rfl ?_
    refine z_iload_n dX11_hurl_22 rfl ?_
    obtain ⟨q9, hq10, h⟩ := bindE h
    refine z_callV (As := [vI x1, vI x2, vI x3]) (rest := []) (s_M_throwsAt hz hG hx1 hx2 hx3 hq10) dX11_hurl_23 mw_M_throwsAt cl11 sh_296 (by decide) (Nat.le_trans (by decide) hz) ml_M_391 im_M_throwsAt se_M_throwsAt rfl rfl rfl rfl (Nat.le_refl _) (Nat.le_of_eq hb.symm) (fun hp11 => ?_)
    show Zt _ _ _ _ 26 _ [vI q9.1] (z, q9.2, J, G)
    refine z_istore (L' := [some (vR g 296), some (vI x1), some (vI x2), some (vI x3), some (vI q9.1)]) dX11_hurl_26 rfl rfl rfl ?_
    refine z_aload_n dX11_hurl_28 rfl ?_
    obtain ⟨q12, hq13, h⟩ := bindE h
    refine z_callV (As := []) (rest := []) (s_M_keeps hz hG  hq13) dX11_hurl_29 mw_M_keeps cl11 sh_296 (by decide) (Nat.le_trans (by decide) hz) ml_M_394 im_M_keeps se_M_keeps rfl rfl rfl rfl (Nat.le_refl _) (Nat.le_of_eq hb.symm) (fun hp14 => ?_)
    show Zt _ _ _ _ 32 _ [] (z, q12, J, G)
    refine z_iload dX11_hurl_32 rfl ?_
    refine z_if_ge (tgt := 42) dX11_hurl_34 (by decide) hp11 (fun hc15 => ?_) (fun hc15 => ?_)
    · replace h := ifT hc15 h
      refine z_sipush dX11_hurl_42 (by decide +kernel) ?_
      refine z_bipush dX11_hurl_45 (by decide +kernel) ?_
      refine z_iload dX11_hurl_47 rfl ?_
      refine z_bipush dX11_hurl_49 (by decide +kernel) ?_
      refine z_idiv dX11_hurl_51 (inRd (x := 12) (by decide)) (by decide) ?_
      refine z_imul dX11_hurl_52 ?_
      refine z_iadd dX11_hurl_53 ?_
      refine z_iload dX11_hurl_54 rfl ?_
      refine z_bipush dX11_hurl_56 (by decide +kernel) ?_
      refine z_irem dX11_hurl_58 (inRd (x := 12) (by decide)) (by decide) ?_
      refine z_iadd dX11_hurl_59 ?_
      obtain rfl := someE h
      exact z_iret dX11_hurl_60 hE (inR_w32 _) rfl
    replace h := ifF hc15 h
    refine z_bipush dX11_hurl_37 (by decide +kernel) ?_
    refine z_goto (tgt := 60) dX11_hurl_39 (by decide) ?_
    obtain rfl := someE h
    exact z_iret dX11_hurl_60 hE (inRd (x := (-2)) (by decide)) rfl
  replace h := ifF (fun q => q hc8) h
  refine z_iconst dX11_hurl_17 ?_
  obtain rfl := someE h
  exact z_iret dX11_hurl_18 hE (inRd (x := (-1)) (by decide)) rfl
set_option maxHeartbeats 1000000 in
theorem t_M_days_L31 {l : Launch} {g : GX} {φ : CX} {z : Nat} {G : Nat → Nat → Nat} {F : Nat} (hb : cb φ = z) (hz : 353 ≤ z) (hG : lyM G) {x1 : Int} {x2 : Int} {I J : Nat → Nat → Int} (hx1 : inR x1) (hx2 : inR x2) {res : (MI) ⊕ (Int × MI)} (h : f_M_days_L31 F x1 x2 I J = some res) (kE : ∀ e : MI, res = .inl e → ((True) → Zt l g φ mu_M_days 46 [some (vR g 296), none, none] [] (z, e, J, G))) (kS : ∀ s : Int × MI, res = .inr s → (inR s.1) → Zt l g φ mu_M_days 31 [some (vR g 296), some (vI x1), some (vI s.1)] [] (z, s.2, J, G)) : Zt l g φ mu_M_days 31 [some (vR g 296), some (vI x1), some (vI x2)] [] (z, I, J, G) := by
  refine z_iload_n dX11_days_31 rfl ?_
  refine z_iload_n dX11_days_32 rfl ?_
  refine z_icmp_ge (tgt := 46) dX11_days_33 (by decide) hx2 hx1 (fun hc9 => ?_) (fun hc9 => ?_)
  · replace h := ifT hc9 h
    refine z_weak (L' := [some (vR g 296), none, none]) (lsS (lsN (lsN ls0))) ?_
    exact kE _ (someE h).symm trivial
  replace h := ifF hc9 h
  refine z_aload_n dX11_days_36 rfl ?_
  obtain ⟨q10, hq11, h⟩ := bindE h
  refine z_callV (As := []) (rest := []) (s_M_dayGoes hz hG  hq11) dX11_days_37 mw_M_dayGoes cl11 sh_296 (by decide) (Nat.le_trans (by decide) hz) ml_M_397 im_M_dayGoes se_M_dayGoes rfl rfl rfl rfl (Nat.le_refl _) (Nat.le_of_eq hb.symm) (fun hp12 => ?_)
  show Zt _ _ _ _ 40 _ [] (z, q10, J, G)
  refine z_iinc (L' := [some (vR g 296), some (vI x1), some (vI (w32 (x2 + 1)))]) dX11_days_40 rfl rfl rfl rfl ?_
  refine z_goto (tgt := 31) dX11_days_43 (by decide) ?_
  exact kS _ (someE h).symm (inR_w32 _)
theorem l_M_days_L31 {l : Launch} {g : GX} {φ : CX} {z : Nat} {G : Nat → Nat → Nat} {F : Nat} (hb : cb φ = z) (hz : 353 ≤ z) (hG : lyM G) {x1 : Int} {J : Nat → Nat → Int} (hx1 : inR x1) (n : Nat) (s : Int × MI) (e : MI) (h : iter (fun s : Int × MI => f_M_days_L31 F x1 s.1 s.2 J) n s = some e) (hs : inR s.1) (k : ((True) → Zt l g φ mu_M_days 46 [some (vR g 296), none, none] [] (z, e, J, G))) : Zt l g φ mu_M_days 31 [some (vR g 296), some (vI x1), some (vI s.1)] [] (z, s.2, J, G) := by
  refine iter_ind (Z := fun s : Int × MI => Zt l g φ mu_M_days 31 [some (vR g 296), some (vI x1), some (vI s.1)] [] (z, s.2, J, G)) (ZE := fun e : MI => ((True) → Zt l g φ mu_M_days 46 [some (vR g 296), none, none] [] (z, e, J, G))) (Rg := fun s : Int × MI => inR s.1) ?_ n s e h hs k
  intro s r hr hst kE kS
  exact t_M_days_L31 hb hz hG hx1 hr hst kE kS
set_option maxHeartbeats 1000000 in
theorem s_M_days {l : Launch} {g : GX} {z : Nat} {G : Nat → Nat → Nat} {F : Nat} (hz : 353 ≤ z) (hG : lyM G) {x1 : Int} {I J : Nat → Nat → Int} (hx1 : inR x1) {res : Int × MI} (h : f_M_days F x1 I J = some res) : Spec l g 3 yX11_days cX11_days 3 (some .int) [vR g 296, vI x1] (z, I, J, G) (some (vI res.1)) (inR res.1) (z, res.2, J, G) := by
  refine spec_of (μ := mu_M_days) (k := 1) (L0 := [some (vR g 296), some (vI x1), none]) rfl mw_M_days rfl rfl (Nat.le_refl _) (fun φ hb hE => ?_)
  refine z_iload_n dX11_days_0 rfl ?_
  refine z_iconst dX11_days_1 ?_
  refine z_bipush dX11_days_2 (by decide +kernel) ?_
  obtain ⟨q1, hq2, h⟩ := bindE h
  refine z_callS (As := [vI x1, vI 0, vI 100]) (rest := []) (s_M_in hz hG hx1 (inRd (x := 0) (by decide)) (inRd (x := 100) (by decide)) hq2) dX11_days_4 mw_M_in ml_M_345 st_M_in rfl rfl rfl rfl (Nat.le_refl _) (Nat.le_of_eq hb.symm) (fun hp3 => ?_)
  show Zt _ _ _ _ 7 _ [vI q1] (z, I, J, G)
  refine z_if_ne (tgt := 12) dX11_days_7 (by decide) (inR_bool hp3) (fun hc4 => ?_) (fun hc4 => ?_)
  · replace h := ifT hc4 h
    refine z_iload_n dX11_days_12 rfl ?_
    refine z_if_ne (tgt := 25) dX11_days_13 (by decide) hx1 (fun hc5 => ?_) (fun hc5 => ?_)
    · replace h := ifT hc5 h
      refine z_aload_n dX11_days_25 rfl ?_
      obtain ⟨q6, hq7, h⟩ := bindE h
      refine z_callV (As := []) (rest := []) (s_M_copies hz hG  hq7) dX11_days_26 mw_M_copies cl11 sh_296 (by decide) (Nat.le_trans (by decide) hz) ml_M_373 im_M_copies se_M_copies rfl rfl rfl rfl (Nat.le_refl _) (Nat.le_of_eq hb.symm) (fun hp8 => ?_)
      show Zt _ _ _ _ 29 _ [] (z, q6, J, G)
      refine z_iconst dX11_days_29 ?_
      refine z_istore_n (L' := [some (vR g 296), some (vI x1), some (vI 0)]) dX11_days_30 rfl rfl rfl ?_
      obtain ⟨e13, h14, h⟩ := bindE h
      refine l_M_days_L31 hb hz hG hx1 _ _ _ h14 (inRd (x := 0) (by decide)) ?_
      refine fun h15 => ?_
      refine z_aload_n dX11_days_46 rfl ?_
      obtain ⟨q16, hq17, h⟩ := bindE h
      refine z_callV (As := []) (rest := []) (s_M_keeps hz hG  hq17) dX11_days_47 mw_M_keeps cl11 sh_296 (by decide) (Nat.le_trans (by decide) hz) ml_M_394 im_M_keeps se_M_keeps rfl rfl rfl rfl (Nat.le_refl _) (Nat.le_of_eq hb.symm) (fun hp18 => ?_)
      show Zt _ _ _ _ 50 _ [] (z, q16, J, G)
      refine z_aload_n dX11_days_50 rfl ?_
      refine y_getR dX11_days_51 cl11 sh_296 (by decide) (Nat.le_trans (by decide) hz) 52 rfl rfl (fl_M_122) (ly_296_52 hG) (by decide) ?_
      refine z_sipush dX11_days_54 (by decide +kernel) ?_
      refine z_nm (fun hN19 => ?_)
      refine y_iald dX11_days_57 sh_331 (by decide) (Nat.le_trans (by decide) hz) (inRd (x := 240) (by decide)) (by decide) ?_
      obtain rfl := someE h
      exact z_iret dX11_days_58 hE (hN19.1 331 240) rfl
    replace h := ifF (fun q => q hc5) h
    refine z_aload_n dX11_days_16 rfl ?_
    refine y_getR dX11_days_17 cl11 sh_296 (by decide) (Nat.le_trans (by decide) hz) 52 rfl rfl (fl_M_122) (ly_296_52 hG) (by decide) ?_
    refine z_sipush dX11_days_20 (by decide +kernel) ?_
    refine z_nm (fun hN20 => ?_)
    refine y_iald dX11_days_23 sh_331 (by decide) (Nat.le_trans (by decide) hz) (inRd (x := 240) (by decide)) (by decide) ?_
    obtain rfl := someE h
    exact z_iret dX11_days_24 hE (hN20.1 331 240) rfl
  replace h := ifF (fun q => q hc4) h
  refine z_iconst dX11_days_10 ?_
  obtain rfl := someE h
  exact z_iret dX11_days_11 hE (inRd (x := (-1)) (by decide)) rfl
set_option maxHeartbeats 1000000 in
theorem t_M_undo_L21 {l : Launch} {g : GX} {φ : CX} {z : Nat} {G : Nat → Nat → Nat} {F : Nat} (hb : cb φ = z) (hz : 353 ≤ z) (hG : lyM G) {x1 : Int} {I J : Nat → Nat → Int} (hx1 : inR x1) {res : (MI) ⊕ (Int × MI)} (h : f_M_undo_L21 F x1 I J = some res) (kE : ∀ e : MI, res = .inl e → ((True) → Zt l g φ mu_M_undo 55 [none, none] [] (z, e, J, G))) (kS : ∀ s : Int × MI, res = .inr s → (inR s.1) → Zt l g φ mu_M_undo 21 [some (vR g 296), some (vI s.1)] [] (z, s.2, J, G)) : Zt l g φ mu_M_undo 21 [some (vR g 296), some (vI x1)] [] (z, I, J, G) := by
  refine z_iload_n dX11_undo_21 rfl ?_
  refine z_sipush dX11_undo_22 (by decide +kernel) ?_
  refine z_icmp_ge (tgt := 55) dX11_undo_25 (by decide) hx1 (inRd (x := 250) (by decide)) (fun hc3 => ?_) (fun hc3 => ?_)
  · replace h := ifT hc3 h
    refine z_weak (L' := [none, none]) (lsN (lsN ls0)) ?_
    exact kE _ (someE h).symm trivial
  replace h := ifF hc3 h
  refine z_aload_n dX11_undo_28 rfl ?_
  refine y_getR dX11_undo_29 cl11 sh_296 (by decide) (Nat.le_trans (by decide) hz) 52 rfl rfl (fl_M_122) (ly_296_52 hG) (by decide) ?_
  refine z_iload_n dX11_undo_32 rfl ?_
  refine z_aload_n dX11_undo_33 rfl ?_
  refine y_getR dX11_undo_34 cl11 sh_296 (by decide) (Nat.le_trans (by decide) hz) 56 rfl rfl (fl_M_131) (ly_296_56 hG) (by decide) ?_
  refine z_sipush dX11_undo_37 (by decide +kernel) ?_
  refine z_aload_n dX11_undo_40 rfl ?_
  refine z_nm (fun hN4 => ?_)
  refine y_getI dX11_undo_41 cl11 sh_296 (by decide) (Nat.le_trans (by decide) hz) 55 rfl rfl (fl_M_287) ?_
  refine z_imul dX11_undo_44 ?_
  refine z_iload_n dX11_undo_45 rfl ?_
  refine z_iadd dX11_undo_46 ?_
  obtain ⟨hg5, h⟩ := guardE h
  refine y_iald dX11_undo_47 sh_334 (by decide) (Nat.le_trans (by decide) hz) (inR_w32 _) hg5 ?_
  obtain ⟨hg6, h⟩ := guardE h
  refine y_iast dX11_undo_48 sh_331 (by decide) (Nat.le_trans (by decide) hz) hx1 hg6 (hN4.1 334 ((w32 ((w32 (250 * (I 296 55))) + x1))).toNat) ?_
  refine z_iinc (L' := [some (vR g 296), some (vI (w32 (x1 + 1)))]) dX11_undo_49 rfl rfl rfl rfl ?_
  refine z_goto (tgt := 21) dX11_undo_52 (by decide) ?_
  exact kS _ (someE h).symm (inR_w32 _)
theorem l_M_undo_L21 {l : Launch} {g : GX} {φ : CX} {z : Nat} {G : Nat → Nat → Nat} {F : Nat} (hb : cb φ = z) (hz : 353 ≤ z) (hG : lyM G) {J : Nat → Nat → Int} (n : Nat) (s : Int × MI) (e : MI) (h : iter (fun s : Int × MI => f_M_undo_L21 F s.1 s.2 J) n s = some e) (hs : inR s.1) (k : ((True) → Zt l g φ mu_M_undo 55 [none, none] [] (z, e, J, G))) : Zt l g φ mu_M_undo 21 [some (vR g 296), some (vI s.1)] [] (z, s.2, J, G) := by
  refine iter_ind (Z := fun s : Int × MI => Zt l g φ mu_M_undo 21 [some (vR g 296), some (vI s.1)] [] (z, s.2, J, G)) (ZE := fun e : MI => ((True) → Zt l g φ mu_M_undo 55 [none, none] [] (z, e, J, G))) (Rg := fun s : Int × MI => inR s.1) ?_ n s e h hs k
  intro s r hr hst kE kS
  exact t_M_undo_L21 hb hz hG hr hst kE kS
set_option maxHeartbeats 1000000 in
theorem s_M_undo {l : Launch} {g : GX} {z : Nat} {G : Nat → Nat → Nat} {F : Nat} (hz : 353 ≤ z) (hG : lyM G) {I J : Nat → Nat → Int} {res : Int × MI} (h : f_M_undo F I J = some res) : Spec l g 0 yX11_undo cX11_undo 2 (some .boolean) [vR g 296] (z, I, J, G) (some (vI res.1)) (res.1 = 0 ∨ res.1 = 1) (z, res.2, J, G) := by
  refine spec_of (μ := mu_M_undo) (k := 1) (L0 := [some (vR g 296), none]) rfl mw_M_undo rfl rfl (Nat.le_refl _) (fun φ hb hE => ?_)
  refine z_aload_n dX11_undo_0 rfl ?_
  refine z_nm (fun hN1 => ?_)
  refine y_getI dX11_undo_1 cl11 sh_296 (by decide) (Nat.le_trans (by decide) hz) 55 rfl rfl (fl_M_287) ?_
  refine z_if_ne (tgt := 9) dX11_undo_4 (by decide) (hN1.1 296 55) (fun hc2 => ?_) (fun hc2 => ?_)
  · replace h := ifT hc2 h
    refine z_aload_n dX11_undo_9 rfl ?_
    refine z_dup dX11_undo_10 rfl ?_
    refine y_getI dX11_undo_11 cl11 sh_296 (by decide) (Nat.le_trans (by decide) hz) 55 rfl rfl (fl_M_287) ?_
    refine z_iconst dX11_undo_14 ?_
    refine z_isub dX11_undo_15 ?_
    refine y_putI dX11_undo_16 cl11 sh_296 (by decide) (Nat.le_trans (by decide) hz) 55 rfl rfl rfl (fl_M_287) rfl rfl (inR_w32 _) ?_
    refine z_iconst dX11_undo_19 ?_
    refine z_istore_n (L' := [some (vR g 296), some (vI 0)]) dX11_undo_20 rfl rfl rfl ?_
    obtain ⟨e7, h8, h⟩ := bindE h
    refine l_M_undo_L21 hb hz hG  _ _ _ h8 (inRd (x := 0) (by decide)) ?_
    refine fun h9 => ?_
    refine z_iconst dX11_undo_55 ?_
    obtain rfl := someE h
    exact z_zret dX11_undo_56 hE b01_1 b01_1 rfl
  replace h := ifF (fun q => q hc2) h
  refine z_iconst dX11_undo_7 ?_
  obtain rfl := someE h
  exact z_zret dX11_undo_8 hE b01_0 b01_0 rfl
set_option maxHeartbeats 1000000 in
theorem t_M_leaps_b80 {l : Launch} {g : GX} {φ : CX} {z : Nat} {G : Nat → Nat → Nat} {F : Nat} (hb : cb φ = z) (hz : 353 ≤ z) (hG : lyM G) {s0 : Int} {s1 : Int} {I J : Nat → Nat → Int} (hs0 : inR s0) (hs1 : inR s1) {res : Int} (h : f_M_leaps_b80 F s0 s1 I J = some res) (hE : ends g φ (some .boolean) (some (vI res)) (res = 0 ∨ res = 1) (z, I, J, G)) : Zt l g φ mu_M_leaps 80 [some (vR g 296), none, none, none, none] [vI s1, vI s0] (z, I, J, G) := by
  refine z_iadd dX11_leaps_80 ?_
  refine z_aload_n dX11_leaps_81 rfl ?_
  refine y_getR dX11_leaps_82 cl11 sh_296 (by decide) (Nat.le_trans (by decide) hz) 27 rfl rfl (fl_M_58) (ly_296_27 hG) (by decide) ?_
  refine z_aload_n dX11_leaps_85 rfl ?_
  refine z_nm (fun hN9 => ?_)
  refine y_getI dX11_leaps_86 cl11 sh_296 (by decide) (Nat.le_trans (by decide) hz) 18 rfl rfl (fl_M_269) ?_
  obtain ⟨hg10, h⟩ := guardE h
  refine y_iald dX11_leaps_89 sh_310 (by decide) (Nat.le_trans (by decide) hz) (hN9.1 296 18) hg10 ?_
  refine z_icmp_gt (tgt := 97) dX11_leaps_90 (by decide) (inR_w32 _) (hN9.1 310 ((I 296 18)).toNat) (fun hc11 => ?_) (fun hc11 => ?_)
  · replace h := ifT hc11 h
    refine z_iconst dX11_leaps_97 ?_
    obtain rfl := someE h
    exact z_zret dX11_leaps_98 hE b01_0 b01_0 rfl
  replace h := ifF hc11 h
  refine z_iconst dX11_leaps_93 ?_
  refine z_goto (tgt := 98) dX11_leaps_94 (by decide) ?_
  obtain rfl := someE h
  exact z_zret dX11_leaps_98 hE b01_1 b01_1 rfl
set_option maxHeartbeats 1000000 in
theorem t_M_leaps_b70 {l : Launch} {g : GX} {φ : CX} {z : Nat} {G : Nat → Nat → Nat} {F : Nat} (hb : cb φ = z) (hz : 353 ≤ z) (hG : lyM G) {x3 : Int} {s0 : Int} {I J : Nat → Nat → Int} (hx3 : inR x3) (hs0 : inR s0) {res : Int} (h : f_M_leaps_b70 F x3 s0 I J = some res) (hE : ends g φ (some .boolean) (some (vI res)) (res = 0 ∨ res = 1) (z, I, J, G)) : Zt l g φ mu_M_leaps 70 [some (vR g 296), none, none, some (vI x3), none] [vI s0] (z, I, J, G) := by
  refine z_iload_n dX11_leaps_70 rfl ?_
  refine z_if_ge (tgt := 79) dX11_leaps_71 (by decide) hx3 (fun hc8 => ?_) (fun hc8 => ?_)
  · replace h := ifT hc8 h
    refine z_iload_n dX11_leaps_79 rfl ?_
    refine z_weak (L' := [some (vR g 296), none, none, none, none]) (lsS (lsN (lsN (lsN (lsN ls0))))) ?_
    exact t_M_leaps_b80 hb hz hG hs0 hx3 h hE
  replace h := ifF hc8 h
  refine z_iload_n dX11_leaps_74 rfl ?_
  refine z_ineg dX11_leaps_75 ?_
  refine z_goto (tgt := 80) dX11_leaps_76 (by decide) ?_
  refine z_weak (L' := [some (vR g 296), none, none, none, none]) (lsS (lsN (lsN (lsN (lsN ls0))))) ?_
  exact t_M_leaps_b80 hb hz hG hs0 (inR_w32 _) h hE
set_option maxHeartbeats 1000000 in
theorem t_M_leaps_b55 {l : Launch} {g : GX} {φ : CX} {z : Nat} {G : Nat → Nat → Nat} {F : Nat} (hb : cb φ = z) (hz : 353 ≤ z) (hG : lyM G) {x3 : Int} {s0 : Int} {I J : Nat → Nat → Int} (hx3 : inR x3) (hs0 : inR s0) {res : Int} (h : f_M_leaps_b55 F x3 s0 I J = some res) (hE : ends g φ (some .boolean) (some (vI res)) (res = 0 ∨ res = 1) (z, I, J, G)) : Zt l g φ mu_M_leaps 55 [some (vR g 296), none, none, some (vI x3), none] [vI s0] (z, I, J, G) := by
  refine z_istore (L' := [some (vR g 296), none, none, some (vI x3), some (vI s0)]) dX11_leaps_55 rfl rfl rfl ?_
  refine z_iload dX11_leaps_57 rfl ?_
  refine z_if_ge (tgt := 68) dX11_leaps_59 (by decide) hs0 (fun hc7 => ?_) (fun hc7 => ?_)
  · replace h := ifT hc7 h
    refine z_iload dX11_leaps_68 rfl ?_
    refine z_weak (L' := [some (vR g 296), none, none, some (vI x3), none]) (lsS (lsN (lsN (lsS (lsN ls0))))) ?_
    exact t_M_leaps_b70 hb hz hG hx3 hs0 h hE
  replace h := ifF hc7 h
  refine z_iload dX11_leaps_62 rfl ?_
  refine z_ineg dX11_leaps_64 ?_
  refine z_goto (tgt := 70) dX11_leaps_65 (by decide) ?_
  refine z_weak (L' := [some (vR g 296), none, none, some (vI x3), none]) (lsS (lsN (lsN (lsS (lsN ls0))))) ?_
  exact t_M_leaps_b70 hb hz hG hx3 (inR_w32 _) h hE
set_option maxHeartbeats 1000000 in
theorem t_M_leaps_b34 {l : Launch} {g : GX} {φ : CX} {z : Nat} {G : Nat → Nat → Nat} {F : Nat} (hb : cb φ = z) (hz : 353 ≤ z) (hG : lyM G) {x1 : Int} {x2 : Int} {s0 : Int} {s1 : Int} {I J : Nat → Nat → Int} (hx1 : inR x1) (hx2 : inR x2) (hs0 : inR s0) (hs1 : inR s1) {res : Int} (h : f_M_leaps_b34 F x1 x2 s0 s1 I J = some res) (hE : ends g φ (some .boolean) (some (vI res)) (res = 0 ∨ res = 1) (z, I, J, G)) : Zt l g φ mu_M_leaps 34 [some (vR g 296), some (vI x1), some (vI x2), none, none] [vI s1, vI s0] (z, I, J, G) := by
  refine z_isub dX11_leaps_34 ?_
  refine z_istore_n (L' := [some (vR g 296), some (vI x1), some (vI x2), some (vI (w32 (s0 - s1))), none]) dX11_leaps_35 rfl rfl rfl ?_
  refine z_iload_n dX11_leaps_36 rfl ?_
  refine z_bipush dX11_leaps_37 (by decide +kernel) ?_
  refine z_icmp_ne (tgt := 46) dX11_leaps_39 (by decide) hx1 (inRd (x := 96) (by decide)) (fun hc6 => ?_) (fun hc6 => ?_)
  · replace h := ifT hc6 h
    refine z_iload_n dX11_leaps_46 rfl ?_
    refine z_bipush dX11_leaps_47 (by decide +kernel) ?_
    refine z_irem dX11_leaps_49 (inRd (x := 12) (by decide)) (by decide) ?_
    refine z_iload_n dX11_leaps_50 rfl ?_
    refine z_bipush dX11_leaps_51 (by decide +kernel) ?_
    refine z_irem dX11_leaps_53 (inRd (x := 12) (by decide)) (by decide) ?_
    refine z_isub dX11_leaps_54 ?_
    refine z_weak (L' := [some (vR g 296), none, none, some (vI (w32 (s0 - s1))), none]) (lsS (lsN (lsN (lsS (lsN ls0))))) ?_
    exact t_M_leaps_b55 hb hz hG (inR_w32 _) (inR_w32 _) h hE
  replace h := ifF (fun q => q hc6) h
  refine z_iconst dX11_leaps_42 ?_
  refine z_goto (tgt := 55) dX11_leaps_43 (by decide) ?_
  refine z_weak (L' := [some (vR g 296), none, none, some (vI (w32 (s0 - s1))), none]) (lsS (lsN (lsN (lsS (lsN ls0))))) ?_
  exact t_M_leaps_b55 hb hz hG (inR_w32 _) (inRd (x := 0) (by decide)) h hE
set_option maxHeartbeats 1000000 in
theorem s_M_leaps {l : Launch} {g : GX} {z : Nat} {G : Nat → Nat → Nat} {F : Nat} (hz : 353 ≤ z) (hG : lyM G) {x1 : Int} {x2 : Int} {I J : Nat → Nat → Int} (hx1 : inR x1) (hx2 : inR x2) {res : Int} (h : f_M_leaps F x1 x2 I J = some res) : Spec l g 0 yX11_leaps cX11_leaps 5 (some .boolean) [vR g 296, vI x1, vI x2] (z, I, J, G) (some (vI res)) (res = 0 ∨ res = 1) (z, I, J, G) := by
  refine spec_of (μ := mu_M_leaps) (k := 2) (L0 := [some (vR g 296), some (vI x1), some (vI x2), none, none]) rfl mw_M_leaps rfl rfl (Nat.le_refl _) (fun φ hb hE => ?_)
  refine z_iload_n dX11_leaps_0 rfl ?_
  refine z_iload_n dX11_leaps_1 rfl ?_
  refine z_icmp_eq (tgt := 14) dX11_leaps_2 (by decide) hx1 hx2 (fun hc1 => ?_) (fun hc1 => ?_)
  · replace h := ifT hc1 h
    refine z_iconst dX11_leaps_14 ?_
    obtain rfl := someE h
    exact z_zret dX11_leaps_15 hE b01_0 b01_0 rfl
  replace h := ifF hc1 h
  refine z_aload_n dX11_leaps_5 rfl ?_
  refine y_getR dX11_leaps_6 cl11 sh_296 (by decide) (Nat.le_trans (by decide) hz) 57 rfl rfl (fl_M_134) (ly_296_57 hG) (by decide) ?_
  refine z_iload_n dX11_leaps_9 rfl ?_
  obtain ⟨hg2, h⟩ := guardE h
  refine z_nm (fun hN3 => ?_)
  refine y_zald dX11_leaps_10 sh_335 (by decide) (Nat.le_trans (by decide) hz) hx2 hg2 ?_
  refine z_if_ne (tgt := 16) dX11_leaps_11 (by decide) (hN3.1 335 (x2).toNat) (fun hc4 => ?_) (fun hc4 => ?_)
  · replace h := ifT hc4 h
    refine z_iload_n dX11_leaps_16 rfl ?_
    refine z_bipush dX11_leaps_17 (by decide +kernel) ?_
    refine z_idiv dX11_leaps_19 (inRd (x := 12) (by decide)) (by decide) ?_
    refine z_iload_n dX11_leaps_20 rfl ?_
    refine z_bipush dX11_leaps_21 (by decide +kernel) ?_
    refine z_icmp_ne (tgt := 30) dX11_leaps_23 (by decide) hx1 (inRd (x := 96) (by decide)) (fun hc5 => ?_) (fun hc5 => ?_)
    · replace h := ifT hc5 h
      refine z_iload_n dX11_leaps_30 rfl ?_
      refine z_bipush dX11_leaps_31 (by decide +kernel) ?_
      refine z_idiv dX11_leaps_33 (inRd (x := 12) (by decide)) (by decide) ?_
      exact t_M_leaps_b34 hb hz hG hx1 hx2 inR_div inR_div h hE
    replace h := ifF (fun q => q hc5) h
    refine z_iconst dX11_leaps_26 ?_
    refine z_goto (tgt := 34) dX11_leaps_27 (by decide) ?_
    exact t_M_leaps_b34 hb hz hG hx1 hx2 inR_div (inRd (x := (-1)) (by decide)) h hE
  replace h := ifF (fun q => q hc4) h
  refine z_iconst dX11_leaps_14 ?_
  obtain rfl := someE h
  exact z_zret dX11_leaps_15 hE b01_0 b01_0 rfl
set_option maxHeartbeats 1000000 in
theorem t_M_ends_b14 {l : Launch} {g : GX} {φ : CX} {z : Nat} {G : Nat → Nat → Nat} {F : Nat} (hb : cb φ = z) (hz : 353 ≤ z) (hG : lyM G) {s0 : Int} {I J : Nat → Nat → Int} (hs0 : inR s0) {res : Int} (h : f_M_ends_b14 F s0 I J = some res) (hE : ends g φ (some .boolean) (some (vI res)) (res = 0 ∨ res = 1) (z, I, J, G)) : Zt l g φ mu_M_ends 14 [some (vR g 296), none, none] [vI s0] (z, I, J, G) := by
  refine z_istore_n (L' := [some (vR g 296), none, some (vI s0)]) dX11_ends_14 rfl rfl rfl ?_
  refine z_aload_n dX11_ends_15 rfl ?_
  refine y_getR dX11_ends_16 cl11 sh_296 (by decide) (Nat.le_trans (by decide) hz) 23 rfl rfl (fl_M_46) (ly_296_23 hG) (by decide) ?_
  refine z_aload_n dX11_ends_19 rfl ?_
  refine z_nm (fun hN2 => ?_)
  refine y_getI dX11_ends_20 cl11 sh_296 (by decide) (Nat.le_trans (by decide) hz) 18 rfl rfl (fl_M_269) ?_
  obtain ⟨hg3, h⟩ := guardE h
  refine y_iald dX11_ends_23 sh_306 (by decide) (Nat.le_trans (by decide) hz) (hN2.1 296 18) hg3 ?_
  refine z_iload_n dX11_ends_24 rfl ?_
  refine z_isub dX11_ends_25 ?_
  refine z_aload_n dX11_ends_26 rfl ?_
  refine y_getR dX11_ends_27 cl11 sh_296 (by decide) (Nat.le_trans (by decide) hz) 27 rfl rfl (fl_M_58) (ly_296_27 hG) (by decide) ?_
  refine z_aload_n dX11_ends_30 rfl ?_
  refine y_getI dX11_ends_31 cl11 sh_296 (by decide) (Nat.le_trans (by decide) hz) 18 rfl rfl (fl_M_269) ?_
  refine y_iald dX11_ends_34 sh_310 (by decide) (Nat.le_trans (by decide) hz) (hN2.1 296 18) hg3 ?_
  refine z_icmp_gt (tgt := 42) dX11_ends_35 (by decide) (inR_w32 _) (hN2.1 310 ((I 296 18)).toNat) (fun hc4 => ?_) (fun hc4 => ?_)
  · replace h := ifT hc4 h
    refine z_iconst dX11_ends_42 ?_
    obtain rfl := someE h
    exact z_zret dX11_ends_43 hE b01_0 b01_0 rfl
  replace h := ifF hc4 h
  refine z_iconst dX11_ends_38 ?_
  refine z_goto (tgt := 43) dX11_ends_39 (by decide) ?_
  obtain rfl := someE h
  exact z_zret dX11_ends_43 hE b01_1 b01_1 rfl
set_option maxHeartbeats 1000000 in
theorem s_M_ends {l : Launch} {g : GX} {z : Nat} {G : Nat → Nat → Nat} {F : Nat} (hz : 353 ≤ z) (hG : lyM G) {x1 : Int} {I J : Nat → Nat → Int} (hx1 : inR x1) {res : Int} (h : f_M_ends F x1 I J = some res) : Spec l g 0 yX11_ends cX11_ends 3 (some .boolean) [vR g 296, vI x1] (z, I, J, G) (some (vI res)) (res = 0 ∨ res = 1) (z, I, J, G) := by
  refine spec_of (μ := mu_M_ends) (k := 1) (L0 := [some (vR g 296), some (vI x1), none]) rfl mw_M_ends rfl rfl (Nat.le_refl _) (fun φ hb hE => ?_)
  refine z_iload_n dX11_ends_0 rfl ?_
  refine z_bipush dX11_ends_1 (by decide +kernel) ?_
  refine z_icmp_ne (tgt := 10) dX11_ends_3 (by decide) hx1 (inRd (x := 96) (by decide)) (fun hc1 => ?_) (fun hc1 => ?_)
  · replace h := ifT hc1 h
    refine z_iload_n dX11_ends_10 rfl ?_
    refine z_bipush dX11_ends_11 (by decide +kernel) ?_
    refine z_idiv dX11_ends_13 (inRd (x := 12) (by decide)) (by decide) ?_
    refine z_weak (L' := [some (vR g 296), none, none]) (lsS (lsN (lsN ls0))) ?_
    exact t_M_ends_b14 hb hz hG inR_div h hE
  replace h := ifF (fun q => q hc1) h
  refine z_iconst dX11_ends_6 ?_
  refine z_goto (tgt := 14) dX11_ends_7 (by decide) ?_
  refine z_weak (L' := [some (vR g 296), none, none]) (lsS (lsN (lsN ls0))) ?_
  exact t_M_ends_b14 hb hz hG (inRd (x := (-1)) (by decide)) h hE
set_option maxHeartbeats 1000000 in
theorem t_M_fillsWays_L2 {l : Launch} {g : GX} {φ : CX} {z : Nat} {G : Nat → Nat → Nat} {F : Nat} (hb : cb φ = z) (hz : 353 ≤ z) (hG : lyM G) {x1 : Int} {x2 : Int} {I J : Nat → Nat → Int} (hx1 : inR x1) (hx2 : inR x2) {res : (MI) ⊕ (Int × MI)} (h : f_M_fillsWays_L2 F x1 x2 I J = some res) (kE : ∀ e : MI, res = .inl e → ((True) → Zt l g φ mu_M_fillsWays 23 [some (vR g 296), some (vI x1), none, none, none, none] [] (z, e, J, G))) (kS : ∀ s : Int × MI, res = .inr s → (inR s.1) → Zt l g φ mu_M_fillsWays 2 [some (vR g 296), some (vI x1), some (vI s.1), none, none, none] [] (z, s.2, J, G)) : Zt l g φ mu_M_fillsWays 2 [some (vR g 296), some (vI x1), some (vI x2), none, none, none] [] (z, I, J, G) := by
  refine z_iload_n dX11_fillsWays_2 rfl ?_
  refine z_bipush dX11_fillsWays_3 (by decide +kernel) ?_
  refine z_icmp_ge (tgt := 23) dX11_fillsWays_5 (by decide) hx2 (inRd (x := 97) (by decide)) (fun hc1 => ?_) (fun hc1 => ?_)
  · replace h := ifT hc1 h
    refine z_weak (L' := [some (vR g 296), some (vI x1), none, none, none, none]) (lsS (lsS (lsN (lsN (lsN (lsN ls0)))))) ?_
    exact kE _ (someE h).symm trivial
  replace h := ifF hc1 h
  refine z_aload_n dX11_fillsWays_8 rfl ?_
  refine y_getR dX11_fillsWays_9 cl11 sh_296 (by decide) (Nat.le_trans (by decide) hz) 59 rfl rfl (fl_M_140) (ly_296_59 hG) (by decide) ?_
  refine z_iload_n dX11_fillsWays_12 rfl ?_
  refine z_ldcw (n := 2000000000) dX11_fillsWays_13 (tin7 159 (by decide +kernel) rfl) ?_
  obtain ⟨hg2, h⟩ := guardE h
  refine y_iast dX11_fillsWays_16 sh_337 (by decide) (Nat.le_trans (by decide) hz) hx2 hg2 (inRd (x := 2000000000) (by decide)) ?_
  refine z_iinc (L' := [some (vR g 296), some (vI x1), some (vI (w32 (x2 + 1))), none, none, none]) dX11_fillsWays_17 rfl rfl rfl rfl ?_
  refine z_goto (tgt := 2) dX11_fillsWays_20 (by decide) ?_
  exact kS _ (someE h).symm (inR_w32 _)
theorem l_M_fillsWays_L2 {l : Launch} {g : GX} {φ : CX} {z : Nat} {G : Nat → Nat → Nat} {F : Nat} (hb : cb φ = z) (hz : 353 ≤ z) (hG : lyM G) {x1 : Int} {J : Nat → Nat → Int} (hx1 : inR x1) (n : Nat) (s : Int × MI) (e : MI) (h : iter (fun s : Int × MI => f_M_fillsWays_L2 F x1 s.1 s.2 J) n s = some e) (hs : inR s.1) (k : ((True) → Zt l g φ mu_M_fillsWays 23 [some (vR g 296), some (vI x1), none, none, none, none] [] (z, e, J, G))) : Zt l g φ mu_M_fillsWays 2 [some (vR g 296), some (vI x1), some (vI s.1), none, none, none] [] (z, s.2, J, G) := by
  refine iter_ind (Z := fun s : Int × MI => Zt l g φ mu_M_fillsWays 2 [some (vR g 296), some (vI x1), some (vI s.1), none, none, none] [] (z, s.2, J, G)) (ZE := fun e : MI => ((True) → Zt l g φ mu_M_fillsWays 23 [some (vR g 296), some (vI x1), none, none, none, none] [] (z, e, J, G))) (Rg := fun s : Int × MI => inR s.1) ?_ n s e h hs k
  intro s r hr hst kE kS
  exact t_M_fillsWays_L2 hb hz hG hx1 hr hst kE kS
set_option maxHeartbeats 1000000 in
theorem t_M_fillsWays_L76 {l : Launch} {g : GX} {φ : CX} {z : Nat} {G : Nat → Nat → Nat} {F : Nat} (hb : cb φ = z) (hz : 353 ≤ z) (hG : lyM G) {x1 : Int} {x2 : Int} {x3 : Int} {x4 : Int} {x5 : Int} {I J : Nat → Nat → Int} (hx1 : inR x1) (hx2 : inR x2) (hx3 : inR x3) (hx4 : inR x4) (hx5 : inR x5) {res : (Int) ⊕ (Int × Int)} (h : f_M_fillsWays_L76 F x1 x2 x3 x4 x5 I J = some res) (kE : ∀ e : Int, res = .inl e → ((inR e) → Zt l g φ mu_M_fillsWays 153 [some (vR g 296), some (vI x1), some (vI x2), some (vI x3), some (vI e), none] [] (z, I, J, G))) (kS : ∀ s : Int × Int, res = .inr s → (inR s.1 ∧ inR s.2) → Zt l g φ mu_M_fillsWays 76 [some (vR g 296), some (vI x1), some (vI x2), some (vI x3), some (vI s.1), some (vI s.2)] [] (z, I, J, G)) : Zt l g φ mu_M_fillsWays 76 [some (vR g 296), some (vI x1), some (vI x2), some (vI x3), some (vI x4), some (vI x5)] [] (z, I, J, G) := by
  refine z_iload dX11_fillsWays_76 rfl ?_
  refine z_bipush dX11_fillsWays_78 (by decide +kernel) ?_
  refine z_icmp_ge (tgt := 153) dX11_fillsWays_80 (by decide) hx5 (inRd (x := 96) (by decide)) (fun hc13 => ?_) (fun hc13 => ?_)
  · replace h := ifT hc13 h
    refine z_weak (L' := [some (vR g 296), some (vI x1), some (vI x2), some (vI x3), some (vI x4), none]) (lsS (lsS (lsS (lsS (lsS (lsN ls0)))))) ?_
    exact kE _ (someE h).symm hx4
  replace h := ifF hc13 h
  refine z_aload_n dX11_fillsWays_83 rfl ?_
  refine y_getR dX11_fillsWays_84 cl11 sh_296 (by decide) (Nat.le_trans (by decide) hz) 59 rfl rfl (fl_M_140) (ly_296_59 hG) (by decide) ?_
  refine z_iload dX11_fillsWays_87 rfl ?_
  obtain ⟨hg14, h⟩ := guardE h
  refine z_nm (fun hN15 => ?_)
  refine y_iald dX11_fillsWays_89 sh_337 (by decide) (Nat.le_trans (by decide) hz) hx5 hg14 ?_
  refine z_ldcw (n := 2000000000) dX11_fillsWays_90 (tin7 159 (by decide +kernel) rfl) ?_
  refine z_icmp_ge (tgt := 147) dX11_fillsWays_93 (by decide) (hN15.1 337 (x5).toNat) (inRd (x := 2000000000) (by decide)) (fun hc16 => ?_) (fun hc16 => ?_)
  · replace h := ifT hc16 h
    refine z_iinc (L' := [some (vR g 296), some (vI x1), some (vI x2), some (vI x3), some (vI x4), some (vI (w32 (x5 + 1)))]) dX11_fillsWays_147 rfl rfl rfl rfl ?_
    refine z_goto (tgt := 76) dX11_fillsWays_150 (by decide) ?_
    exact kS _ (someE h).symm ⟨hx4, (inR_w32 _)⟩
  replace h := ifF hc16 h
  refine z_aload_n dX11_fillsWays_96 rfl ?_
  refine z_iload_n dX11_fillsWays_97 rfl ?_
  refine z_iload dX11_fillsWays_98 rfl ?_
  obtain ⟨q17, hq18, h⟩ := bindE h
  refine z_callV (As := [vI x3, vI x5]) (rest := []) (s_M_leaps hz hG hx3 hx5 hq18) dX11_fillsWays_100 mw_M_leaps cl11 sh_296 (by decide) (Nat.le_trans (by decide) hz) ml_M_404 im_M_leaps se_M_leaps rfl rfl rfl rfl (Nat.le_refl _) (Nat.le_of_eq hb.symm) (fun hp19 => ?_)
  show Zt _ _ _ _ 103 _ [vI q17] (z, I, J, G)
  refine z_if_eq (tgt := 147) dX11_fillsWays_103 (by decide) (inR_bool hp19) (fun hc20 => ?_) (fun hc20 => ?_)
  · replace h := ifT hc20 h
    refine z_iinc (L' := [some (vR g 296), some (vI x1), some (vI x2), some (vI x3), some (vI x4), some (vI (w32 (x5 + 1)))]) dX11_fillsWays_147 rfl rfl rfl rfl ?_
    refine z_goto (tgt := 76) dX11_fillsWays_150 (by decide) ?_
    exact kS _ (someE h).symm ⟨hx4, (inR_w32 _)⟩
  replace h := ifF hc20 h
  refine z_aload_n dX11_fillsWays_106 rfl ?_
  refine y_getR dX11_fillsWays_107 cl11 sh_296 (by decide) (Nat.le_trans (by decide) hz) 59 rfl rfl (fl_M_140) (ly_296_59 hG) (by decide) ?_
  refine z_iload dX11_fillsWays_110 rfl ?_
  refine y_iald dX11_fillsWays_112 sh_337 (by decide) (Nat.le_trans (by decide) hz) hx5 hg14 ?_
  refine z_iload_n dX11_fillsWays_113 rfl ?_
  refine z_iadd dX11_fillsWays_114 ?_
  refine z_aload_n dX11_fillsWays_115 rfl ?_
  refine y_getR dX11_fillsWays_116 cl11 sh_296 (by decide) (Nat.le_trans (by decide) hz) 58 rfl rfl (fl_M_137) (ly_296_58 hG) (by decide) ?_
  refine z_iload dX11_fillsWays_119 rfl ?_
  obtain ⟨hg21, h⟩ := guardE h
  refine y_iald dX11_fillsWays_121 sh_336 (by decide) (Nat.le_trans (by decide) hz) hx5 hg21 ?_
  refine z_iadd dX11_fillsWays_122 ?_
  refine z_iload dX11_fillsWays_123 rfl ?_
  refine z_icmp_ge (tgt := 147) dX11_fillsWays_125 (by decide) (inR_w32 _) hx4 (fun hc22 => ?_) (fun hc22 => ?_)
  · replace h := ifT hc22 h
    refine z_iinc (L' := [some (vR g 296), some (vI x1), some (vI x2), some (vI x3), some (vI x4), some (vI (w32 (x5 + 1)))]) dX11_fillsWays_147 rfl rfl rfl rfl ?_
    refine z_goto (tgt := 76) dX11_fillsWays_150 (by decide) ?_
    exact kS _ (someE h).symm ⟨hx4, (inR_w32 _)⟩
  replace h := ifF hc22 h
  refine z_aload_n dX11_fillsWays_128 rfl ?_
  refine y_getR dX11_fillsWays_129 cl11 sh_296 (by decide) (Nat.le_trans (by decide) hz) 59 rfl rfl (fl_M_140) (ly_296_59 hG) (by decide) ?_
  refine z_iload dX11_fillsWays_132 rfl ?_
  refine y_iald dX11_fillsWays_134 sh_337 (by decide) (Nat.le_trans (by decide) hz) hx5 hg14 ?_
  refine z_iload_n dX11_fillsWays_135 rfl ?_
  refine z_iadd dX11_fillsWays_136 ?_
  refine z_aload_n dX11_fillsWays_137 rfl ?_
  refine y_getR dX11_fillsWays_138 cl11 sh_296 (by decide) (Nat.le_trans (by decide) hz) 58 rfl rfl (fl_M_137) (ly_296_58 hG) (by decide) ?_
  refine z_iload dX11_fillsWays_141 rfl ?_
  refine y_iald dX11_fillsWays_143 sh_336 (by decide) (Nat.le_trans (by decide) hz) hx5 hg21 ?_
  refine z_iadd dX11_fillsWays_144 ?_
  refine z_istore (L' := [some (vR g 296), some (vI x1), some (vI x2), some (vI x3), some (vI (w32 ((w32 ((I 337 (x5).toNat) + x1)) + (I 336 (x5).toNat)))), some (vI x5)]) dX11_fillsWays_145 rfl rfl rfl ?_
  refine z_iinc (L' := [some (vR g 296), some (vI x1), some (vI x2), some (vI x3), some (vI (w32 ((w32 ((I 337 (x5).toNat) + x1)) + (I 336 (x5).toNat)))), some (vI (w32 (x5 + 1)))]) dX11_fillsWays_147 rfl rfl rfl rfl ?_
  refine z_goto (tgt := 76) dX11_fillsWays_150 (by decide) ?_
  exact kS _ (someE h).symm ⟨(inR_w32 _), (inR_w32 _)⟩
theorem l_M_fillsWays_L76 {l : Launch} {g : GX} {φ : CX} {z : Nat} {G : Nat → Nat → Nat} {F : Nat} (hb : cb φ = z) (hz : 353 ≤ z) (hG : lyM G) {x1 : Int} {x2 : Int} {x3 : Int} {I : Nat → Nat → Int} {J : Nat → Nat → Int} (hx1 : inR x1) (hx2 : inR x2) (hx3 : inR x3) (n : Nat) (s : Int × Int) (e : Int) (h : iter (fun s : Int × Int => f_M_fillsWays_L76 F x1 x2 x3 s.1 s.2 I J) n s = some e) (hs : inR s.1 ∧ inR s.2) (k : ((inR e) → Zt l g φ mu_M_fillsWays 153 [some (vR g 296), some (vI x1), some (vI x2), some (vI x3), some (vI e), none] [] (z, I, J, G))) : Zt l g φ mu_M_fillsWays 76 [some (vR g 296), some (vI x1), some (vI x2), some (vI x3), some (vI s.1), some (vI s.2)] [] (z, I, J, G) := by
  refine iter_ind (Z := fun s : Int × Int => Zt l g φ mu_M_fillsWays 76 [some (vR g 296), some (vI x1), some (vI x2), some (vI x3), some (vI s.1), some (vI s.2)] [] (z, I, J, G)) (ZE := fun e : Int => ((inR e) → Zt l g φ mu_M_fillsWays 153 [some (vR g 296), some (vI x1), some (vI x2), some (vI x3), some (vI e), none] [] (z, I, J, G))) (Rg := fun s : Int × Int => inR s.1 ∧ inR s.2) ?_ n s e h hs k
  intro s r hr hst kE kS
  exact t_M_fillsWays_L76 hb hz hG hx1 hx2 hx3 hr.1 hr.2 hst kE kS
set_option maxHeartbeats 1000000 in
theorem t_M_fillsWays_b71in34 {l : Launch} {g : GX} {φ : CX} {z : Nat} {G : Nat → Nat → Nat} {F : Nat} (hb : cb φ = z) (hz : 353 ≤ z) (hG : lyM G) {x1 : Int} {x2 : Int} {x3 : Int} {s0 : Int} {I J : Nat → Nat → Int} (hx1 : inR x1) (hx2 : inR x2) (hx3 : inR x3) (hs0 : inR s0) {res : (Int × MI) ⊕ (Int × Int × MI)} (h : f_M_fillsWays_b71in34 F x1 x2 x3 s0 I J = some res) (kE : ∀ e : Int × MI, res = .inl e → ((inR e.1) → Zt l g φ mu_M_fillsWays 183 [some (vR g 296), some (vI x1), some (vI e.1), none, none, none] [] (z, e.2, J, G))) (kS : ∀ s : Int × Int × MI, res = .inr s → (inR s.1 ∧ inR s.2.1) → Zt l g φ mu_M_fillsWays 34 [some (vR g 296), some (vI x1), some (vI s.1), some (vI s.2.1), none, none] [] (z, s.2.2, J, G)) : Zt l g φ mu_M_fillsWays 71 [some (vR g 296), some (vI x1), some (vI x2), some (vI x3), none, none] [vI s0] (z, I, J, G) := by
  refine z_istore (L' := [some (vR g 296), some (vI x1), some (vI x2), some (vI x3), some (vI s0), none]) dX11_fillsWays_71 rfl rfl rfl ?_
  refine z_iconst dX11_fillsWays_73 ?_
  refine z_istore (L' := [some (vR g 296), some (vI x1), some (vI x2), some (vI x3), some (vI s0), some (vI 0)]) dX11_fillsWays_74 rfl rfl rfl ?_
  obtain ⟨e23, h24, h⟩ := bindE h
  refine l_M_fillsWays_L76 hb hz hG hx1 hx2 hx3 _ _ _ h24 ⟨hs0, (inRd (x := 0) (by decide))⟩ ?_
  refine fun h25 => ?_
  refine z_iload dX11_fillsWays_153 rfl ?_
  refine z_aload_n dX11_fillsWays_155 rfl ?_
  refine y_getR dX11_fillsWays_156 cl11 sh_296 (by decide) (Nat.le_trans (by decide) hz) 59 rfl rfl (fl_M_140) (ly_296_59 hG) (by decide) ?_
  refine z_iload_n dX11_fillsWays_159 rfl ?_
  obtain ⟨hg26, h⟩ := guardE h
  refine z_nm (fun hN27 => ?_)
  refine y_iald dX11_fillsWays_160 sh_337 (by decide) (Nat.le_trans (by decide) hz) hx3 hg26 ?_
  refine z_icmp_lt (tgt := 167) dX11_fillsWays_161 (by decide) h25 (hN27.1 337 (x3).toNat) (fun hc28 => ?_) (fun hc28 => ?_)
  · replace h := ifT hc28 h
    refine z_aload_n dX11_fillsWays_167 rfl ?_
    refine y_getR dX11_fillsWays_168 cl11 sh_296 (by decide) (Nat.le_trans (by decide) hz) 59 rfl rfl (fl_M_140) (ly_296_59 hG) (by decide) ?_
    refine z_iload_n dX11_fillsWays_171 rfl ?_
    refine z_iload dX11_fillsWays_172 rfl ?_
    refine y_iast dX11_fillsWays_174 sh_337 (by decide) (Nat.le_trans (by decide) hz) hx3 hg26 h25 ?_
    refine z_iconst dX11_fillsWays_175 ?_
    refine z_istore_n (L' := [some (vR g 296), some (vI x1), some (vI 1), some (vI x3), some (vI e23), none]) dX11_fillsWays_176 rfl rfl rfl ?_
    refine z_iinc (L' := [some (vR g 296), some (vI x1), some (vI 1), some (vI (w32 (x3 + (-1)))), some (vI e23), none]) dX11_fillsWays_177 rfl rfl rfl rfl ?_
    refine z_goto (tgt := 34) dX11_fillsWays_180 (by decide) ?_
    refine z_weak (L' := [some (vR g 296), some (vI x1), some (vI 1), some (vI (w32 (x3 + (-1)))), none, none]) (lsS (lsS (lsS (lsS (lsN (lsN ls0)))))) ?_
    exact kS _ (someE h).symm ⟨(inRd (x := 1) (by decide)), (inR_w32 _)⟩
  replace h := ifF hc28 h
  refine z_goto (tgt := 177) dX11_fillsWays_164 (by decide) ?_
  refine z_iinc (L' := [some (vR g 296), some (vI x1), some (vI x2), some (vI (w32 (x3 + (-1)))), some (vI e23), none]) dX11_fillsWays_177 rfl rfl rfl rfl ?_
  refine z_goto (tgt := 34) dX11_fillsWays_180 (by decide) ?_
  refine z_weak (L' := [some (vR g 296), some (vI x1), some (vI x2), some (vI (w32 (x3 + (-1)))), none, none]) (lsS (lsS (lsS (lsS (lsN (lsN ls0)))))) ?_
  exact kS _ (someE h).symm ⟨hx2, (inR_w32 _)⟩
set_option maxHeartbeats 1000000 in
theorem t_M_fillsWays_b56in34 {l : Launch} {g : GX} {φ : CX} {z : Nat} {G : Nat → Nat → Nat} {F : Nat} (hb : cb φ = z) (hz : 353 ≤ z) (hG : lyM G) {x1 : Int} {x2 : Int} {x3 : Int} {I J : Nat → Nat → Int} (hx1 : inR x1) (hx2 : inR x2) (hx3 : inR x3) {res : (Int × MI) ⊕ (Int × Int × MI)} (h : f_M_fillsWays_b56in34 F x1 x2 x3 I J = some res) (kE : ∀ e : Int × MI, res = .inl e → ((inR e.1) → Zt l g φ mu_M_fillsWays 183 [some (vR g 296), some (vI x1), some (vI e.1), none, none, none] [] (z, e.2, J, G))) (kS : ∀ s : Int × Int × MI, res = .inr s → (inR s.1 ∧ inR s.2.1) → Zt l g φ mu_M_fillsWays 34 [some (vR g 296), some (vI x1), some (vI s.1), some (vI s.2.1), none, none] [] (z, s.2.2, J, G)) : Zt l g φ mu_M_fillsWays 56 [some (vR g 296), some (vI x1), some (vI x2), some (vI x3), none, none] [] (z, I, J, G) := by
  refine z_aload_n dX11_fillsWays_56 rfl ?_
  refine z_iload_n dX11_fillsWays_57 rfl ?_
  obtain ⟨q9, hq10, h⟩ := bindE h
  refine z_callV (As := [vI x3]) (rest := []) (s_M_ends hz hG hx3 hq10) dX11_fillsWays_58 mw_M_ends cl11 sh_296 (by decide) (Nat.le_trans (by decide) hz) ml_M_401 im_M_ends se_M_ends rfl rfl rfl rfl (Nat.le_refl _) (Nat.le_of_eq hb.symm) (fun hp11 => ?_)
  show Zt _ _ _ _ 61 _ [vI q9] (z, I, J, G)
  refine z_if_eq (tgt := 68) dX11_fillsWays_61 (by decide) (inR_bool hp11) (fun hc12 => ?_) (fun hc12 => ?_)
  · replace h := ifT hc12 h
    refine z_ldcw (n := 2000000000) dX11_fillsWays_68 (tin7 159 (by decide +kernel) rfl) ?_
    exact t_M_fillsWays_b71in34 hb hz hG hx1 hx2 hx3 (inRd (x := 2000000000) (by decide)) h kE kS
  replace h := ifF hc12 h
  refine z_iload_n dX11_fillsWays_64 rfl ?_
  refine z_goto (tgt := 71) dX11_fillsWays_65 (by decide) ?_
  exact t_M_fillsWays_b71in34 hb hz hG hx1 hx2 hx3 hx1 h kE kS
set_option maxHeartbeats 1000000 in
theorem t_M_fillsWays_L34 {l : Launch} {g : GX} {φ : CX} {z : Nat} {G : Nat → Nat → Nat} {F : Nat} (hb : cb φ = z) (hz : 353 ≤ z) (hG : lyM G) {x1 : Int} {x2 : Int} {x3 : Int} {I J : Nat → Nat → Int} (hx1 : inR x1) (hx2 : inR x2) (hx3 : inR x3) {res : (Int × MI) ⊕ (Int × Int × MI)} (h : f_M_fillsWays_L34 F x1 x2 x3 I J = some res) (kE : ∀ e : Int × MI, res = .inl e → ((inR e.1) → Zt l g φ mu_M_fillsWays 183 [some (vR g 296), some (vI x1), some (vI e.1), none, none, none] [] (z, e.2, J, G))) (kS : ∀ s : Int × Int × MI, res = .inr s → (inR s.1 ∧ inR s.2.1) → Zt l g φ mu_M_fillsWays 34 [some (vR g 296), some (vI x1), some (vI s.1), some (vI s.2.1), none, none] [] (z, s.2.2, J, G)) : Zt l g φ mu_M_fillsWays 34 [some (vR g 296), some (vI x1), some (vI x2), some (vI x3), none, none] [] (z, I, J, G) := by
  refine z_iload_n dX11_fillsWays_34 rfl ?_
  refine z_if_lt (tgt := 183) dX11_fillsWays_35 (by decide) hx3 (fun hc7 => ?_) (fun hc7 => ?_)
  · replace h := ifT hc7 h
    refine z_weak (L' := [some (vR g 296), some (vI x1), some (vI x2), none, none, none]) (lsS (lsS (lsS (lsN (lsN (lsN ls0)))))) ?_
    exact kE _ (someE h).symm hx2
  replace h := ifF hc7 h
  refine z_iload_n dX11_fillsWays_38 rfl ?_
  refine z_bipush dX11_fillsWays_39 (by decide +kernel) ?_
  refine z_icmp_ge (tgt := 56) dX11_fillsWays_41 (by decide) hx3 (inRd (x := 96) (by decide)) (fun hc8 => ?_) (fun hc8 => ?_)
  · replace h := ifT hc8 h
    exact t_M_fillsWays_b56in34 hb hz hG hx1 hx2 hx3 h kE kS
  replace h := ifF hc8 h
  refine z_aload_n dX11_fillsWays_44 rfl ?_
  refine y_getR dX11_fillsWays_45 cl11 sh_296 (by decide) (Nat.le_trans (by decide) hz) 57 rfl rfl (fl_M_134) (ly_296_57 hG) (by decide) ?_
  refine z_iload_n dX11_fillsWays_48 rfl ?_
  obtain ⟨hg29, h⟩ := guardE h
  refine z_nm (fun hN30 => ?_)
  refine y_zald dX11_fillsWays_49 sh_335 (by decide) (Nat.le_trans (by decide) hz) hx3 hg29 ?_
  refine z_if_ne (tgt := 56) dX11_fillsWays_50 (by decide) (hN30.1 335 (x3).toNat) (fun hc31 => ?_) (fun hc31 => ?_)
  · replace h := ifT hc31 h
    exact t_M_fillsWays_b56in34 hb hz hG hx1 hx2 hx3 h kE kS
  replace h := ifF (fun q => q hc31) h
  refine z_goto (tgt := 177) dX11_fillsWays_53 (by decide) ?_
  refine z_iinc (L' := [some (vR g 296), some (vI x1), some (vI x2), some (vI (w32 (x3 + (-1)))), none, none]) dX11_fillsWays_177 rfl rfl rfl rfl ?_
  refine z_goto (tgt := 34) dX11_fillsWays_180 (by decide) ?_
  exact kS _ (someE h).symm ⟨hx2, (inR_w32 _)⟩
theorem l_M_fillsWays_L34 {l : Launch} {g : GX} {φ : CX} {z : Nat} {G : Nat → Nat → Nat} {F : Nat} (hb : cb φ = z) (hz : 353 ≤ z) (hG : lyM G) {x1 : Int} {J : Nat → Nat → Int} (hx1 : inR x1) (n : Nat) (s : Int × Int × MI) (e : Int × MI) (h : iter (fun s : Int × Int × MI => f_M_fillsWays_L34 F x1 s.1 s.2.1 s.2.2 J) n s = some e) (hs : inR s.1 ∧ inR s.2.1) (k : ((inR e.1) → Zt l g φ mu_M_fillsWays 183 [some (vR g 296), some (vI x1), some (vI e.1), none, none, none] [] (z, e.2, J, G))) : Zt l g φ mu_M_fillsWays 34 [some (vR g 296), some (vI x1), some (vI s.1), some (vI s.2.1), none, none] [] (z, s.2.2, J, G) := by
  refine iter_ind (Z := fun s : Int × Int × MI => Zt l g φ mu_M_fillsWays 34 [some (vR g 296), some (vI x1), some (vI s.1), some (vI s.2.1), none, none] [] (z, s.2.2, J, G)) (ZE := fun e : Int × MI => ((inR e.1) → Zt l g φ mu_M_fillsWays 183 [some (vR g 296), some (vI x1), some (vI e.1), none, none, none] [] (z, e.2, J, G))) (Rg := fun s : Int × Int × MI => inR s.1 ∧ inR s.2.1) ?_ n s e h hs k
  intro s r hr hst kE kS
  exact t_M_fillsWays_L34 hb hz hG hx1 hr.1 hr.2 hst kE kS
set_option maxHeartbeats 1000000 in
theorem t_M_fillsWays_L25 {l : Launch} {g : GX} {φ : CX} {z : Nat} {G : Nat → Nat → Nat} {F : Nat} (hb : cb φ = z) (hz : 353 ≤ z) (hG : lyM G) {x1 : Int} {x2 : Int} {I J : Nat → Nat → Int} (hx1 : inR x1) (hx2 : inR x2) {res : (MI) ⊕ (Int × MI)} (h : f_M_fillsWays_L25 F x1 x2 I J = some res) (kE : ∀ e : MI, res = .inl e → ((True) → Zt l g φ mu_M_fillsWays 186 [none, none, none, none, none, none] [] (z, e, J, G))) (kS : ∀ s : Int × MI, res = .inr s → (inR s.1) → Zt l g φ mu_M_fillsWays 25 [some (vR g 296), some (vI x1), some (vI s.1), none, none, none] [] (z, s.2, J, G)) : Zt l g φ mu_M_fillsWays 25 [some (vR g 296), some (vI x1), some (vI x2), none, none, none] [] (z, I, J, G) := by
  refine z_iload_n dX11_fillsWays_25 rfl ?_
  refine z_if_eq (tgt := 186) dX11_fillsWays_26 (by decide) hx2 (fun hc6 => ?_) (fun hc6 => ?_)
  · replace h := ifT hc6 h
    refine z_weak (L' := [none, none, none, none, none, none]) (lsN (lsN (lsN (lsN (lsN (lsN ls0)))))) ?_
    exact kE _ (someE h).symm trivial
  replace h := ifF hc6 h
  refine z_iconst dX11_fillsWays_29 ?_
  refine z_istore_n (L' := [some (vR g 296), some (vI x1), some (vI 0), none, none, none]) dX11_fillsWays_30 rfl rfl rfl ?_
  refine z_bipush dX11_fillsWays_31 (by decide +kernel) ?_
  refine z_istore_n (L' := [some (vR g 296), some (vI x1), some (vI 0), some (vI 96), none, none]) dX11_fillsWays_33 rfl rfl rfl ?_
  obtain ⟨e32, h33, h⟩ := bindE h
  refine l_M_fillsWays_L34 hb hz hG hx1 _ _ _ h33 ⟨(inRd (x := 0) (by decide)), (inRd (x := 96) (by decide))⟩ ?_
  refine fun h34 => ?_
  refine z_goto (tgt := 25) dX11_fillsWays_183 (by decide) ?_
  exact kS _ (someE h).symm h34
theorem l_M_fillsWays_L25 {l : Launch} {g : GX} {φ : CX} {z : Nat} {G : Nat → Nat → Nat} {F : Nat} (hb : cb φ = z) (hz : 353 ≤ z) (hG : lyM G) {x1 : Int} {J : Nat → Nat → Int} (hx1 : inR x1) (n : Nat) (s : Int × MI) (e : MI) (h : iter (fun s : Int × MI => f_M_fillsWays_L25 F x1 s.1 s.2 J) n s = some e) (hs : inR s.1) (k : ((True) → Zt l g φ mu_M_fillsWays 186 [none, none, none, none, none, none] [] (z, e, J, G))) : Zt l g φ mu_M_fillsWays 25 [some (vR g 296), some (vI x1), some (vI s.1), none, none, none] [] (z, s.2, J, G) := by
  refine iter_ind (Z := fun s : Int × MI => Zt l g φ mu_M_fillsWays 25 [some (vR g 296), some (vI x1), some (vI s.1), none, none, none] [] (z, s.2, J, G)) (ZE := fun e : MI => ((True) → Zt l g φ mu_M_fillsWays 186 [none, none, none, none, none, none] [] (z, e, J, G))) (Rg := fun s : Int × MI => inR s.1) ?_ n s e h hs k
  intro s r hr hst kE kS
  exact t_M_fillsWays_L25 hb hz hG hx1 hr hst kE kS
set_option maxHeartbeats 1000000 in
theorem s_M_fillsWays {l : Launch} {g : GX} {z : Nat} {G : Nat → Nat → Nat} {F : Nat} (hz : 353 ≤ z) (hG : lyM G) {x1 : Int} {I J : Nat → Nat → Int} (hx1 : inR x1) {res : MI} (h : f_M_fillsWays F x1 I J = some res) : Spec l g 1 yX11_fillsWays cX11_fillsWays 6 none [vR g 296, vI x1] (z, I, J, G) none True (z, res, J, G) := by
  refine spec_of (μ := mu_M_fillsWays) (k := 4) (L0 := [some (vR g 296), some (vI x1), none, none, none, none]) rfl mw_M_fillsWays rfl rfl (Nat.le_refl _) (fun φ hb hE => ?_)
  refine z_iconst dX11_fillsWays_0 ?_
  refine z_istore_n (L' := [some (vR g 296), some (vI x1), some (vI 0), none, none, none]) dX11_fillsWays_1 rfl rfl rfl ?_
  obtain ⟨e3, h4, h⟩ := bindE h
  refine l_M_fillsWays_L2 hb hz hG hx1 _ _ _ h4 (inRd (x := 0) (by decide)) ?_
  refine fun h5 => ?_
  refine z_iconst dX11_fillsWays_23 ?_
  refine z_istore_n (L' := [some (vR g 296), some (vI x1), some (vI 1), none, none, none]) dX11_fillsWays_24 rfl rfl rfl ?_
  obtain ⟨e35, h36, h⟩ := bindE h
  refine l_M_fillsWays_L25 hb hz hG hx1 _ _ _ h36 (inRd (x := 1) (by decide)) ?_
  refine fun h37 => ?_
  obtain rfl := someE h
  exact z_vret dX11_fillsWays_186 hE trivial rfl
set_option maxHeartbeats 1000000 in
theorem t_M_fillsLine_L28 {l : Launch} {g : GX} {φ : CX} {z : Nat} {G : Nat → Nat → Nat} {F : Nat} (hb : cb φ = z) (hz : 353 ≤ z) (hG : lyM G) {x1 : Int} {x2 : Int} {x3 : Int} {I J : Nat → Nat → Int} (hx1 : inR x1) (hx2 : inR x2) (hx3 : inR x3) {res : (Int) ⊕ (Int)} (h : f_M_fillsLine_L28 F x1 x2 x3 I J = some res) (kE : ∀ e : Int, res = .inl e → ((inR e) → Zt l g φ mu_M_fillsLine 79 [some (vR g 296), some (vI x1), none, some (vI e)] [] (z, I, J, G))) (kS : ∀ s : Int, res = .inr s → (inR s) → Zt l g φ mu_M_fillsLine 28 [some (vR g 296), some (vI x1), some (vI x2), some (vI s)] [] (z, I, J, G)) : Zt l g φ mu_M_fillsLine 28 [some (vR g 296), some (vI x1), some (vI x2), some (vI x3)] [] (z, I, J, G) := by
  refine z_aload_n dX11_fillsLine_28 rfl ?_
  refine y_getR dX11_fillsLine_29 cl11 sh_296 (by decide) (Nat.le_trans (by decide) hz) 59 rfl rfl (fl_M_140) (ly_296_59 hG) (by decide) ?_
  refine z_iload_n dX11_fillsLine_32 rfl ?_
  obtain ⟨hg5, h⟩ := guardE h
  refine z_nm (fun hN6 => ?_)
  refine y_iald dX11_fillsLine_33 sh_337 (by decide) (Nat.le_trans (by decide) hz) hx3 hg5 ?_
  refine z_ldcw (n := 2000000000) dX11_fillsLine_34 (tin7 159 (by decide +kernel) rfl) ?_
  refine z_icmp_ge (tgt := 73) dX11_fillsLine_37 (by decide) (hN6.1 337 (x3).toNat) (inRd (x := 2000000000) (by decide)) (fun hc7 => ?_) (fun hc7 => ?_)
  · replace h := ifT hc7 h
    refine z_iinc (L' := [some (vR g 296), some (vI x1), some (vI x2), some (vI (w32 (x3 + 1)))]) dX11_fillsLine_73 rfl rfl rfl rfl ?_
    refine z_goto (tgt := 28) dX11_fillsLine_76 (by decide) ?_
    exact kS _ (someE h).symm (inR_w32 _)
  replace h := ifF hc7 h
  refine z_aload_n dX11_fillsLine_40 rfl ?_
  refine z_iload_n dX11_fillsLine_41 rfl ?_
  refine z_iload_n dX11_fillsLine_42 rfl ?_
  obtain ⟨q8, hq9, h⟩ := bindE h
  refine z_callV (As := [vI x2, vI x3]) (rest := []) (s_M_leaps hz hG hx2 hx3 hq9) dX11_fillsLine_43 mw_M_leaps cl11 sh_296 (by decide) (Nat.le_trans (by decide) hz) ml_M_404 im_M_leaps se_M_leaps rfl rfl rfl rfl (Nat.le_refl _) (Nat.le_of_eq hb.symm) (fun hp10 => ?_)
  show Zt _ _ _ _ 46 _ [vI q8] (z, I, J, G)
  refine z_if_eq (tgt := 73) dX11_fillsLine_46 (by decide) (inR_bool hp10) (fun hc11 => ?_) (fun hc11 => ?_)
  · replace h := ifT hc11 h
    refine z_iinc (L' := [some (vR g 296), some (vI x1), some (vI x2), some (vI (w32 (x3 + 1)))]) dX11_fillsLine_73 rfl rfl rfl rfl ?_
    refine z_goto (tgt := 28) dX11_fillsLine_76 (by decide) ?_
    exact kS _ (someE h).symm (inR_w32 _)
  replace h := ifF hc11 h
  refine z_aload_n dX11_fillsLine_49 rfl ?_
  refine y_getR dX11_fillsLine_50 cl11 sh_296 (by decide) (Nat.le_trans (by decide) hz) 59 rfl rfl (fl_M_140) (ly_296_59 hG) (by decide) ?_
  refine z_iload_n dX11_fillsLine_53 rfl ?_
  refine y_iald dX11_fillsLine_54 sh_337 (by decide) (Nat.le_trans (by decide) hz) hx3 hg5 ?_
  refine z_iload_n dX11_fillsLine_55 rfl ?_
  refine z_iadd dX11_fillsLine_56 ?_
  refine z_aload_n dX11_fillsLine_57 rfl ?_
  refine y_getR dX11_fillsLine_58 cl11 sh_296 (by decide) (Nat.le_trans (by decide) hz) 58 rfl rfl (fl_M_137) (ly_296_58 hG) (by decide) ?_
  refine z_iload_n dX11_fillsLine_61 rfl ?_
  obtain ⟨hg12, h⟩ := guardE h
  refine y_iald dX11_fillsLine_62 sh_336 (by decide) (Nat.le_trans (by decide) hz) hx3 hg12 ?_
  refine z_iadd dX11_fillsLine_63 ?_
  refine z_aload_n dX11_fillsLine_64 rfl ?_
  refine y_getR dX11_fillsLine_65 cl11 sh_296 (by decide) (Nat.le_trans (by decide) hz) 59 rfl rfl (fl_M_140) (ly_296_59 hG) (by decide) ?_
  refine z_iload_n dX11_fillsLine_68 rfl ?_
  obtain ⟨hg13, h⟩ := guardE h
  refine y_iald dX11_fillsLine_69 sh_337 (by decide) (Nat.le_trans (by decide) hz) hx2 hg13 ?_
  refine z_icmp_eq (tgt := 79) dX11_fillsLine_70 (by decide) (inR_w32 _) (hN6.1 337 (x2).toNat) (fun hc14 => ?_) (fun hc14 => ?_)
  · replace h := ifT hc14 h
    refine z_weak (L' := [some (vR g 296), some (vI x1), none, some (vI x3)]) (lsS (lsS (lsN (lsS ls0)))) ?_
    exact kE _ (someE h).symm hx3
  replace h := ifF hc14 h
  refine z_iinc (L' := [some (vR g 296), some (vI x1), some (vI x2), some (vI (w32 (x3 + 1)))]) dX11_fillsLine_73 rfl rfl rfl rfl ?_
  refine z_goto (tgt := 28) dX11_fillsLine_76 (by decide) ?_
  exact kS _ (someE h).symm (inR_w32 _)
theorem l_M_fillsLine_L28 {l : Launch} {g : GX} {φ : CX} {z : Nat} {G : Nat → Nat → Nat} {F : Nat} (hb : cb φ = z) (hz : 353 ≤ z) (hG : lyM G) {x1 : Int} {x2 : Int} {I : Nat → Nat → Int} {J : Nat → Nat → Int} (hx1 : inR x1) (hx2 : inR x2) (n : Nat) (s : Int) (e : Int) (h : iter (fun s : Int => f_M_fillsLine_L28 F x1 x2 s I J) n s = some e) (hs : inR s) (k : ((inR e) → Zt l g φ mu_M_fillsLine 79 [some (vR g 296), some (vI x1), none, some (vI e)] [] (z, I, J, G))) : Zt l g φ mu_M_fillsLine 28 [some (vR g 296), some (vI x1), some (vI x2), some (vI s)] [] (z, I, J, G) := by
  refine iter_ind (Z := fun s : Int => Zt l g φ mu_M_fillsLine 28 [some (vR g 296), some (vI x1), some (vI x2), some (vI s)] [] (z, I, J, G)) (ZE := fun e : Int => ((inR e) → Zt l g φ mu_M_fillsLine 79 [some (vR g 296), some (vI x1), none, some (vI e)] [] (z, I, J, G))) (Rg := fun s : Int => inR s) ?_ n s e h hs k
  intro s r hr hst kE kS
  exact t_M_fillsLine_L28 hb hz hG hx1 hx2 hr hst kE kS
set_option maxHeartbeats 1000000 in
theorem t_M_fillsLine_b26in8 {l : Launch} {g : GX} {φ : CX} {z : Nat} {G : Nat → Nat → Nat} {F : Nat} (hb : cb φ = z) (hz : 353 ≤ z) (hG : lyM G) {x1 : Int} {x2 : Int} {I J : Nat → Nat → Int} (hx1 : inR x1) (hx2 : inR x2) {res : (MI) ⊕ (Int × MI)} (h : f_M_fillsLine_b26in8 F x1 x2 I J = some res) (kE : ∀ e : MI, res = .inl e → ((True) → Zt l g φ mu_M_fillsLine 104 [none, none, none, none] [] (z, e, J, G))) (kS : ∀ s : Int × MI, res = .inr s → (inR s.1) → Zt l g φ mu_M_fillsLine 8 [some (vR g 296), some (vI x1), some (vI s.1), none] [] (z, s.2, J, G)) : Zt l g φ mu_M_fillsLine 26 [some (vR g 296), some (vI x1), some (vI x2), none] [] (z, I, J, G) := by
  refine z_iconst dX11_fillsLine_26 ?_
  refine z_istore_n (L' := [some (vR g 296), some (vI x1), some (vI x2), some (vI 0)]) dX11_fillsLine_27 rfl rfl rfl ?_
  obtain ⟨e15, h16, h⟩ := bindE h
  refine l_M_fillsLine_L28 hb hz hG hx1 hx2 _ _ _ h16 (inRd (x := 0) (by decide)) ?_
  refine fun h17 => ?_
  refine z_aload_n dX11_fillsLine_79 rfl ?_
  refine y_getR dX11_fillsLine_80 cl11 sh_296 (by decide) (Nat.le_trans (by decide) hz) 61 rfl rfl (fl_M_143) (ly_296_61 hG) (by decide) ?_
  refine z_aload_n dX11_fillsLine_83 rfl ?_
  refine z_nm (fun hN18 => ?_)
  refine y_getI dX11_fillsLine_84 cl11 sh_296 (by decide) (Nat.le_trans (by decide) hz) 60 rfl rfl (fl_M_407) ?_
  refine z_iload_n dX11_fillsLine_87 rfl ?_
  obtain ⟨hg19, h⟩ := guardE h
  refine y_iast dX11_fillsLine_88 sh_338 (by decide) (Nat.le_trans (by decide) hz) (hN18.1 296 60) hg19 h17 ?_
  refine z_aload_n dX11_fillsLine_89 rfl ?_
  refine z_dup dX11_fillsLine_90 rfl ?_
  refine z_nm (fun hN20 => ?_)
  refine y_getI dX11_fillsLine_91 cl11 sh_296 (by decide) (Nat.le_trans (by decide) hz) 60 rfl rfl (fl_M_407) ?_
  refine z_iconst dX11_fillsLine_94 ?_
  refine z_iadd dX11_fillsLine_95 ?_
  refine y_putI dX11_fillsLine_96 cl11 sh_296 (by decide) (Nat.le_trans (by decide) hz) 60 rfl rfl rfl (fl_M_407) rfl rfl (inR_w32 _) ?_
  refine z_iload_n dX11_fillsLine_99 rfl ?_
  refine z_istore_n (L' := [some (vR g 296), some (vI x1), some (vI e15), some (vI e15)]) dX11_fillsLine_100 rfl rfl rfl ?_
  refine z_goto (tgt := 8) dX11_fillsLine_101 (by decide) ?_
  refine z_weak (L' := [some (vR g 296), some (vI x1), some (vI e15), none]) (lsS (lsS (lsS (lsN ls0)))) ?_
  exact kS _ (someE h).symm h17
set_option maxHeartbeats 1000000 in
theorem t_M_fillsLine_L8 {l : Launch} {g : GX} {φ : CX} {z : Nat} {G : Nat → Nat → Nat} {F : Nat} (hb : cb φ = z) (hz : 353 ≤ z) (hG : lyM G) {x1 : Int} {x2 : Int} {I J : Nat → Nat → Int} (hx1 : inR x1) (hx2 : inR x2) {res : (MI) ⊕ (Int × MI)} (h : f_M_fillsLine_L8 F x1 x2 I J = some res) (kE : ∀ e : MI, res = .inl e → ((True) → Zt l g φ mu_M_fillsLine 104 [none, none, none, none] [] (z, e, J, G))) (kS : ∀ s : Int × MI, res = .inr s → (inR s.1) → Zt l g φ mu_M_fillsLine 8 [some (vR g 296), some (vI x1), some (vI s.1), none] [] (z, s.2, J, G)) : Zt l g φ mu_M_fillsLine 8 [some (vR g 296), some (vI x1), some (vI x2), none] [] (z, I, J, G) := by
  refine z_aload_n dX11_fillsLine_8 rfl ?_
  refine z_iload_n dX11_fillsLine_9 rfl ?_
  obtain ⟨q1, hq2, h⟩ := bindE h
  refine z_callV (As := [vI x2]) (rest := []) (s_M_ends hz hG hx2 hq2) dX11_fillsLine_10 mw_M_ends cl11 sh_296 (by decide) (Nat.le_trans (by decide) hz) ml_M_401 im_M_ends se_M_ends rfl rfl rfl rfl (Nat.le_refl _) (Nat.le_of_eq hb.symm) (fun hp3 => ?_)
  show Zt _ _ _ _ 13 _ [vI q1] (z, I, J, G)
  refine z_if_eq (tgt := 26) dX11_fillsLine_13 (by decide) (inR_bool hp3) (fun hc4 => ?_) (fun hc4 => ?_)
  · replace h := ifT hc4 h
    exact t_M_fillsLine_b26in8 hb hz hG hx1 hx2 h kE kS
  replace h := ifF hc4 h
  refine z_aload_n dX11_fillsLine_16 rfl ?_
  refine y_getR dX11_fillsLine_17 cl11 sh_296 (by decide) (Nat.le_trans (by decide) hz) 59 rfl rfl (fl_M_140) (ly_296_59 hG) (by decide) ?_
  refine z_iload_n dX11_fillsLine_20 rfl ?_
  obtain ⟨hg21, h⟩ := guardE h
  refine z_nm (fun hN22 => ?_)
  refine y_iald dX11_fillsLine_21 sh_337 (by decide) (Nat.le_trans (by decide) hz) hx2 hg21 ?_
  refine z_iload_n dX11_fillsLine_22 rfl ?_
  refine z_icmp_eq (tgt := 104) dX11_fillsLine_23 (by decide) (hN22.1 337 (x2).toNat) hx1 (fun hc23 => ?_) (fun hc23 => ?_)
  · replace h := ifT hc23 h
    refine z_weak (L' := [none, none, none, none]) (lsN (lsN (lsN (lsN ls0)))) ?_
    exact kE _ (someE h).symm trivial
  replace h := ifF hc23 h
  exact t_M_fillsLine_b26in8 hb hz hG hx1 hx2 h kE kS
theorem l_M_fillsLine_L8 {l : Launch} {g : GX} {φ : CX} {z : Nat} {G : Nat → Nat → Nat} {F : Nat} (hb : cb φ = z) (hz : 353 ≤ z) (hG : lyM G) {x1 : Int} {J : Nat → Nat → Int} (hx1 : inR x1) (n : Nat) (s : Int × MI) (e : MI) (h : iter (fun s : Int × MI => f_M_fillsLine_L8 F x1 s.1 s.2 J) n s = some e) (hs : inR s.1) (k : ((True) → Zt l g φ mu_M_fillsLine 104 [none, none, none, none] [] (z, e, J, G))) : Zt l g φ mu_M_fillsLine 8 [some (vR g 296), some (vI x1), some (vI s.1), none] [] (z, s.2, J, G) := by
  refine iter_ind (Z := fun s : Int × MI => Zt l g φ mu_M_fillsLine 8 [some (vR g 296), some (vI x1), some (vI s.1), none] [] (z, s.2, J, G)) (ZE := fun e : MI => ((True) → Zt l g φ mu_M_fillsLine 104 [none, none, none, none] [] (z, e, J, G))) (Rg := fun s : Int × MI => inR s.1) ?_ n s e h hs k
  intro s r hr hst kE kS
  exact t_M_fillsLine_L8 hb hz hG hx1 hr hst kE kS
set_option maxHeartbeats 1000000 in
theorem s_M_fillsLine {l : Launch} {g : GX} {z : Nat} {G : Nat → Nat → Nat} {F : Nat} (hz : 353 ≤ z) (hG : lyM G) {x1 : Int} {I J : Nat → Nat → Int} (hx1 : inR x1) {res : MI} (h : f_M_fillsLine F x1 I J = some res) : Spec l g 1 yX11_fillsLine cX11_fillsLine 4 none [vR g 296, vI x1] (z, I, J, G) none True (z, res, J, G) := by
  refine spec_of (μ := mu_M_fillsLine) (k := 2) (L0 := [some (vR g 296), some (vI x1), none, none]) rfl mw_M_fillsLine rfl rfl (Nat.le_refl _) (fun φ hb hE => ?_)
  refine z_aload_n dX11_fillsLine_0 rfl ?_
  refine z_iconst dX11_fillsLine_1 ?_
  refine y_putI dX11_fillsLine_2 cl11 sh_296 (by decide) (Nat.le_trans (by decide) hz) 60 rfl rfl rfl (fl_M_407) rfl rfl (inRd (x := 0) (by decide)) ?_
  refine z_bipush dX11_fillsLine_5 (by decide +kernel) ?_
  refine z_istore_n (L' := [some (vR g 296), some (vI x1), some (vI 96), none]) dX11_fillsLine_7 rfl rfl rfl ?_
  obtain ⟨e24, h25, h⟩ := bindE h
  refine l_M_fillsLine_L8 hb hz hG hx1 _ _ _ h25 (inRd (x := 96) (by decide)) ?_
  refine fun h26 => ?_
  obtain rfl := someE h
  exact z_vret dX11_fillsLine_104 hE trivial rfl
set_option maxHeartbeats 1000000 in
theorem t_M_findsOver_b85in6 {l : Launch} {g : GX} {φ : CX} {z : Nat} {G : Nat → Nat → Nat} {F : Nat} (hb : cb φ = z) (hz : 353 ≤ z) (hG : lyM G) {x1 : Int} {x2 : Int} {s1 : Int} {s2 : Int} {I J : Nat → Nat → Int} (hx1 : inR x1) (hx2 : inR x2) (hs1 : inR s1) (hs2 : inR s2) {res : (MI) ⊕ (Int × MI)} (h : f_M_findsOver_b85in6 F x1 x2 s1 s2 I J = some res) (kE : ∀ e : MI, res = .inl e → ((True) → Zt l g φ mu_M_findsOver 92 [some (vR g 296), some (vI x1), none] [] (z, e, J, G))) (kS : ∀ s : Int × MI, res = .inr s → (inR s.1) → Zt l g φ mu_M_findsOver 6 [some (vR g 296), some (vI x1), some (vI s.1)] [] (z, s.2, J, G)) : Zt l g φ mu_M_findsOver 85 [some (vR g 296), some (vI x1), some (vI x2)] [vI s2, vI s1, vR g 336] (z, I, J, G) := by
  obtain ⟨hg13, h⟩ := guardE h
  refine y_iast dX11_findsOver_85 sh_336 (by decide) (Nat.le_trans (by decide) hz) hs1 hg13 hs2 ?_
  refine z_iinc (L' := [some (vR g 296), some (vI x1), some (vI (w32 (x2 + 1)))]) dX11_findsOver_86 rfl rfl rfl rfl ?_
  refine z_goto (tgt := 6) dX11_findsOver_89 (by decide) ?_
  exact kS _ (someE h).symm (inR_w32 _)
set_option maxHeartbeats 1000000 in
theorem t_M_findsOver_b80in6 {l : Launch} {g : GX} {φ : CX} {z : Nat} {G : Nat → Nat → Nat} {F : Nat} (hb : cb φ = z) (hz : 353 ≤ z) (hG : lyM G) {x1 : Int} {x2 : Int} {s1 : Int} {s2 : Int} {s3 : Int} {I J : Nat → Nat → Int} (hx1 : inR x1) (hx2 : inR x2) (hs1 : inR s1) (hs2 : inR s2) (hs3 : inR s3) {res : (MI) ⊕ (Int × MI)} (h : f_M_findsOver_b80in6 F x1 x2 s1 s2 s3 I J = some res) (kE : ∀ e : MI, res = .inl e → ((True) → Zt l g φ mu_M_findsOver 92 [some (vR g 296), some (vI x1), none] [] (z, e, J, G))) (kS : ∀ s : Int × MI, res = .inr s → (inR s.1) → Zt l g φ mu_M_findsOver 6 [some (vR g 296), some (vI x1), some (vI s.1)] [] (z, s.2, J, G)) : Zt l g φ mu_M_findsOver 80 [some (vR g 296), some (vI x1), some (vI x2)] [vI s3, vI s2, vI s1, vR g 336] (z, I, J, G) := by
  refine z_imul dX11_findsOver_80 ?_
  refine z_goto (tgt := 85) dX11_findsOver_81 (by decide) ?_
  exact t_M_findsOver_b85in6 hb hz hG hx1 hx2 hs1 (inR_w32 _) h kE kS
set_option maxHeartbeats 1000000 in
theorem t_M_findsOver_b45in6 {l : Launch} {g : GX} {φ : CX} {z : Nat} {G : Nat → Nat → Nat} {F : Nat} (hb : cb φ = z) (hz : 353 ≤ z) (hG : lyM G) {x1 : Int} {x2 : Int} {s1 : Int} {s2 : Int} {I J : Nat → Nat → Int} (hx1 : inR x1) (hx2 : inR x2) (hs1 : inR s1) (hs2 : inR s2) (hb2 : s2 = 0 ∨ s2 = 1) {res : (MI) ⊕ (Int × MI)} (h : f_M_findsOver_b45in6 F x1 x2 s1 s2 I J = some res) (kE : ∀ e : MI, res = .inl e → ((True) → Zt l g φ mu_M_findsOver 92 [some (vR g 296), some (vI x1), none] [] (z, e, J, G))) (kS : ∀ s : Int × MI, res = .inr s → (inR s.1) → Zt l g φ mu_M_findsOver 6 [some (vR g 296), some (vI x1), some (vI s.1)] [] (z, s.2, J, G)) : Zt l g φ mu_M_findsOver 45 [some (vR g 296), some (vI x1), some (vI x2)] [vI s2, vI s1, vR g 335] (z, I, J, G) := by
  obtain ⟨hg9, h⟩ := guardE h
  refine y_zast dX11_findsOver_45 sh_335 (by decide) (Nat.le_trans (by decide) hz) hs1 hg9 hb2 ?_
  refine z_aload_n dX11_findsOver_46 rfl ?_
  refine y_getR dX11_findsOver_47 cl11 sh_296 (by decide) (Nat.le_trans (by decide) hz) 58 rfl rfl (fl_M_137) (ly_296_58 hG) (by decide) ?_
  refine z_iload_n dX11_findsOver_50 rfl ?_
  refine z_aload_n dX11_findsOver_51 rfl ?_
  refine y_getR dX11_findsOver_52 cl11 sh_296 (by decide) (Nat.le_trans (by decide) hz) 57 rfl rfl (fl_M_134) (ly_296_57 hG) (by decide) ?_
  refine z_iload_n dX11_findsOver_55 rfl ?_
  obtain ⟨hg10, h⟩ := guardE h
  refine z_nm (fun hN11 => ?_)
  refine y_zald dX11_findsOver_56 sh_335 (by decide) (Nat.le_trans (by decide) hz) hx2 hg10 ?_
  refine z_if_eq (tgt := 84) dX11_findsOver_57 (by decide) (hN11.1 335 (x2).toNat) (fun hc12 => ?_) (fun hc12 => ?_)
  · replace h := ifT hc12 h
    refine z_iconst dX11_findsOver_84 ?_
    exact t_M_findsOver_b85in6 hb hz hG hx1 hx2 hx2 (inRd (x := 0) (by decide)) h kE kS
  replace h := ifF hc12 h
  refine z_aload_n dX11_findsOver_60 rfl ?_
  refine z_iconst dX11_findsOver_61 ?_
  refine z_iload_n dX11_findsOver_62 rfl ?_
  refine z_iconst dX11_findsOver_63 ?_
  refine z_bipush dX11_findsOver_64 (by decide +kernel) ?_
  obtain ⟨q14, hq15, h⟩ := bindE h
  refine z_callV (As := [vI 1, vI x2, vI 0, vI 100]) (rest := [vI x2, vR g 336]) (s_M_tellsBy hz hG (inRd (x := 1) (by decide)) hx2 (inRd (x := 0) (by decide)) (inRd (x := 100) (by decide)) hq15) dX11_findsOver_66 mw_M_tellsBy cl11 sh_296 (by decide) (Nat.le_trans (by decide) hz) ml_M_361 im_M_tellsBy se_M_tellsBy rfl rfl rfl rfl (Nat.le_refl _) (Nat.le_of_eq hb.symm) (fun hp16 => ?_)
  show Zt _ _ _ _ 69 _ [vI q14.1, vI x2, vR g 336] (z, q14.2, J, G)
  refine z_iload_n dX11_findsOver_69 rfl ?_
  refine z_if_ne (tgt := 77) dX11_findsOver_70 (by decide) hx1 (fun hc17 => ?_) (fun hc17 => ?_)
  · replace h := ifT hc17 h
    refine z_ldcw (n := 100000) dX11_findsOver_77 (tin7 154 (by decide +kernel) rfl) ?_
    exact t_M_findsOver_b80in6 hb hz hG hx1 hx2 hx2 hp16 (inRd (x := 100000) (by decide)) h kE kS
  replace h := ifF (fun q => q hc17) h
  refine z_iconst dX11_findsOver_73 ?_
  refine z_goto (tgt := 80) dX11_findsOver_74 (by decide) ?_
  exact t_M_findsOver_b80in6 hb hz hG hx1 hx2 hx2 hp16 (inRd (x := 1) (by decide)) h kE kS
set_option maxHeartbeats 1000000 in
theorem t_M_findsOver_b44in6 {l : Launch} {g : GX} {φ : CX} {z : Nat} {G : Nat → Nat → Nat} {F : Nat} (hb : cb φ = z) (hz : 353 ≤ z) (hG : lyM G) {x1 : Int} {x2 : Int} {s1 : Int} {I J : Nat → Nat → Int} (hx1 : inR x1) (hx2 : inR x2) (hs1 : inR s1) {res : (MI) ⊕ (Int × MI)} (h : f_M_findsOver_b44in6 F x1 x2 s1 I J = some res) (kE : ∀ e : MI, res = .inl e → ((True) → Zt l g φ mu_M_findsOver 92 [some (vR g 296), some (vI x1), none] [] (z, e, J, G))) (kS : ∀ s : Int × MI, res = .inr s → (inR s.1) → Zt l g φ mu_M_findsOver 6 [some (vR g 296), some (vI x1), some (vI s.1)] [] (z, s.2, J, G)) : Zt l g φ mu_M_findsOver 44 [some (vR g 296), some (vI x1), some (vI x2)] [vI s1, vR g 335] (z, I, J, G) := by
  refine z_iconst dX11_findsOver_44 ?_
  exact t_M_findsOver_b45in6 hb hz hG hx1 hx2 hs1 (inRd (x := 0) (by decide)) b01_0 h kE kS
set_option maxHeartbeats 1000000 in
theorem t_M_findsOver_L6 {l : Launch} {g : GX} {φ : CX} {z : Nat} {G : Nat → Nat → Nat} {F : Nat} (hb : cb φ = z) (hz : 353 ≤ z) (hG : lyM G) {x1 : Int} {x2 : Int} {I J : Nat → Nat → Int} (hx1 : inR x1) (hx2 : inR x2) {res : (MI) ⊕ (Int × MI)} (h : f_M_findsOver_L6 F x1 x2 I J = some res) (kE : ∀ e : MI, res = .inl e → ((True) → Zt l g φ mu_M_findsOver 92 [some (vR g 296), some (vI x1), none] [] (z, e, J, G))) (kS : ∀ s : Int × MI, res = .inr s → (inR s.1) → Zt l g φ mu_M_findsOver 6 [some (vR g 296), some (vI x1), some (vI s.1)] [] (z, s.2, J, G)) : Zt l g φ mu_M_findsOver 6 [some (vR g 296), some (vI x1), some (vI x2)] [] (z, I, J, G) := by
  refine z_iload_n dX11_findsOver_6 rfl ?_
  refine z_bipush dX11_findsOver_7 (by decide +kernel) ?_
  refine z_icmp_ge (tgt := 92) dX11_findsOver_9 (by decide) hx2 (inRd (x := 96) (by decide)) (fun hc4 => ?_) (fun hc4 => ?_)
  · replace h := ifT hc4 h
    refine z_weak (L' := [some (vR g 296), some (vI x1), none]) (lsS (lsS (lsN ls0))) ?_
    exact kE _ (someE h).symm trivial
  replace h := ifF hc4 h
  refine z_aload_n dX11_findsOver_12 rfl ?_
  refine y_getR dX11_findsOver_13 cl11 sh_296 (by decide) (Nat.le_trans (by decide) hz) 57 rfl rfl (fl_M_134) (ly_296_57 hG) (by decide) ?_
  refine z_iload_n dX11_findsOver_16 rfl ?_
  refine z_aload_n dX11_findsOver_17 rfl ?_
  refine z_iload_n dX11_findsOver_18 rfl ?_
  refine z_bipush dX11_findsOver_19 (by decide +kernel) ?_
  refine z_irem dX11_findsOver_21 (inRd (x := 12) (by decide)) (by decide) ?_
  refine z_iload_n dX11_findsOver_22 rfl ?_
  refine z_bipush dX11_findsOver_23 (by decide +kernel) ?_
  refine z_idiv dX11_findsOver_25 (inRd (x := 12) (by decide)) (by decide) ?_
  obtain ⟨q5, hq6, h⟩ := bindE h
  refine z_callV (As := [vI (rem32 x2 12), vI (div32 x2 12)]) (rest := [vI x2, vR g 335]) (s_M_isCell hz hG inR_rem inR_div hq6) dX11_findsOver_26 mw_M_isCell cl11 sh_296 (by decide) (Nat.le_trans (by decide) hz) ml_M_369 im_M_isCell se_M_isCell rfl rfl rfl rfl (Nat.le_refl _) (Nat.le_of_eq hb.symm) (fun hp7 => ?_)
  show Zt _ _ _ _ 29 _ [vI q5, vI x2, vR g 335] (z, I, J, G)
  refine z_if_eq (tgt := 44) dX11_findsOver_29 (by decide) (inR_bool hp7) (fun hc8 => ?_) (fun hc8 => ?_)
  · replace h := ifT hc8 h
    exact t_M_findsOver_b44in6 hb hz hG hx1 hx2 hx2 h kE kS
  replace h := ifF hc8 h
  refine z_aload_n dX11_findsOver_32 rfl ?_
  refine z_iload_n dX11_findsOver_33 rfl ?_
  obtain ⟨q18, hq19, h⟩ := bindE h
  refine z_callV (As := [vI x2]) (rest := [vI x2, vR g 335]) (s_M_isStep hz hG hx2 hq19) dX11_findsOver_34 mw_M_isStep cl11 sh_296 (by decide) (Nat.le_trans (by decide) hz) ml_M_376 im_M_isStep se_M_isStep rfl rfl rfl rfl (Nat.le_refl _) (Nat.le_of_eq hb.symm) (fun hp20 => ?_)
  show Zt _ _ _ _ 37 _ [vI q18, vI x2, vR g 335] (z, I, J, G)
  refine z_if_eq (tgt := 44) dX11_findsOver_37 (by decide) (inR_bool hp20) (fun hc21 => ?_) (fun hc21 => ?_)
  · replace h := ifT hc21 h
    exact t_M_findsOver_b44in6 hb hz hG hx1 hx2 hx2 h kE kS
  replace h := ifF hc21 h
  refine z_iconst dX11_findsOver_40 ?_
  refine z_goto (tgt := 45) dX11_findsOver_41 (by decide) ?_
  exact t_M_findsOver_b45in6 hb hz hG hx1 hx2 hx2 (inRd (x := 1) (by decide)) b01_1 h kE kS
theorem l_M_findsOver_L6 {l : Launch} {g : GX} {φ : CX} {z : Nat} {G : Nat → Nat → Nat} {F : Nat} (hb : cb φ = z) (hz : 353 ≤ z) (hG : lyM G) {x1 : Int} {J : Nat → Nat → Int} (hx1 : inR x1) (n : Nat) (s : Int × MI) (e : MI) (h : iter (fun s : Int × MI => f_M_findsOver_L6 F x1 s.1 s.2 J) n s = some e) (hs : inR s.1) (k : ((True) → Zt l g φ mu_M_findsOver 92 [some (vR g 296), some (vI x1), none] [] (z, e, J, G))) : Zt l g φ mu_M_findsOver 6 [some (vR g 296), some (vI x1), some (vI s.1)] [] (z, s.2, J, G) := by
  refine iter_ind (Z := fun s : Int × MI => Zt l g φ mu_M_findsOver 6 [some (vR g 296), some (vI x1), some (vI s.1)] [] (z, s.2, J, G)) (ZE := fun e : MI => ((True) → Zt l g φ mu_M_findsOver 92 [some (vR g 296), some (vI x1), none] [] (z, e, J, G))) (Rg := fun s : Int × MI => inR s.1) ?_ n s e h hs k
  intro s r hr hst kE kS
  exact t_M_findsOver_L6 hb hz hG hx1 hr hst kE kS
set_option maxHeartbeats 1000000 in
theorem t_M_findsOver_b134 {l : Launch} {g : GX} {φ : CX} {z : Nat} {G : Nat → Nat → Nat} {F : Nat} (hb : cb φ = z) (hz : 353 ≤ z) (hG : lyM G) {s1 : Int} {I J : Nat → Nat → Int} (hs1 : inR s1) {res : Int × MI} (h : f_M_findsOver_b134 F s1 I J = some res) (hE : ends g φ (some .boolean) (some (vI res.1)) (res.1 = 0 ∨ res.1 = 1) (z, res.2, J, G)) : Zt l g φ mu_M_findsOver 134 [none, none, none] [vI s1, vR g 296] (z, I, J, G) := by
  obtain ⟨q32, hq33, h⟩ := bindE h
  refine z_callV (As := [vI s1]) (rest := []) (s_M_fillsLine hz hG hs1 hq33) dX11_findsOver_134 mw_M_fillsLine cl11 sh_296 (by decide) (Nat.le_trans (by decide) hz) ml_M_414 im_M_fillsLine se_M_fillsLine rfl rfl rfl rfl (Nat.le_refl _) (Nat.le_of_eq hb.symm) (fun hp34 => ?_)
  show Zt _ _ _ _ 137 _ [] (z, q32, J, G)
  refine z_iconst dX11_findsOver_137 ?_
  obtain rfl := someE h
  exact z_zret dX11_findsOver_138 hE b01_1 b01_1 rfl
set_option maxHeartbeats 1000000 in
theorem t_M_findsOver_b104 {l : Launch} {g : GX} {φ : CX} {z : Nat} {G : Nat → Nat → Nat} {F : Nat} (hb : cb φ = z) (hz : 353 ≤ z) (hG : lyM G) {x1 : Int} {s1 : Int} {I J : Nat → Nat → Int} (hx1 : inR x1) (hs1 : inR s1) {res : Int × MI} (h : f_M_findsOver_b104 F x1 s1 I J = some res) (hE : ends g φ (some .boolean) (some (vI res.1)) (res.1 = 0 ∨ res.1 = 1) (z, res.2, J, G)) : Zt l g φ mu_M_findsOver 104 [some (vR g 296), some (vI x1), none] [vI s1, vR g 296] (z, I, J, G) := by
  obtain ⟨q26, hq27, h⟩ := bindE h
  refine z_callV (As := [vI s1]) (rest := []) (s_M_fillsWays hz hG hs1 hq27) dX11_findsOver_104 mw_M_fillsWays cl11 sh_296 (by decide) (Nat.le_trans (by decide) hz) ml_M_411 im_M_fillsWays se_M_fillsWays rfl rfl rfl rfl (Nat.le_refl _) (Nat.le_of_eq hb.symm) (fun hp28 => ?_)
  show Zt _ _ _ _ 107 _ [] (z, q26, J, G)
  refine z_aload_n dX11_findsOver_107 rfl ?_
  refine y_getR dX11_findsOver_108 cl11 sh_296 (by decide) (Nat.le_trans (by decide) hz) 59 rfl rfl (fl_M_140) (ly_296_59 hG) (by decide) ?_
  refine z_bipush dX11_findsOver_111 (by decide +kernel) ?_
  refine z_nm (fun hN29 => ?_)
  refine y_iald dX11_findsOver_113 sh_337 (by decide) (Nat.le_trans (by decide) hz) (inRd (x := 96) (by decide)) (by decide) ?_
  refine z_ldcw (n := 2000000000) dX11_findsOver_114 (tin7 159 (by decide +kernel) rfl) ?_
  refine z_icmp_lt (tgt := 122) dX11_findsOver_117 (by decide) (hN29.1 337 96) (inRd (x := 2000000000) (by decide)) (fun hc30 => ?_) (fun hc30 => ?_)
  · replace h := ifT hc30 h
    refine z_aload_n dX11_findsOver_122 rfl ?_
    refine z_iload_n dX11_findsOver_123 rfl ?_
    refine z_if_ne (tgt := 133) dX11_findsOver_124 (by decide) hx1 (fun hc31 => ?_) (fun hc31 => ?_)
    · replace h := ifT hc31 h
      refine z_iconst dX11_findsOver_133 ?_
      refine z_weak (L' := [none, none, none]) (lsN (lsN (lsN ls0))) ?_
      exact t_M_findsOver_b134 hb hz hG (inRd (x := 1) (by decide)) h hE
    replace h := ifF (fun q => q hc31) h
    refine z_ldcw (n := 100000) dX11_findsOver_127 (tin7 154 (by decide +kernel) rfl) ?_
    refine z_goto (tgt := 134) dX11_findsOver_130 (by decide) ?_
    refine z_weak (L' := [none, none, none]) (lsN (lsN (lsN ls0))) ?_
    exact t_M_findsOver_b134 hb hz hG (inRd (x := 100000) (by decide)) h hE
  replace h := ifF hc30 h
  refine z_iconst dX11_findsOver_120 ?_
  obtain rfl := someE h
  exact z_zret dX11_findsOver_121 hE b01_0 b01_0 rfl
set_option maxHeartbeats 1000000 in
theorem s_M_findsOver {l : Launch} {g : GX} {z : Nat} {G : Nat → Nat → Nat} {F : Nat} (hz : 353 ≤ z) (hG : lyM G) {x1 : Int} {I J : Nat → Nat → Int} (hx1 : inR x1) {res : Int × MI} (h : f_M_findsOver F x1 I J = some res) : Spec l g 2 yX11_findsOver cX11_findsOver 3 (some .boolean) [vR g 296, vI x1] (z, I, J, G) (some (vI res.1)) (res.1 = 0 ∨ res.1 = 1) (z, res.2, J, G) := by
  refine spec_of (μ := mu_M_findsOver) (k := 1) (L0 := [some (vR g 296), some (vI x1), none]) rfl mw_M_findsOver rfl rfl (Nat.le_refl _) (fun φ hb hE => ?_)
  refine z_aload_n dX11_findsOver_0 rfl ?_
  obtain ⟨q1, hq2, h⟩ := bindE h
  refine z_callV (As := []) (rest := []) (s_M_copies hz hG  hq2) dX11_findsOver_1 mw_M_copies cl11 sh_296 (by decide) (Nat.le_trans (by decide) hz) ml_M_373 im_M_copies se_M_copies rfl rfl rfl rfl (Nat.le_refl _) (Nat.le_of_eq hb.symm) (fun hp3 => ?_)
  show Zt _ _ _ _ 4 _ [] (z, q1, J, G)
  refine z_iconst dX11_findsOver_4 ?_
  refine z_istore_n (L' := [some (vR g 296), some (vI x1), some (vI 0)]) dX11_findsOver_5 rfl rfl rfl ?_
  obtain ⟨e22, h23, h⟩ := bindE h
  refine l_M_findsOver_L6 hb hz hG hx1 _ _ _ h23 (inRd (x := 0) (by decide)) ?_
  refine fun h24 => ?_
  refine z_aload_n dX11_findsOver_92 rfl ?_
  refine z_iload_n dX11_findsOver_93 rfl ?_
  refine z_if_ne (tgt := 103) dX11_findsOver_94 (by decide) hx1 (fun hc25 => ?_) (fun hc25 => ?_)
  · replace h := ifT hc25 h
    refine z_iconst dX11_findsOver_103 ?_
    exact t_M_findsOver_b104 hb hz hG hx1 (inRd (x := 1) (by decide)) h hE
  replace h := ifF (fun q => q hc25) h
  refine z_ldcw (n := 100000) dX11_findsOver_97 (tin7 154 (by decide +kernel) rfl) ?_
  refine z_goto (tgt := 104) dX11_findsOver_100 (by decide) ?_
  exact t_M_findsOver_b104 hb hz hG hx1 (inRd (x := 100000) (by decide)) h hE
set_option maxHeartbeats 1000000 in
theorem s_M_over {l : Launch} {g : GX} {z : Nat} {G : Nat → Nat → Nat} {F : Nat} (hz : 353 ≤ z) (hG : lyM G) {x1 : Int} {x2 : Int} {I J : Nat → Nat → Int} (hx1 : inR x1) (hx2 : inR x2) {res : Int × MI} (h : f_M_over F x1 x2 I J = some res) : Spec l g 3 yX11_over cX11_over 3 (some .int) [vR g 296, vI x1, vI x2] (z, I, J, G) (some (vI res.1)) (inR res.1) (z, res.2, J, G) := by
  refine spec_of (μ := mu_M_over) (k := 0) (L0 := [some (vR g 296), some (vI x1), some (vI x2)]) rfl mw_M_over rfl rfl (Nat.le_refl _) (fun φ hb hE => ?_)
  refine z_iload_n dX11_over_0 rfl ?_
  refine z_iconst dX11_over_1 ?_
  refine z_iconst dX11_over_2 ?_
  obtain ⟨q1, hq2, h⟩ := bindE h
  refine z_callS (As := [vI x1, vI 0, vI 1]) (rest := []) (s_M_in hz hG hx1 (inRd (x := 0) (by decide)) (inRd (x := 1) (by decide)) hq2) dX11_over_3 mw_M_in ml_M_345 st_M_in rfl rfl rfl rfl (Nat.le_refl _) (Nat.le_of_eq hb.symm) (fun hp3 => ?_)
  show Zt _ _ _ _ 6 _ [vI q1] (z, I, J, G)
  refine z_if_eq (tgt := 18) dX11_over_6 (by decide) (inR_bool hp3) (fun hc4 => ?_) (fun hc4 => ?_)
  · replace h := ifT hc4 h
    refine z_iconst dX11_over_18 ?_
    obtain rfl := someE h
    exact z_iret dX11_over_19 hE (inRd (x := (-1)) (by decide)) rfl
  replace h := ifF hc4 h
  refine z_iload_n dX11_over_9 rfl ?_
  refine z_iconst dX11_over_10 ?_
  refine z_iconst dX11_over_11 ?_
  obtain ⟨q5, hq6, h⟩ := bindE h
  refine z_callS (As := [vI x2, vI 0, vI 1]) (rest := []) (s_M_in hz hG hx2 (inRd (x := 0) (by decide)) (inRd (x := 1) (by decide)) hq6) dX11_over_12 mw_M_in ml_M_345 st_M_in rfl rfl rfl rfl (Nat.le_refl _) (Nat.le_of_eq hb.symm) (fun hp7 => ?_)
  show Zt _ _ _ _ 15 _ [vI q5] (z, I, J, G)
  refine z_if_ne (tgt := 20) dX11_over_15 (by decide) (inR_bool hp7) (fun hc8 => ?_) (fun hc8 => ?_)
  · replace h := ifT hc8 h
    refine z_aload_n dX11_over_20 rfl ?_
    refine z_iload_n dX11_over_21 rfl ?_
    obtain ⟨q9, hq10, h⟩ := bindE h
    refine z_callV (As := [vI x1]) (rest := []) (s_M_findsOver hz hG hx1 hq10) dX11_over_22 mw_M_findsOver cl11 sh_296 (by decide) (Nat.le_trans (by decide) hz) ml_M_417 im_M_findsOver se_M_findsOver rfl rfl rfl rfl (Nat.le_refl _) (Nat.le_of_eq hb.symm) (fun hp11 => ?_)
    show Zt _ _ _ _ 25 _ [vI q9.1] (z, q9.2, J, G)
    refine z_if_ne (tgt := 31) dX11_over_25 (by decide) (inR_bool hp11) (fun hc12 => ?_) (fun hc12 => ?_)
    · replace h := ifT hc12 h
      refine z_iload_n dX11_over_31 rfl ?_
      refine z_iload_n dX11_over_32 rfl ?_
      refine z_icmp_ne (tgt := 50) dX11_over_33 (by decide) hx1 hx2 (fun hc13 => ?_) (fun hc13 => ?_)
      · replace h := ifT hc13 h
        refine z_aload_n dX11_over_50 rfl ?_
        refine y_getR dX11_over_51 cl11 sh_296 (by decide) (Nat.le_trans (by decide) hz) 59 rfl rfl (fl_M_140) (ly_296_59 hG) (by decide) ?_
        refine z_bipush dX11_over_54 (by decide +kernel) ?_
        refine z_nm (fun hN14 => ?_)
        refine y_iald dX11_over_56 sh_337 (by decide) (Nat.le_trans (by decide) hz) (inRd (x := 96) (by decide)) (by decide) ?_
        refine z_ldcw (n := 100000) dX11_over_57 (tin7 154 (by decide +kernel) rfl) ?_
        refine z_irem dX11_over_60 (inRd (x := 100000) (by decide)) (by decide) ?_
        obtain rfl := someE h
        exact z_iret dX11_over_61 hE inR_rem rfl
      replace h := ifF (fun q => q hc13) h
      refine z_aload_n dX11_over_36 rfl ?_
      refine y_getR dX11_over_37 cl11 sh_296 (by decide) (Nat.le_trans (by decide) hz) 59 rfl rfl (fl_M_140) (ly_296_59 hG) (by decide) ?_
      refine z_bipush dX11_over_40 (by decide +kernel) ?_
      refine z_nm (fun hN15 => ?_)
      refine y_iald dX11_over_42 sh_337 (by decide) (Nat.le_trans (by decide) hz) (inRd (x := 96) (by decide)) (by decide) ?_
      refine z_ldcw (n := 100000) dX11_over_43 (tin7 154 (by decide +kernel) rfl) ?_
      refine z_idiv dX11_over_46 (inRd (x := 100000) (by decide)) (by decide) ?_
      refine z_goto (tgt := 61) dX11_over_47 (by decide) ?_
      obtain rfl := someE h
      exact z_iret dX11_over_61 hE inR_div rfl
    replace h := ifF (fun q => q hc12) h
    refine z_bipush dX11_over_28 (by decide +kernel) ?_
    obtain rfl := someE h
    exact z_iret dX11_over_30 hE (inRd (x := (-2)) (by decide)) rfl
  replace h := ifF (fun q => q hc8) h
  refine z_iconst dX11_over_18 ?_
  obtain rfl := someE h
  exact z_iret dX11_over_19 hE (inRd (x := (-1)) (by decide)) rfl
set_option maxHeartbeats 1000000 in
theorem s_M_overAt {l : Launch} {g : GX} {z : Nat} {G : Nat → Nat → Nat} {F : Nat} (hz : 353 ≤ z) (hG : lyM G) {x1 : Int} {x2 : Int} {I J : Nat → Nat → Int} (hx1 : inR x1) (hx2 : inR x2) {res : Int × MI} (h : f_M_overAt F x1 x2 I J = some res) : Spec l g 3 yX11_overAt cX11_overAt 3 (some .int) [vR g 296, vI x1, vI x2] (z, I, J, G) (some (vI res.1)) (inR res.1) (z, res.2, J, G) := by
  refine spec_of (μ := mu_M_overAt) (k := 0) (L0 := [some (vR g 296), some (vI x1), some (vI x2)]) rfl mw_M_overAt rfl rfl (Nat.le_refl _) (fun φ hb hE => ?_)
  refine z_iload_n dX11_overAt_0 rfl ?_
  refine z_iconst dX11_overAt_1 ?_
  refine z_iconst dX11_overAt_2 ?_
  obtain ⟨q1, hq2, h⟩ := bindE h
  refine z_callS (As := [vI x1, vI 0, vI 1]) (rest := []) (s_M_in hz hG hx1 (inRd (x := 0) (by decide)) (inRd (x := 1) (by decide)) hq2) dX11_overAt_3 mw_M_in ml_M_345 st_M_in rfl rfl rfl rfl (Nat.le_refl _) (Nat.le_of_eq hb.symm) (fun hp3 => ?_)
  show Zt _ _ _ _ 6 _ [vI q1] (z, I, J, G)
  refine z_if_eq (tgt := 13) dX11_overAt_6 (by decide) (inR_bool hp3) (fun hc4 => ?_) (fun hc4 => ?_)
  · replace h := ifT hc4 h
    refine z_iconst dX11_overAt_13 ?_
    obtain rfl := someE h
    exact z_iret dX11_overAt_14 hE (inRd (x := (-1)) (by decide)) rfl
  replace h := ifF hc4 h
  refine z_iload_n dX11_overAt_9 rfl ?_
  refine z_if_ge (tgt := 15) dX11_overAt_10 (by decide) hx2 (fun hc5 => ?_) (fun hc5 => ?_)
  · replace h := ifT hc5 h
    refine z_aload_n dX11_overAt_15 rfl ?_
    refine z_iload_n dX11_overAt_16 rfl ?_
    obtain ⟨q6, hq7, h⟩ := bindE h
    refine z_callV (As := [vI x1]) (rest := []) (s_M_findsOver hz hG hx1 hq7) dX11_overAt_17 mw_M_findsOver cl11 sh_296 (by decide) (Nat.le_trans (by decide) hz) ml_M_417 im_M_findsOver se_M_findsOver rfl rfl rfl rfl (Nat.le_refl _) (Nat.le_of_eq hb.symm) (fun hp8 => ?_)
    show Zt _ _ _ _ 20 _ [vI q6.1] (z, q6.2, J, G)
    refine z_if_ne (tgt := 26) dX11_overAt_20 (by decide) (inR_bool hp8) (fun hc9 => ?_) (fun hc9 => ?_)
    · replace h := ifT hc9 h
      refine z_iload_n dX11_overAt_26 rfl ?_
      refine z_aload_n dX11_overAt_27 rfl ?_
      refine z_nm (fun hN10 => ?_)
      refine y_getI dX11_overAt_28 cl11 sh_296 (by decide) (Nat.le_trans (by decide) hz) 60 rfl rfl (fl_M_407) ?_
      refine z_icmp_ge (tgt := 59) dX11_overAt_31 (by decide) hx2 (hN10.1 296 60) (fun hc11 => ?_) (fun hc11 => ?_)
      · replace h := ifT hc11 h
        refine z_iconst dX11_overAt_59 ?_
        obtain rfl := someE h
        exact z_iret dX11_overAt_60 hE (inRd (x := (-1)) (by decide)) rfl
      replace h := ifF hc11 h
      refine z_bipush dX11_overAt_34 (by decide +kernel) ?_
      refine z_aload_n dX11_overAt_36 rfl ?_
      refine y_getR dX11_overAt_37 cl11 sh_296 (by decide) (Nat.le_trans (by decide) hz) 61 rfl rfl (fl_M_143) (ly_296_61 hG) (by decide) ?_
      refine z_iload_n dX11_overAt_40 rfl ?_
      obtain ⟨hg12, h⟩ := guardE h
      refine y_iald dX11_overAt_41 sh_338 (by decide) (Nat.le_trans (by decide) hz) hx2 hg12 ?_
      refine z_bipush dX11_overAt_42 (by decide +kernel) ?_
      refine z_idiv dX11_overAt_44 (inRd (x := 12) (by decide)) (by decide) ?_
      refine z_imul dX11_overAt_45 ?_
      refine z_aload_n dX11_overAt_46 rfl ?_
      refine y_getR dX11_overAt_47 cl11 sh_296 (by decide) (Nat.le_trans (by decide) hz) 61 rfl rfl (fl_M_143) (ly_296_61 hG) (by decide) ?_
      refine z_iload_n dX11_overAt_50 rfl ?_
      refine y_iald dX11_overAt_51 sh_338 (by decide) (Nat.le_trans (by decide) hz) hx2 hg12 ?_
      refine z_bipush dX11_overAt_52 (by decide +kernel) ?_
      refine z_irem dX11_overAt_54 (inRd (x := 12) (by decide)) (by decide) ?_
      refine z_iadd dX11_overAt_55 ?_
      refine z_goto (tgt := 60) dX11_overAt_56 (by decide) ?_
      obtain rfl := someE h
      exact z_iret dX11_overAt_60 hE (inR_w32 _) rfl
    replace h := ifF (fun q => q hc9) h
    refine z_bipush dX11_overAt_23 (by decide +kernel) ?_
    obtain rfl := someE h
    exact z_iret dX11_overAt_25 hE (inRd (x := (-2)) (by decide)) rfl
  replace h := ifF hc5 h
  refine z_iconst dX11_overAt_13 ?_
  obtain rfl := someE h
  exact z_iret dX11_overAt_14 hE (inRd (x := (-1)) (by decide)) rfl
set_option maxHeartbeats 1000000 in
theorem t_M_findsLack_b71in6 {l : Launch} {g : GX} {φ : CX} {z : Nat} {G : Nat → Nat → Nat} {F : Nat} (hb : cb φ = z) (hz : 353 ≤ z) (hG : lyM G) {x1 : Int} {s1 : Int} {s2 : Int} {s3 : Int} {I J : Nat → Nat → Int} (hx1 : inR x1) (hs1 : inR s1) (hs2 : inR s2) (hs3 : inR s3) {res : (MI) ⊕ (Int × MI)} (h : f_M_findsLack_b71in6 F x1 s1 s2 s3 I J = some res) (kE : ∀ e : MI, res = .inl e → ((True) → Zt l g φ mu_M_findsLack 79 [some (vR g 296), none] [] (z, e, J, G))) (kS : ∀ s : Int × MI, res = .inr s → (inR s.1) → Zt l g φ mu_M_findsLack 6 [some (vR g 296), some (vI s.1)] [] (z, s.2, J, G)) : Zt l g φ mu_M_findsLack 71 [some (vR g 296), some (vI x1)] [vI s3, vI s2, vI s1, vR g 336] (z, I, J, G) := by
  refine z_imul dX11_findsLack_71 ?_
  obtain ⟨hg11, h⟩ := guardE h
  refine y_iast dX11_findsLack_72 sh_336 (by decide) (Nat.le_trans (by decide) hz) hs1 hg11 (inR_w32 _) ?_
  refine z_iinc (L' := [some (vR g 296), some (vI (w32 (x1 + 1)))]) dX11_findsLack_73 rfl rfl rfl rfl ?_
  refine z_goto (tgt := 6) dX11_findsLack_76 (by decide) ?_
  exact kS _ (someE h).symm (inR_w32 _)
set_option maxHeartbeats 1000000 in
theorem t_M_findsLack_b70in6 {l : Launch} {g : GX} {φ : CX} {z : Nat} {G : Nat → Nat → Nat} {F : Nat} (hb : cb φ = z) (hz : 353 ≤ z) (hG : lyM G) {x1 : Int} {s1 : Int} {s2 : Int} {I J : Nat → Nat → Int} (hx1 : inR x1) (hs1 : inR s1) (hs2 : inR s2) {res : (MI) ⊕ (Int × MI)} (h : f_M_findsLack_b70in6 F x1 s1 s2 I J = some res) (kE : ∀ e : MI, res = .inl e → ((True) → Zt l g φ mu_M_findsLack 79 [some (vR g 296), none] [] (z, e, J, G))) (kS : ∀ s : Int × MI, res = .inr s → (inR s.1) → Zt l g φ mu_M_findsLack 6 [some (vR g 296), some (vI s.1)] [] (z, s.2, J, G)) : Zt l g φ mu_M_findsLack 70 [some (vR g 296), some (vI x1)] [vI s2, vI s1, vR g 336] (z, I, J, G) := by
  refine z_iconst dX11_findsLack_70 ?_
  exact t_M_findsLack_b71in6 hb hz hG hx1 hs1 hs2 (inRd (x := 0) (by decide)) h kE kS
set_option maxHeartbeats 1000000 in
theorem t_M_findsLack_L6 {l : Launch} {g : GX} {φ : CX} {z : Nat} {G : Nat → Nat → Nat} {F : Nat} (hb : cb φ = z) (hz : 353 ≤ z) (hG : lyM G) {x1 : Int} {I J : Nat → Nat → Int} (hx1 : inR x1) {res : (MI) ⊕ (Int × MI)} (h : f_M_findsLack_L6 F x1 I J = some res) (kE : ∀ e : MI, res = .inl e → ((True) → Zt l g φ mu_M_findsLack 79 [some (vR g 296), none] [] (z, e, J, G))) (kS : ∀ s : Int × MI, res = .inr s → (inR s.1) → Zt l g φ mu_M_findsLack 6 [some (vR g 296), some (vI s.1)] [] (z, s.2, J, G)) : Zt l g φ mu_M_findsLack 6 [some (vR g 296), some (vI x1)] [] (z, I, J, G) := by
  refine z_iload_n dX11_findsLack_6 rfl ?_
  refine z_bipush dX11_findsLack_7 (by decide +kernel) ?_
  refine z_icmp_ge (tgt := 79) dX11_findsLack_9 (by decide) hx1 (inRd (x := 96) (by decide)) (fun hc4 => ?_) (fun hc4 => ?_)
  · replace h := ifT hc4 h
    refine z_weak (L' := [some (vR g 296), none]) (lsS (lsN ls0)) ?_
    exact kE _ (someE h).symm trivial
  replace h := ifF hc4 h
  refine z_aload_n dX11_findsLack_12 rfl ?_
  refine y_getR dX11_findsLack_13 cl11 sh_296 (by decide) (Nat.le_trans (by decide) hz) 57 rfl rfl (fl_M_134) (ly_296_57 hG) (by decide) ?_
  refine z_iload_n dX11_findsLack_16 rfl ?_
  refine z_aload_n dX11_findsLack_17 rfl ?_
  refine z_iload_n dX11_findsLack_18 rfl ?_
  refine z_bipush dX11_findsLack_19 (by decide +kernel) ?_
  refine z_irem dX11_findsLack_21 (inRd (x := 12) (by decide)) (by decide) ?_
  refine z_iload_n dX11_findsLack_22 rfl ?_
  refine z_bipush dX11_findsLack_23 (by decide +kernel) ?_
  refine z_idiv dX11_findsLack_25 (inRd (x := 12) (by decide)) (by decide) ?_
  obtain ⟨q5, hq6, h⟩ := bindE h
  refine z_callV (As := [vI (rem32 x1 12), vI (div32 x1 12)]) (rest := [vI x1, vR g 335]) (s_M_isCell hz hG inR_rem inR_div hq6) dX11_findsLack_26 mw_M_isCell cl11 sh_296 (by decide) (Nat.le_trans (by decide) hz) ml_M_369 im_M_isCell se_M_isCell rfl rfl rfl rfl (Nat.le_refl _) (Nat.le_of_eq hb.symm) (fun hp7 => ?_)
  show Zt _ _ _ _ 29 _ [vI q5, vI x1, vR g 335] (z, I, J, G)
  obtain ⟨hg8, h⟩ := guardE h
  refine y_zast dX11_findsLack_29 sh_335 (by decide) (Nat.le_trans (by decide) hz) hx1 hg8 hp7 ?_
  refine z_aload_n dX11_findsLack_30 rfl ?_
  refine y_getR dX11_findsLack_31 cl11 sh_296 (by decide) (Nat.le_trans (by decide) hz) 58 rfl rfl (fl_M_137) (ly_296_58 hG) (by decide) ?_
  refine z_iload_n dX11_findsLack_34 rfl ?_
  refine z_ldcw (n := 100000) dX11_findsLack_35 (tin7 154 (by decide +kernel) rfl) ?_
  refine z_aload_n dX11_findsLack_38 rfl ?_
  refine y_getR dX11_findsLack_39 cl11 sh_296 (by decide) (Nat.le_trans (by decide) hz) 57 rfl rfl (fl_M_134) (ly_296_57 hG) (by decide) ?_
  refine z_iload_n dX11_findsLack_42 rfl ?_
  refine z_nm (fun hN9 => ?_)
  refine y_zald dX11_findsLack_43 sh_335 (by decide) (Nat.le_trans (by decide) hz) hx1 hg8 ?_
  refine z_if_eq (tgt := 70) dX11_findsLack_44 (by decide) (hN9.1 335 (x1).toNat) (fun hc10 => ?_) (fun hc10 => ?_)
  · replace h := ifT hc10 h
    exact t_M_findsLack_b70in6 hb hz hG hx1 hx1 (inRd (x := 100000) (by decide)) h kE kS
  replace h := ifF hc10 h
  refine z_aload_n dX11_findsLack_47 rfl ?_
  refine z_iload_n dX11_findsLack_48 rfl ?_
  obtain ⟨q12, hq13, h⟩ := bindE h
  refine z_callV (As := [vI x1]) (rest := [vI 100000, vI x1, vR g 336]) (s_M_isStep hz hG hx1 hq13) dX11_findsLack_49 mw_M_isStep cl11 sh_296 (by decide) (Nat.le_trans (by decide) hz) ml_M_376 im_M_isStep se_M_isStep rfl rfl rfl rfl (Nat.le_refl _) (Nat.le_of_eq hb.symm) (fun hp14 => ?_)
  show Zt _ _ _ _ 52 _ [vI q12, vI 100000, vI x1, vR g 336] (z, (up2 I 335 (x1).toNat q5), J, G)
  refine z_if_ne (tgt := 70) dX11_findsLack_52 (by decide) (inR_bool hp14) (fun hc15 => ?_) (fun hc15 => ?_)
  · replace h := ifT hc15 h
    exact t_M_findsLack_b70in6 hb hz hG hx1 hx1 (inRd (x := 100000) (by decide)) h kE kS
  replace h := ifF (fun q => q hc15) h
  refine z_aload_n dX11_findsLack_55 rfl ?_
  refine z_iload_n dX11_findsLack_56 rfl ?_
  obtain ⟨q16, hq17, h⟩ := bindE h
  refine z_callV (As := [vI x1]) (rest := [vI 100000, vI x1, vR g 336]) (s_M_deep hz hG hx1 hq17) dX11_findsLack_57 mw_M_deep cl11 sh_296 (by decide) (Nat.le_trans (by decide) hz) ml_M_349 im_M_deep se_M_deep rfl rfl rfl rfl (Nat.le_refl _) (Nat.le_of_eq hb.symm) (fun hp18 => ?_)
  show Zt _ _ _ _ 60 _ [vI q16, vI 100000, vI x1, vR g 336] (z, (up2 I 335 (x1).toNat q5), J, G)
  refine z_aload_n dX11_findsLack_60 rfl ?_
  refine y_getR dX11_findsLack_61 cl11 sh_296 (by decide) (Nat.le_trans (by decide) hz) 54 rfl rfl (fl_M_128) (ly_296_54 hG) (by decide) ?_
  refine z_iload_n dX11_findsLack_64 rfl ?_
  refine y_iald dX11_findsLack_65 sh_333 (by decide) (Nat.le_trans (by decide) hz) hx1 hg8 ?_
  refine z_isub dX11_findsLack_66 ?_
  refine z_goto (tgt := 71) dX11_findsLack_67 (by decide) ?_
  exact t_M_findsLack_b71in6 hb hz hG hx1 hx1 (inRd (x := 100000) (by decide)) (inR_w32 _) h kE kS
theorem l_M_findsLack_L6 {l : Launch} {g : GX} {φ : CX} {z : Nat} {G : Nat → Nat → Nat} {F : Nat} (hb : cb φ = z) (hz : 353 ≤ z) (hG : lyM G) {J : Nat → Nat → Int} (n : Nat) (s : Int × MI) (e : MI) (h : iter (fun s : Int × MI => f_M_findsLack_L6 F s.1 s.2 J) n s = some e) (hs : inR s.1) (k : ((True) → Zt l g φ mu_M_findsLack 79 [some (vR g 296), none] [] (z, e, J, G))) : Zt l g φ mu_M_findsLack 6 [some (vR g 296), some (vI s.1)] [] (z, s.2, J, G) := by
  refine iter_ind (Z := fun s : Int × MI => Zt l g φ mu_M_findsLack 6 [some (vR g 296), some (vI s.1)] [] (z, s.2, J, G)) (ZE := fun e : MI => ((True) → Zt l g φ mu_M_findsLack 79 [some (vR g 296), none] [] (z, e, J, G))) (Rg := fun s : Int × MI => inR s.1) ?_ n s e h hs k
  intro s r hr hst kE kS
  exact t_M_findsLack_L6 hb hz hG hr hst kE kS
set_option maxHeartbeats 1000000 in
theorem s_M_findsLack {l : Launch} {g : GX} {z : Nat} {G : Nat → Nat → Nat} {F : Nat} (hz : 353 ≤ z) (hG : lyM G) {I J : Nat → Nat → Int} {res : MI} (h : f_M_findsLack F I J = some res) : Spec l g 2 yX11_findsLack cX11_findsLack 2 none [vR g 296] (z, I, J, G) none True (z, res, J, G) := by
  refine spec_of (μ := mu_M_findsLack) (k := 1) (L0 := [some (vR g 296), none]) rfl mw_M_findsLack rfl rfl (Nat.le_refl _) (fun φ hb hE => ?_)
  refine z_aload_n dX11_findsLack_0 rfl ?_
  obtain ⟨q1, hq2, h⟩ := bindE h
  refine z_callV (As := []) (rest := []) (s_M_copies hz hG  hq2) dX11_findsLack_1 mw_M_copies cl11 sh_296 (by decide) (Nat.le_trans (by decide) hz) ml_M_373 im_M_copies se_M_copies rfl rfl rfl rfl (Nat.le_refl _) (Nat.le_of_eq hb.symm) (fun hp3 => ?_)
  show Zt _ _ _ _ 4 _ [] (z, q1, J, G)
  refine z_iconst dX11_findsLack_4 ?_
  refine z_istore_n (L' := [some (vR g 296), some (vI 0)]) dX11_findsLack_5 rfl rfl rfl ?_
  obtain ⟨e19, h20, h⟩ := bindE h
  refine l_M_findsLack_L6 hb hz hG  _ _ _ h20 (inRd (x := 0) (by decide)) ?_
  refine fun h21 => ?_
  refine z_aload_n dX11_findsLack_79 rfl ?_
  refine z_iconst dX11_findsLack_80 ?_
  obtain ⟨q22, hq23, h⟩ := bindE h
  refine z_callV (As := [vI 1]) (rest := []) (s_M_fillsWays hz hG (inRd (x := 1) (by decide)) hq23) dX11_findsLack_81 mw_M_fillsWays cl11 sh_296 (by decide) (Nat.le_trans (by decide) hz) ml_M_411 im_M_fillsWays se_M_fillsWays rfl rfl rfl rfl (Nat.le_refl _) (Nat.le_of_eq hb.symm) (fun hp24 => ?_)
  show Zt _ _ _ _ 84 _ [] (z, q22, J, G)
  refine z_aload_n dX11_findsLack_84 rfl ?_
  refine z_iconst dX11_findsLack_85 ?_
  obtain ⟨q25, hq26, h⟩ := bindE h
  refine z_callV (As := [vI 1]) (rest := []) (s_M_fillsLine hz hG (inRd (x := 1) (by decide)) hq26) dX11_findsLack_86 mw_M_fillsLine cl11 sh_296 (by decide) (Nat.le_trans (by decide) hz) ml_M_414 im_M_fillsLine se_M_fillsLine rfl rfl rfl rfl (Nat.le_refl _) (Nat.le_of_eq hb.symm) (fun hp27 => ?_)
  show Zt _ _ _ _ 89 _ [] (z, q25, J, G)
  obtain rfl := someE h
  exact z_vret dX11_findsLack_89 hE trivial rfl
set_option maxHeartbeats 1000000 in
theorem s_M_lack {l : Launch} {g : GX} {z : Nat} {G : Nat → Nat → Nat} {F : Nat} (hz : 353 ≤ z) (hG : lyM G) {x1 : Int} {I J : Nat → Nat → Int} (hx1 : inR x1) {res : Int × MI} (h : f_M_lack F x1 I J = some res) : Spec l g 3 yX11_lack cX11_lack 2 (some .int) [vR g 296, vI x1] (z, I, J, G) (some (vI res.1)) (inR res.1) (z, res.2, J, G) := by
  refine spec_of (μ := mu_M_lack) (k := 0) (L0 := [some (vR g 296), some (vI x1)]) rfl mw_M_lack rfl rfl (Nat.le_refl _) (fun φ hb hE => ?_)
  refine z_iload_n dX11_lack_0 rfl ?_
  refine z_iconst dX11_lack_1 ?_
  refine z_iconst dX11_lack_2 ?_
  obtain ⟨q1, hq2, h⟩ := bindE h
  refine z_callS (As := [vI x1, vI 0, vI 1]) (rest := []) (s_M_in hz hG hx1 (inRd (x := 0) (by decide)) (inRd (x := 1) (by decide)) hq2) dX11_lack_3 mw_M_in ml_M_345 st_M_in rfl rfl rfl rfl (Nat.le_refl _) (Nat.le_of_eq hb.symm) (fun hp3 => ?_)
  show Zt _ _ _ _ 6 _ [vI q1] (z, I, J, G)
  refine z_if_ne (tgt := 11) dX11_lack_6 (by decide) (inR_bool hp3) (fun hc4 => ?_) (fun hc4 => ?_)
  · replace h := ifT hc4 h
    refine z_aload_n dX11_lack_11 rfl ?_
    obtain ⟨q5, hq6, h⟩ := bindE h
    refine z_callV (As := []) (rest := []) (s_M_findsLack hz hG  hq6) dX11_lack_12 mw_M_findsLack cl11 sh_296 (by decide) (Nat.le_trans (by decide) hz) ml_M_420 im_M_findsLack se_M_findsLack rfl rfl rfl rfl (Nat.le_refl _) (Nat.le_of_eq hb.symm) (fun hp7 => ?_)
    show Zt _ _ _ _ 15 _ [] (z, q5, J, G)
    refine z_iload_n dX11_lack_15 rfl ?_
    refine z_if_ne (tgt := 33) dX11_lack_16 (by decide) hx1 (fun hc8 => ?_) (fun hc8 => ?_)
    · replace h := ifT hc8 h
      refine z_aload_n dX11_lack_33 rfl ?_
      refine y_getR dX11_lack_34 cl11 sh_296 (by decide) (Nat.le_trans (by decide) hz) 59 rfl rfl (fl_M_140) (ly_296_59 hG) (by decide) ?_
      refine z_bipush dX11_lack_37 (by decide +kernel) ?_
      refine z_nm (fun hN9 => ?_)
      refine y_iald dX11_lack_39 sh_337 (by decide) (Nat.le_trans (by decide) hz) (inRd (x := 96) (by decide)) (by decide) ?_
      refine z_ldcw (n := 100000) dX11_lack_40 (tin7 154 (by decide +kernel) rfl) ?_
      refine z_irem dX11_lack_43 (inRd (x := 100000) (by decide)) (by decide) ?_
      obtain rfl := someE h
      exact z_iret dX11_lack_44 hE inR_rem rfl
    replace h := ifF (fun q => q hc8) h
    refine z_aload_n dX11_lack_19 rfl ?_
    refine y_getR dX11_lack_20 cl11 sh_296 (by decide) (Nat.le_trans (by decide) hz) 59 rfl rfl (fl_M_140) (ly_296_59 hG) (by decide) ?_
    refine z_bipush dX11_lack_23 (by decide +kernel) ?_
    refine z_nm (fun hN10 => ?_)
    refine y_iald dX11_lack_25 sh_337 (by decide) (Nat.le_trans (by decide) hz) (inRd (x := 96) (by decide)) (by decide) ?_
    refine z_ldcw (n := 100000) dX11_lack_26 (tin7 154 (by decide +kernel) rfl) ?_
    refine z_idiv dX11_lack_29 (inRd (x := 100000) (by decide)) (by decide) ?_
    refine z_goto (tgt := 44) dX11_lack_30 (by decide) ?_
    obtain rfl := someE h
    exact z_iret dX11_lack_44 hE inR_div rfl
  replace h := ifF (fun q => q hc4) h
  refine z_iconst dX11_lack_9 ?_
  obtain rfl := someE h
  exact z_iret dX11_lack_10 hE (inRd (x := (-1)) (by decide)) rfl
set_option maxHeartbeats 1000000 in
theorem s_M_lackAt {l : Launch} {g : GX} {z : Nat} {G : Nat → Nat → Nat} {F : Nat} (hz : 353 ≤ z) (hG : lyM G) {x1 : Int} {I J : Nat → Nat → Int} (hx1 : inR x1) {res : Int × MI} (h : f_M_lackAt F x1 I J = some res) : Spec l g 3 yX11_lackAt cX11_lackAt 2 (some .int) [vR g 296, vI x1] (z, I, J, G) (some (vI res.1)) (inR res.1) (z, res.2, J, G) := by
  refine spec_of (μ := mu_M_lackAt) (k := 0) (L0 := [some (vR g 296), some (vI x1)]) rfl mw_M_lackAt rfl rfl (Nat.le_refl _) (fun φ hb hE => ?_)
  refine z_aload_n dX11_lackAt_0 rfl ?_
  obtain ⟨q1, hq2, h⟩ := bindE h
  refine z_callV (As := []) (rest := []) (s_M_findsLack hz hG  hq2) dX11_lackAt_1 mw_M_findsLack cl11 sh_296 (by decide) (Nat.le_trans (by decide) hz) ml_M_420 im_M_findsLack se_M_findsLack rfl rfl rfl rfl (Nat.le_refl _) (Nat.le_of_eq hb.symm) (fun hp3 => ?_)
  show Zt _ _ _ _ 4 _ [] (z, q1, J, G)
  refine z_iload_n dX11_lackAt_4 rfl ?_
  refine z_iconst dX11_lackAt_5 ?_
  refine z_aload_n dX11_lackAt_6 rfl ?_
  refine z_nm (fun hN4 => ?_)
  refine y_getI dX11_lackAt_7 cl11 sh_296 (by decide) (Nat.le_trans (by decide) hz) 60 rfl rfl (fl_M_407) ?_
  refine z_iconst dX11_lackAt_10 ?_
  refine z_isub dX11_lackAt_11 ?_
  obtain ⟨q5, hq6, h⟩ := bindE h
  refine z_callS (As := [vI x1, vI 0, vI (w32 ((q1 296 60) - 1))]) (rest := []) (s_M_in hz hG hx1 (inRd (x := 0) (by decide)) (inR_w32 _) hq6) dX11_lackAt_12 mw_M_in ml_M_345 st_M_in rfl rfl rfl rfl (Nat.le_refl _) (Nat.le_of_eq hb.symm) (fun hp7 => ?_)
  show Zt _ _ _ _ 15 _ [vI q5] (z, q1, J, G)
  refine z_if_eq (tgt := 43) dX11_lackAt_15 (by decide) (inR_bool hp7) (fun hc8 => ?_) (fun hc8 => ?_)
  · replace h := ifT hc8 h
    refine z_iconst dX11_lackAt_43 ?_
    obtain rfl := someE h
    exact z_iret dX11_lackAt_44 hE (inRd (x := (-1)) (by decide)) rfl
  replace h := ifF hc8 h
  refine z_bipush dX11_lackAt_18 (by decide +kernel) ?_
  refine z_aload_n dX11_lackAt_20 rfl ?_
  refine y_getR dX11_lackAt_21 cl11 sh_296 (by decide) (Nat.le_trans (by decide) hz) 61 rfl rfl (fl_M_143) (ly_296_61 hG) (by decide) ?_
  refine z_iload_n dX11_lackAt_24 rfl ?_
  obtain ⟨hg9, h⟩ := guardE h
  refine y_iald dX11_lackAt_25 sh_338 (by decide) (Nat.le_trans (by decide) hz) hx1 hg9 ?_
  refine z_bipush dX11_lackAt_26 (by decide +kernel) ?_
  refine z_idiv dX11_lackAt_28 (inRd (x := 12) (by decide)) (by decide) ?_
  refine z_imul dX11_lackAt_29 ?_
  refine z_aload_n dX11_lackAt_30 rfl ?_
  refine y_getR dX11_lackAt_31 cl11 sh_296 (by decide) (Nat.le_trans (by decide) hz) 61 rfl rfl (fl_M_143) (ly_296_61 hG) (by decide) ?_
  refine z_iload_n dX11_lackAt_34 rfl ?_
  refine y_iald dX11_lackAt_35 sh_338 (by decide) (Nat.le_trans (by decide) hz) hx1 hg9 ?_
  refine z_bipush dX11_lackAt_36 (by decide +kernel) ?_
  refine z_irem dX11_lackAt_38 (inRd (x := 12) (by decide)) (by decide) ?_
  refine z_iadd dX11_lackAt_39 ?_
  refine z_goto (tgt := 44) dX11_lackAt_40 (by decide) ?_
  obtain rfl := someE h
  exact z_iret dX11_lackAt_44 hE (inR_w32 _) rfl
set_option maxHeartbeats 1000000 in
theorem t_M_leastSize_L2 {l : Launch} {g : GX} {φ : CX} {z : Nat} {G : Nat → Nat → Nat} {F : Nat} (hb : cb φ = z) (hz : 353 ≤ z) (hG : lyM G) {x1 : Int} {x2 : Int} {I J : Nat → Nat → Int} (hx1 : inR x1) (hx2 : inR x2) {res : ((Int) ⊕ (Unit)) ⊕ (Int)} (h : f_M_leastSize_L2 F x1 x2 I J = some res) (kE : ∀ e : (Int) ⊕ (Unit), res = .inl e → ((fun w : (Int) ⊕ (Unit) => (match w with | .inl e0 => ((inR e0) → Zt l g φ mu_M_leastSize 34 [none, none, some (vI e0)] [] (z, I, J, G)) | .inr o0 => ((True) → Zt l g φ mu_M_leastSize 42 [none, none, none] [] (z, I, J, G)))) e)) (kS : ∀ s : Int, res = .inr s → (inR s) → Zt l g φ mu_M_leastSize 2 [some (vR g 296), some (vI x1), some (vI s)] [] (z, I, J, G)) : Zt l g φ mu_M_leastSize 2 [some (vR g 296), some (vI x1), some (vI x2)] [] (z, I, J, G) := by
  refine z_iload_n dX11_leastSize_2 rfl ?_
  refine z_bipush dX11_leastSize_3 (by decide +kernel) ?_
  refine z_icmp_ge (tgt := 42) dX11_leastSize_5 (by decide) hx2 (inRd (x := 10) (by decide)) (fun hc1 => ?_) (fun hc1 => ?_)
  · replace h := ifT hc1 h
    refine z_weak (L' := [none, none, none]) (lsN (lsN (lsN ls0))) ?_
    exact kE _ (someE h).symm trivial
  replace h := ifF hc1 h
  refine z_aload_n dX11_leastSize_8 rfl ?_
  refine y_getR dX11_leastSize_9 cl11 sh_296 (by decide) (Nat.le_trans (by decide) hz) 26 rfl rfl (fl_M_55) (ly_296_26 hG) (by decide) ?_
  refine z_bipush dX11_leastSize_12 (by decide +kernel) ?_
  refine z_aload_n dX11_leastSize_14 rfl ?_
  refine z_nm (fun hN2 => ?_)
  refine y_getI dX11_leastSize_15 cl11 sh_296 (by decide) (Nat.le_trans (by decide) hz) 18 rfl rfl (fl_M_269) ?_
  refine z_imul dX11_leastSize_18 ?_
  refine z_iload_n dX11_leastSize_19 rfl ?_
  refine z_bipush dX11_leastSize_20 (by decide +kernel) ?_
  refine z_idiv dX11_leastSize_22 (inRd (x := 12) (by decide)) (by decide) ?_
  refine z_iadd dX11_leastSize_23 ?_
  obtain ⟨hg3, h⟩ := guardE h
  refine y_iald dX11_leastSize_24 sh_309 (by decide) (Nat.le_trans (by decide) hz) (inR_w32 _) hg3 ?_
  refine z_iload_n dX11_leastSize_25 rfl ?_
  obtain ⟨hd4, h⟩ := guardE h
  refine z_idiv dX11_leastSize_26 hx2 hd4 ?_
  refine z_iload_n dX11_leastSize_27 rfl ?_
  refine z_bipush dX11_leastSize_28 (by decide +kernel) ?_
  refine z_irem dX11_leastSize_30 (inRd (x := 12) (by decide)) (by decide) ?_
  refine z_icmp_gt (tgt := 36) dX11_leastSize_31 (by decide) inR_div inR_rem (fun hc5 => ?_) (fun hc5 => ?_)
  · replace h := ifT hc5 h
    refine z_iinc (L' := [some (vR g 296), some (vI x1), some (vI (w32 (x2 + 1)))]) dX11_leastSize_36 rfl rfl rfl rfl ?_
    refine z_goto (tgt := 2) dX11_leastSize_39 (by decide) ?_
    exact kS _ (someE h).symm (inR_w32 _)
  replace h := ifF hc5 h
  refine z_weak (L' := [none, none, some (vI x2)]) (lsN (lsN (lsS ls0))) ?_
  exact kE _ (someE h).symm hx2
theorem l_M_leastSize_L2 {l : Launch} {g : GX} {φ : CX} {z : Nat} {G : Nat → Nat → Nat} {F : Nat} (hb : cb φ = z) (hz : 353 ≤ z) (hG : lyM G) {x1 : Int} {I : Nat → Nat → Int} {J : Nat → Nat → Int} (hx1 : inR x1) (n : Nat) (s : Int) (e : (Int) ⊕ (Unit)) (h : iter (fun s : Int => f_M_leastSize_L2 F x1 s I J) n s = some e) (hs : inR s) (k : ((fun w : (Int) ⊕ (Unit) => (match w with | .inl e0 => ((inR e0) → Zt l g φ mu_M_leastSize 34 [none, none, some (vI e0)] [] (z, I, J, G)) | .inr o0 => ((True) → Zt l g φ mu_M_leastSize 42 [none, none, none] [] (z, I, J, G)))) e)) : Zt l g φ mu_M_leastSize 2 [some (vR g 296), some (vI x1), some (vI s)] [] (z, I, J, G) := by
  refine iter_ind (Z := fun s : Int => Zt l g φ mu_M_leastSize 2 [some (vR g 296), some (vI x1), some (vI s)] [] (z, I, J, G)) (ZE := fun e : (Int) ⊕ (Unit) => ((fun w : (Int) ⊕ (Unit) => (match w with | .inl e0 => ((inR e0) → Zt l g φ mu_M_leastSize 34 [none, none, some (vI e0)] [] (z, I, J, G)) | .inr o0 => ((True) → Zt l g φ mu_M_leastSize 42 [none, none, none] [] (z, I, J, G)))) e)) (Rg := fun s : Int => inR s) ?_ n s e h hs k
  intro s r hr hst kE kS
  exact t_M_leastSize_L2 hb hz hG hx1 hr hst kE kS
set_option maxHeartbeats 1000000 in
theorem s_M_leastSize {l : Launch} {g : GX} {z : Nat} {G : Nat → Nat → Nat} {F : Nat} (hz : 353 ≤ z) (hG : lyM G) {x1 : Int} {I J : Nat → Nat → Int} (hx1 : inR x1) {res : Int} (h : f_M_leastSize F x1 I J = some res) : Spec l g 0 yX11_leastSize cX11_leastSize 3 (some .int) [vR g 296, vI x1] (z, I, J, G) (some (vI res)) (inR res) (z, I, J, G) := by
  refine spec_of (μ := mu_M_leastSize) (k := 1) (L0 := [some (vR g 296), some (vI x1), none]) rfl mw_M_leastSize rfl rfl (Nat.le_refl _) (fun φ hb hE => ?_)
  refine z_iconst dX11_leastSize_0 ?_
  refine z_istore_n (L' := [some (vR g 296), some (vI x1), some (vI 1)]) dX11_leastSize_1 rfl rfl rfl ?_
  obtain ⟨e6, h7, h⟩ := bindE h
  rcases e6 with e8 | o9
  · refine l_M_leastSize_L2 hb hz hG hx1 _ _ _ h7 (inRd (x := 1) (by decide)) ?_
    refine fun h10 => ?_
    refine z_iload_n dX11_leastSize_34 rfl ?_
    obtain rfl := someE h
    exact z_iret dX11_leastSize_35 hE h10 rfl
  refine l_M_leastSize_L2 hb hz hG hx1 _ _ _ h7 (inRd (x := 1) (by decide)) ?_
  refine fun h11 => ?_
  refine z_bipush dX11_leastSize_42 (by decide +kernel) ?_
  obtain rfl := someE h
  exact z_iret dX11_leastSize_44 hE (inRd (x := 10) (by decide)) rfl
set_option maxHeartbeats 1000000 in
theorem t_M_fillsWants_L31 {l : Launch} {g : GX} {φ : CX} {z : Nat} {G : Nat → Nat → Nat} {F : Nat} (hb : cb φ = z) (hz : 353 ≤ z) (hG : lyM G) {x1 : Int} {x2 : Int} {I J : Nat → Nat → Int} (hx1 : inR x1) (hx2 : inR x2) {res : (MI) ⊕ (Int × MI)} (h : f_M_fillsWants_L31 F x1 x2 I J = some res) (kE : ∀ e : MI, res = .inl e → ((True) → Zt l g φ mu_M_fillsWants 80 [some (vR g 296), some (vI x1), none] [] (z, e, J, G))) (kS : ∀ s : Int × MI, res = .inr s → (inR s.1) → Zt l g φ mu_M_fillsWants 31 [some (vR g 296), some (vI x1), some (vI s.1)] [] (z, s.2, J, G)) : Zt l g φ mu_M_fillsWants 31 [some (vR g 296), some (vI x1), some (vI x2)] [] (z, I, J, G) := by
  refine z_iload_n dX11_fillsWants_31 rfl ?_
  refine z_aload_n dX11_fillsWants_32 rfl ?_
  refine z_aload_n dX11_fillsWants_33 rfl ?_
  refine y_getR dX11_fillsWants_34 cl11 sh_296 (by decide) (Nat.le_trans (by decide) hz) 61 rfl rfl (fl_M_143) (ly_296_61 hG) (by decide) ?_
  refine z_iload_n dX11_fillsWants_37 rfl ?_
  obtain ⟨hg8, h⟩ := guardE h
  refine z_nm (fun hN9 => ?_)
  refine y_iald dX11_fillsWants_38 sh_338 (by decide) (Nat.le_trans (by decide) hz) hx1 hg8 ?_
  obtain ⟨q10, hq11, h⟩ := bindE h
  refine z_callV (As := [vI (I 338 (x1).toNat)]) (rest := [vI x2]) (s_M_deep hz hG (hN9.1 338 (x1).toNat) hq11) dX11_fillsWants_39 mw_M_deep cl11 sh_296 (by decide) (Nat.le_trans (by decide) hz) ml_M_349 im_M_deep se_M_deep rfl rfl rfl rfl (Nat.le_refl _) (Nat.le_of_eq hb.symm) (fun hp12 => ?_)
  show Zt _ _ _ _ 42 _ [vI q10, vI x2] (z, I, J, G)
  refine z_icmp_ge (tgt := 80) dX11_fillsWants_42 (by decide) hx2 hp12 (fun hc13 => ?_) (fun hc13 => ?_)
  · replace h := ifT hc13 h
    refine z_weak (L' := [some (vR g 296), some (vI x1), none]) (lsS (lsS (lsN ls0))) ?_
    exact kE _ (someE h).symm trivial
  replace h := ifF hc13 h
  refine z_aload_n dX11_fillsWants_45 rfl ?_
  refine y_getR dX11_fillsWants_46 cl11 sh_296 (by decide) (Nat.le_trans (by decide) hz) 62 rfl rfl (fl_M_146) (ly_296_62 hG) (by decide) ?_
  refine z_aload_n dX11_fillsWants_49 rfl ?_
  refine y_getI dX11_fillsWants_50 cl11 sh_296 (by decide) (Nat.le_trans (by decide) hz) 63 rfl rfl (fl_M_423) ?_
  refine z_aload_n dX11_fillsWants_53 rfl ?_
  refine z_aload_n dX11_fillsWants_54 rfl ?_
  refine y_getR dX11_fillsWants_55 cl11 sh_296 (by decide) (Nat.le_trans (by decide) hz) 61 rfl rfl (fl_M_143) (ly_296_61 hG) (by decide) ?_
  refine z_iload_n dX11_fillsWants_58 rfl ?_
  refine y_iald dX11_fillsWants_59 sh_338 (by decide) (Nat.le_trans (by decide) hz) hx1 hg8 ?_
  obtain ⟨q14, hq15, h⟩ := bindE h
  refine z_callV (As := [vI (I 338 (x1).toNat)]) (rest := [vI (I 296 63), vR g 339]) (s_M_leastSize hz hG (hN9.1 338 (x1).toNat) hq15) dX11_fillsWants_60 mw_M_leastSize cl11 sh_296 (by decide) (Nat.le_trans (by decide) hz) ml_M_426 im_M_leastSize se_M_leastSize rfl rfl rfl rfl (Nat.le_refl _) (Nat.le_of_eq hb.symm) (fun hp16 => ?_)
  show Zt _ _ _ _ 63 _ [vI q14, vI (I 296 63), vR g 339] (z, I, J, G)
  obtain ⟨hg17, h⟩ := guardE h
  refine y_iast dX11_fillsWants_63 sh_339 (by decide) (Nat.le_trans (by decide) hz) (hN9.1 296 63) hg17 hp16 ?_
  refine z_aload_n dX11_fillsWants_64 rfl ?_
  refine z_dup dX11_fillsWants_65 rfl ?_
  refine z_nm (fun hN18 => ?_)
  refine y_getI dX11_fillsWants_66 cl11 sh_296 (by decide) (Nat.le_trans (by decide) hz) 63 rfl rfl (fl_M_423) ?_
  refine z_iconst dX11_fillsWants_69 ?_
  refine z_iadd dX11_fillsWants_70 ?_
  refine y_putI dX11_fillsWants_71 cl11 sh_296 (by decide) (Nat.le_trans (by decide) hz) 63 rfl rfl rfl (fl_M_423) rfl rfl (inR_w32 _) ?_
  refine z_iinc (L' := [some (vR g 296), some (vI x1), some (vI (w32 (x2 + 1)))]) dX11_fillsWants_74 rfl rfl rfl rfl ?_
  refine z_goto (tgt := 31) dX11_fillsWants_77 (by decide) ?_
  exact kS _ (someE h).symm (inR_w32 _)
theorem l_M_fillsWants_L31 {l : Launch} {g : GX} {φ : CX} {z : Nat} {G : Nat → Nat → Nat} {F : Nat} (hb : cb φ = z) (hz : 353 ≤ z) (hG : lyM G) {x1 : Int} {J : Nat → Nat → Int} (hx1 : inR x1) (n : Nat) (s : Int × MI) (e : MI) (h : iter (fun s : Int × MI => f_M_fillsWants_L31 F x1 s.1 s.2 J) n s = some e) (hs : inR s.1) (k : ((True) → Zt l g φ mu_M_fillsWants 80 [some (vR g 296), some (vI x1), none] [] (z, e, J, G))) : Zt l g φ mu_M_fillsWants 31 [some (vR g 296), some (vI x1), some (vI s.1)] [] (z, s.2, J, G) := by
  refine iter_ind (Z := fun s : Int × MI => Zt l g φ mu_M_fillsWants 31 [some (vR g 296), some (vI x1), some (vI s.1)] [] (z, s.2, J, G)) (ZE := fun e : MI => ((True) → Zt l g φ mu_M_fillsWants 80 [some (vR g 296), some (vI x1), none] [] (z, e, J, G))) (Rg := fun s : Int × MI => inR s.1) ?_ n s e h hs k
  intro s r hr hst kE kS
  exact t_M_fillsWants_L31 hb hz hG hx1 hr hst kE kS
set_option maxHeartbeats 1000000 in
theorem t_M_fillsWants_L11 {l : Launch} {g : GX} {φ : CX} {z : Nat} {G : Nat → Nat → Nat} {F : Nat} (hb : cb φ = z) (hz : 353 ≤ z) (hG : lyM G) {x1 : Int} {I J : Nat → Nat → Int} (hx1 : inR x1) {res : (MI) ⊕ (Int × MI)} (h : f_M_fillsWants_L11 F x1 I J = some res) (kE : ∀ e : MI, res = .inl e → ((True) → Zt l g φ mu_M_fillsWants 86 [some (vR g 296), none, none] [] (z, e, J, G))) (kS : ∀ s : Int × MI, res = .inr s → (inR s.1) → Zt l g φ mu_M_fillsWants 11 [some (vR g 296), some (vI s.1), none] [] (z, s.2, J, G)) : Zt l g φ mu_M_fillsWants 11 [some (vR g 296), some (vI x1), none] [] (z, I, J, G) := by
  refine z_iload_n dX11_fillsWants_11 rfl ?_
  refine z_aload_n dX11_fillsWants_12 rfl ?_
  refine z_nm (fun hN4 => ?_)
  refine y_getI dX11_fillsWants_13 cl11 sh_296 (by decide) (Nat.le_trans (by decide) hz) 60 rfl rfl (fl_M_407) ?_
  refine z_icmp_ge (tgt := 86) dX11_fillsWants_16 (by decide) hx1 (hN4.1 296 60) (fun hc5 => ?_) (fun hc5 => ?_)
  · replace h := ifT hc5 h
    refine z_weak (L' := [some (vR g 296), none, none]) (lsS (lsN (lsN ls0))) ?_
    exact kE _ (someE h).symm trivial
  replace h := ifF hc5 h
  refine z_aload_n dX11_fillsWants_19 rfl ?_
  refine y_getR dX11_fillsWants_20 cl11 sh_296 (by decide) (Nat.le_trans (by decide) hz) 54 rfl rfl (fl_M_128) (ly_296_54 hG) (by decide) ?_
  refine z_aload_n dX11_fillsWants_23 rfl ?_
  refine y_getR dX11_fillsWants_24 cl11 sh_296 (by decide) (Nat.le_trans (by decide) hz) 61 rfl rfl (fl_M_143) (ly_296_61 hG) (by decide) ?_
  refine z_iload_n dX11_fillsWants_27 rfl ?_
  obtain ⟨hg6, h⟩ := guardE h
  refine y_iald dX11_fillsWants_28 sh_338 (by decide) (Nat.le_trans (by decide) hz) hx1 hg6 ?_
  obtain ⟨hg7, h⟩ := guardE h
  refine y_iald dX11_fillsWants_29 sh_333 (by decide) (Nat.le_trans (by decide) hz) (hN4.1 338 (x1).toNat) hg7 ?_
  refine z_istore_n (L' := [some (vR g 296), some (vI x1), some (vI (I 333 ((I 338 (x1).toNat)).toNat))]) dX11_fillsWants_30 rfl rfl rfl ?_
  obtain ⟨e19, h20, h⟩ := bindE h
  refine l_M_fillsWants_L31 hb hz hG hx1 _ _ _ h20 (hN4.1 333 ((I 338 (x1).toNat)).toNat) ?_
  refine fun h21 => ?_
  refine z_iinc (L' := [some (vR g 296), some (vI (w32 (x1 + 1))), none]) dX11_fillsWants_80 rfl rfl rfl rfl ?_
  refine z_goto (tgt := 11) dX11_fillsWants_83 (by decide) ?_
  exact kS _ (someE h).symm (inR_w32 _)
theorem l_M_fillsWants_L11 {l : Launch} {g : GX} {φ : CX} {z : Nat} {G : Nat → Nat → Nat} {F : Nat} (hb : cb φ = z) (hz : 353 ≤ z) (hG : lyM G) {J : Nat → Nat → Int} (n : Nat) (s : Int × MI) (e : MI) (h : iter (fun s : Int × MI => f_M_fillsWants_L11 F s.1 s.2 J) n s = some e) (hs : inR s.1) (k : ((True) → Zt l g φ mu_M_fillsWants 86 [some (vR g 296), none, none] [] (z, e, J, G))) : Zt l g φ mu_M_fillsWants 11 [some (vR g 296), some (vI s.1), none] [] (z, s.2, J, G) := by
  refine iter_ind (Z := fun s : Int × MI => Zt l g φ mu_M_fillsWants 11 [some (vR g 296), some (vI s.1), none] [] (z, s.2, J, G)) (ZE := fun e : MI => ((True) → Zt l g φ mu_M_fillsWants 86 [some (vR g 296), none, none] [] (z, e, J, G))) (Rg := fun s : Int × MI => inR s.1) ?_ n s e h hs k
  intro s r hr hst kE kS
  exact t_M_fillsWants_L11 hb hz hG hr hst kE kS
set_option maxHeartbeats 1000000 in
theorem t_M_fillsWants_b129in88 {l : Launch} {g : GX} {φ : CX} {z : Nat} {G : Nat → Nat → Nat} {F : Nat} (hb : cb φ = z) (hz : 353 ≤ z) (hG : lyM G) {x1 : Int} {s1 : Int} {s2 : Int} {I J : Nat → Nat → Int} (hx1 : inR x1) (hs1 : inR s1) (hs2 : inR s2) {res : (MI) ⊕ (Int × MI)} (h : f_M_fillsWants_b129in88 F x1 s1 s2 I J = some res) (kE : ∀ e : MI, res = .inl e → ((True) → Zt l g φ mu_M_fillsWants 136 [none, none, none] [] (z, e, J, G))) (kS : ∀ s : Int × MI, res = .inr s → (inR s.1) → Zt l g φ mu_M_fillsWants 88 [some (vR g 296), some (vI s.1), none] [] (z, s.2, J, G)) : Zt l g φ mu_M_fillsWants 129 [some (vR g 296), some (vI x1), none] [vI s2, vI s1, vR g 340] (z, I, J, G) := by
  obtain ⟨hg29, h⟩ := guardE h
  refine y_iast dX11_fillsWants_129 sh_340 (by decide) (Nat.le_trans (by decide) hz) hs1 hg29 hs2 ?_
  refine z_iinc (L' := [some (vR g 296), some (vI (w32 (x1 + 1))), none]) dX11_fillsWants_130 rfl rfl rfl rfl ?_
  refine z_goto (tgt := 88) dX11_fillsWants_133 (by decide) ?_
  exact kS _ (someE h).symm (inR_w32 _)
set_option maxHeartbeats 1000000 in
theorem t_M_fillsWants_b128in88 {l : Launch} {g : GX} {φ : CX} {z : Nat} {G : Nat → Nat → Nat} {F : Nat} (hb : cb φ = z) (hz : 353 ≤ z) (hG : lyM G) {x1 : Int} {s1 : Int} {I J : Nat → Nat → Int} (hx1 : inR x1) (hs1 : inR s1) {res : (MI) ⊕ (Int × MI)} (h : f_M_fillsWants_b128in88 F x1 s1 I J = some res) (kE : ∀ e : MI, res = .inl e → ((True) → Zt l g φ mu_M_fillsWants 136 [none, none, none] [] (z, e, J, G))) (kS : ∀ s : Int × MI, res = .inr s → (inR s.1) → Zt l g φ mu_M_fillsWants 88 [some (vR g 296), some (vI s.1), none] [] (z, s.2, J, G)) : Zt l g φ mu_M_fillsWants 128 [some (vR g 296), some (vI x1), none] [vI s1, vR g 340] (z, I, J, G) := by
  refine z_iconst dX11_fillsWants_128 ?_
  exact t_M_fillsWants_b129in88 hb hz hG hx1 hs1 (inRd (x := 0) (by decide)) h kE kS
set_option maxHeartbeats 1000000 in
theorem t_M_fillsWants_L88 {l : Launch} {g : GX} {φ : CX} {z : Nat} {G : Nat → Nat → Nat} {F : Nat} (hb : cb φ = z) (hz : 353 ≤ z) (hG : lyM G) {x1 : Int} {I J : Nat → Nat → Int} (hx1 : inR x1) {res : (MI) ⊕ (Int × MI)} (h : f_M_fillsWants_L88 F x1 I J = some res) (kE : ∀ e : MI, res = .inl e → ((True) → Zt l g φ mu_M_fillsWants 136 [none, none, none] [] (z, e, J, G))) (kS : ∀ s : Int × MI, res = .inr s → (inR s.1) → Zt l g φ mu_M_fillsWants 88 [some (vR g 296), some (vI s.1), none] [] (z, s.2, J, G)) : Zt l g φ mu_M_fillsWants 88 [some (vR g 296), some (vI x1), none] [] (z, I, J, G) := by
  refine z_iload_n dX11_fillsWants_88 rfl ?_
  refine z_bipush dX11_fillsWants_89 (by decide +kernel) ?_
  refine z_icmp_ge (tgt := 136) dX11_fillsWants_91 (by decide) hx1 (inRd (x := 8) (by decide)) (fun hc25 => ?_) (fun hc25 => ?_)
  · replace h := ifT hc25 h
    refine z_weak (L' := [none, none, none]) (lsN (lsN (lsN ls0))) ?_
    exact kE _ (someE h).symm trivial
  replace h := ifF hc25 h
  refine z_aload_n dX11_fillsWants_94 rfl ?_
  refine y_getR dX11_fillsWants_95 cl11 sh_296 (by decide) (Nat.le_trans (by decide) hz) 64 rfl rfl (fl_M_149) (ly_296_64 hG) (by decide) ?_
  refine z_iload_n dX11_fillsWants_98 rfl ?_
  refine z_iload_n dX11_fillsWants_99 rfl ?_
  refine z_aload_n dX11_fillsWants_100 rfl ?_
  refine y_getR dX11_fillsWants_101 cl11 sh_296 (by decide) (Nat.le_trans (by decide) hz) 28 rfl rfl (fl_M_61) (ly_296_28 hG) (by decide) ?_
  refine z_aload_n dX11_fillsWants_104 rfl ?_
  refine z_nm (fun hN26 => ?_)
  refine y_getI dX11_fillsWants_105 cl11 sh_296 (by decide) (Nat.le_trans (by decide) hz) 18 rfl rfl (fl_M_269) ?_
  obtain ⟨hg27, h⟩ := guardE h
  refine y_iald dX11_fillsWants_108 sh_311 (by decide) (Nat.le_trans (by decide) hz) (hN26.1 296 18) hg27 ?_
  refine z_icmp_ge (tgt := 128) dX11_fillsWants_109 (by decide) hx1 (hN26.1 311 ((I 296 18)).toNat) (fun hc28 => ?_) (fun hc28 => ?_)
  · replace h := ifT hc28 h
    exact t_M_fillsWants_b128in88 hb hz hG hx1 hx1 h kE kS
  replace h := ifF hc28 h
  refine z_aload_n dX11_fillsWants_112 rfl ?_
  refine z_iload_n dX11_fillsWants_113 rfl ?_
  obtain ⟨q30, hq31, h⟩ := bindE h
  refine z_callV (As := [vI x1]) (rest := [vI x1, vR g 340]) (s_M_mayThrow hz hG hx1 hq31) dX11_fillsWants_114 mw_M_mayThrow cl11 sh_296 (by decide) (Nat.le_trans (by decide) hz) ml_M_385 im_M_mayThrow se_M_mayThrow rfl rfl rfl rfl (Nat.le_refl _) (Nat.le_of_eq hb.symm) (fun hp32 => ?_)
  show Zt _ _ _ _ 117 _ [vI q30, vI x1, vR g 340] (z, I, J, G)
  refine z_if_eq (tgt := 128) dX11_fillsWants_117 (by decide) (inR_bool hp32) (fun hc33 => ?_) (fun hc33 => ?_)
  · replace h := ifT hc33 h
    exact t_M_fillsWants_b128in88 hb hz hG hx1 hx1 h kE kS
  replace h := ifF hc33 h
  refine z_aload_n dX11_fillsWants_120 rfl ?_
  refine z_iload_n dX11_fillsWants_121 rfl ?_
  obtain ⟨q34, hq35, h⟩ := bindE h
  refine z_callV (As := [vI x1]) (rest := [vI x1, vR g 340]) (s_M_leftOf hz hG hx1 hq35) dX11_fillsWants_122 mw_M_leftOf cl11 sh_296 (by decide) (Nat.le_trans (by decide) hz) ml_M_355 im_M_leftOf se_M_leftOf rfl rfl rfl rfl (Nat.le_refl _) (Nat.le_of_eq hb.symm) (fun hp36 => ?_)
  show Zt _ _ _ _ 125 _ [vI q34, vI x1, vR g 340] (z, I, J, G)
  refine z_goto (tgt := 129) dX11_fillsWants_125 (by decide) ?_
  exact t_M_fillsWants_b129in88 hb hz hG hx1 hx1 hp36 h kE kS
theorem l_M_fillsWants_L88 {l : Launch} {g : GX} {φ : CX} {z : Nat} {G : Nat → Nat → Nat} {F : Nat} (hb : cb φ = z) (hz : 353 ≤ z) (hG : lyM G) {J : Nat → Nat → Int} (n : Nat) (s : Int × MI) (e : MI) (h : iter (fun s : Int × MI => f_M_fillsWants_L88 F s.1 s.2 J) n s = some e) (hs : inR s.1) (k : ((True) → Zt l g φ mu_M_fillsWants 136 [none, none, none] [] (z, e, J, G))) : Zt l g φ mu_M_fillsWants 88 [some (vR g 296), some (vI s.1), none] [] (z, s.2, J, G) := by
  refine iter_ind (Z := fun s : Int × MI => Zt l g φ mu_M_fillsWants 88 [some (vR g 296), some (vI s.1), none] [] (z, s.2, J, G)) (ZE := fun e : MI => ((True) → Zt l g φ mu_M_fillsWants 136 [none, none, none] [] (z, e, J, G))) (Rg := fun s : Int × MI => inR s.1) ?_ n s e h hs k
  intro s r hr hst kE kS
  exact t_M_fillsWants_L88 hb hz hG hr hst kE kS
set_option maxHeartbeats 1000000 in
theorem s_M_fillsWants {l : Launch} {g : GX} {z : Nat} {G : Nat → Nat → Nat} {F : Nat} (hz : 353 ≤ z) (hG : lyM G) {I J : Nat → Nat → Int} {res : MI} (h : f_M_fillsWants F I J = some res) : Spec l g 3 yX11_fillsWants cX11_fillsWants 3 none [vR g 296] (z, I, J, G) none True (z, res, J, G) := by
  refine spec_of (μ := mu_M_fillsWants) (k := 2) (L0 := [some (vR g 296), none, none]) rfl mw_M_fillsWants rfl rfl (Nat.le_refl _) (fun φ hb hE => ?_)
  refine z_aload_n dX11_fillsWants_0 rfl ?_
  obtain ⟨q1, hq2, h⟩ := bindE h
  refine z_callV (As := []) (rest := []) (s_M_findsLack hz hG  hq2) dX11_fillsWants_1 mw_M_findsLack cl11 sh_296 (by decide) (Nat.le_trans (by decide) hz) ml_M_420 im_M_findsLack se_M_findsLack rfl rfl rfl rfl (Nat.le_refl _) (Nat.le_of_eq hb.symm) (fun hp3 => ?_)
  show Zt _ _ _ _ 4 _ [] (z, q1, J, G)
  refine z_aload_n dX11_fillsWants_4 rfl ?_
  refine z_iconst dX11_fillsWants_5 ?_
  refine y_putI dX11_fillsWants_6 cl11 sh_296 (by decide) (Nat.le_trans (by decide) hz) 63 rfl rfl rfl (fl_M_423) rfl rfl (inRd (x := 0) (by decide)) ?_
  refine z_iconst dX11_fillsWants_9 ?_
  refine z_istore_n (L' := [some (vR g 296), some (vI 0), none]) dX11_fillsWants_10 rfl rfl rfl ?_
  obtain ⟨e22, h23, h⟩ := bindE h
  refine l_M_fillsWants_L11 hb hz hG  _ _ _ h23 (inRd (x := 0) (by decide)) ?_
  refine fun h24 => ?_
  refine z_iconst dX11_fillsWants_86 ?_
  refine z_istore_n (L' := [some (vR g 296), some (vI 0), none]) dX11_fillsWants_87 rfl rfl rfl ?_
  obtain ⟨e37, h38, h⟩ := bindE h
  refine l_M_fillsWants_L88 hb hz hG  _ _ _ h38 (inRd (x := 0) (by decide)) ?_
  refine fun h39 => ?_
  obtain rfl := someE h
  exact z_vret dX11_fillsWants_136 hE trivial rfl
set_option maxHeartbeats 1000000 in
theorem t_M_isFit_L13 {l : Launch} {g : GX} {φ : CX} {z : Nat} {G : Nat → Nat → Nat} {F : Nat} (hb : cb φ = z) (hz : 353 ≤ z) (hG : lyM G) {x1 : Int} {x2 : Int} {x3 : Int} {x4 : Int} {I J : Nat → Nat → Int} (hx1 : inR x1) (hx2 : inR x2) (hx3 : inR x3) (hx4 : inR x4) {res : (Int) ⊕ (Int × Int)} (h : f_M_isFit_L13 F x1 x2 x3 x4 I J = some res) (kE : ∀ e : Int, res = .inl e → ((inR e) → Zt l g φ mu_M_isFit 42 [some (vR g 296), some (vI x1), some (vI x2), some (vI e), none] [] (z, I, J, G))) (kS : ∀ s : Int × Int, res = .inr s → (inR s.1 ∧ inR s.2) → Zt l g φ mu_M_isFit 13 [some (vR g 296), some (vI x1), some (vI x2), some (vI s.1), some (vI s.2)] [] (z, I, J, G)) : Zt l g φ mu_M_isFit 13 [some (vR g 296), some (vI x1), some (vI x2), some (vI x3), some (vI x4)] [] (z, I, J, G) := by
  refine z_iload dX11_isFit_13 rfl ?_
  refine z_aload_n dX11_isFit_15 rfl ?_
  refine z_nm (fun hN2 => ?_)
  refine y_getI dX11_isFit_16 cl11 sh_296 (by decide) (Nat.le_trans (by decide) hz) 63 rfl rfl (fl_M_423) ?_
  refine z_icmp_ge (tgt := 42) dX11_isFit_19 (by decide) hx4 (hN2.1 296 63) (fun hc3 => ?_) (fun hc3 => ?_)
  · replace h := ifT hc3 h
    refine z_weak (L' := [some (vR g 296), some (vI x1), some (vI x2), some (vI x3), none]) (lsS (lsS (lsS (lsS (lsN ls0))))) ?_
    exact kE _ (someE h).symm hx3
  replace h := ifF hc3 h
  refine z_aload_n dX11_isFit_22 rfl ?_
  refine y_getR dX11_isFit_23 cl11 sh_296 (by decide) (Nat.le_trans (by decide) hz) 62 rfl rfl (fl_M_146) (ly_296_62 hG) (by decide) ?_
  refine z_iload dX11_isFit_26 rfl ?_
  obtain ⟨hg4, h⟩ := guardE h
  refine y_iald dX11_isFit_28 sh_339 (by decide) (Nat.le_trans (by decide) hz) hx4 hg4 ?_
  refine z_iload_n dX11_isFit_29 rfl ?_
  refine z_icmp_gt (tgt := 36) dX11_isFit_30 (by decide) (hN2.1 339 (x4).toNat) hx2 (fun hc5 => ?_) (fun hc5 => ?_)
  · replace h := ifT hc5 h
    refine z_iinc (L' := [some (vR g 296), some (vI x1), some (vI x2), some (vI x3), some (vI (w32 (x4 + 1)))]) dX11_isFit_36 rfl rfl rfl rfl ?_
    refine z_goto (tgt := 13) dX11_isFit_39 (by decide) ?_
    exact kS _ (someE h).symm ⟨hx3, (inR_w32 _)⟩
  replace h := ifF hc5 h
  refine z_iinc (L' := [some (vR g 296), some (vI x1), some (vI x2), some (vI (w32 (x3 + 1))), some (vI x4)]) dX11_isFit_33 rfl rfl rfl rfl ?_
  refine z_iinc (L' := [some (vR g 296), some (vI x1), some (vI x2), some (vI (w32 (x3 + 1))), some (vI (w32 (x4 + 1)))]) dX11_isFit_36 rfl rfl rfl rfl ?_
  refine z_goto (tgt := 13) dX11_isFit_39 (by decide) ?_
  exact kS _ (someE h).symm ⟨(inR_w32 _), (inR_w32 _)⟩
theorem l_M_isFit_L13 {l : Launch} {g : GX} {φ : CX} {z : Nat} {G : Nat → Nat → Nat} {F : Nat} (hb : cb φ = z) (hz : 353 ≤ z) (hG : lyM G) {x1 : Int} {x2 : Int} {I : Nat → Nat → Int} {J : Nat → Nat → Int} (hx1 : inR x1) (hx2 : inR x2) (n : Nat) (s : Int × Int) (e : Int) (h : iter (fun s : Int × Int => f_M_isFit_L13 F x1 x2 s.1 s.2 I J) n s = some e) (hs : inR s.1 ∧ inR s.2) (k : ((inR e) → Zt l g φ mu_M_isFit 42 [some (vR g 296), some (vI x1), some (vI x2), some (vI e), none] [] (z, I, J, G))) : Zt l g φ mu_M_isFit 13 [some (vR g 296), some (vI x1), some (vI x2), some (vI s.1), some (vI s.2)] [] (z, I, J, G) := by
  refine iter_ind (Z := fun s : Int × Int => Zt l g φ mu_M_isFit 13 [some (vR g 296), some (vI x1), some (vI x2), some (vI s.1), some (vI s.2)] [] (z, I, J, G)) (ZE := fun e : Int => ((inR e) → Zt l g φ mu_M_isFit 42 [some (vR g 296), some (vI x1), some (vI x2), some (vI e), none] [] (z, I, J, G))) (Rg := fun s : Int × Int => inR s.1 ∧ inR s.2) ?_ n s e h hs k
  intro s r hr hst kE kS
  exact t_M_isFit_L13 hb hz hG hx1 hx2 hr.1 hr.2 hst kE kS
set_option maxHeartbeats 1000000 in
theorem t_M_isFit_L45 {l : Launch} {g : GX} {φ : CX} {z : Nat} {G : Nat → Nat → Nat} {F : Nat} (hb : cb φ = z) (hz : 353 ≤ z) (hG : lyM G) {x1 : Int} {x2 : Int} {x3 : Int} {x4 : Int} {I J : Nat → Nat → Int} (hx1 : inR x1) (hx2 : inR x2) (hx3 : inR x3) (hx4 : inR x4) {res : (Int) ⊕ (Int × Int)} (h : f_M_isFit_L45 F x1 x2 x3 x4 I J = some res) (kE : ∀ e : Int, res = .inl e → ((inR e) → Zt l g φ mu_M_isFit 94 [some (vR g 296), some (vI x1), some (vI x2), some (vI e), none] [] (z, I, J, G))) (kS : ∀ s : Int × Int, res = .inr s → (inR s.1 ∧ inR s.2) → Zt l g φ mu_M_isFit 45 [some (vR g 296), some (vI x1), some (vI x2), some (vI s.1), some (vI s.2)] [] (z, I, J, G)) : Zt l g φ mu_M_isFit 45 [some (vR g 296), some (vI x1), some (vI x2), some (vI x3), some (vI x4)] [] (z, I, J, G) := by
  refine z_iload dX11_isFit_45 rfl ?_
  refine z_aload_n dX11_isFit_47 rfl ?_
  refine y_getR dX11_isFit_48 cl11 sh_296 (by decide) (Nat.le_trans (by decide) hz) 28 rfl rfl (fl_M_61) (ly_296_28 hG) (by decide) ?_
  refine z_aload_n dX11_isFit_51 rfl ?_
  refine z_nm (fun hN9 => ?_)
  refine y_getI dX11_isFit_52 cl11 sh_296 (by decide) (Nat.le_trans (by decide) hz) 18 rfl rfl (fl_M_269) ?_
  obtain ⟨hg10, h⟩ := guardE h
  refine y_iald dX11_isFit_55 sh_311 (by decide) (Nat.le_trans (by decide) hz) (hN9.1 296 18) hg10 ?_
  refine z_icmp_ge (tgt := 94) dX11_isFit_56 (by decide) hx4 (hN9.1 311 ((I 296 18)).toNat) (fun hc11 => ?_) (fun hc11 => ?_)
  · replace h := ifT hc11 h
    refine z_weak (L' := [some (vR g 296), some (vI x1), some (vI x2), some (vI x3), none]) (lsS (lsS (lsS (lsS (lsN ls0))))) ?_
    exact kE _ (someE h).symm hx3
  replace h := ifF hc11 h
  refine z_aload_n dX11_isFit_59 rfl ?_
  refine y_getR dX11_isFit_60 cl11 sh_296 (by decide) (Nat.le_trans (by decide) hz) 30 rfl rfl (fl_M_67) (ly_296_30 hG) (by decide) ?_
  refine z_bipush dX11_isFit_63 (by decide +kernel) ?_
  refine z_aload_n dX11_isFit_65 rfl ?_
  refine y_getI dX11_isFit_66 cl11 sh_296 (by decide) (Nat.le_trans (by decide) hz) 18 rfl rfl (fl_M_269) ?_
  refine z_imul dX11_isFit_69 ?_
  refine z_iload dX11_isFit_70 rfl ?_
  refine z_iadd dX11_isFit_72 ?_
  obtain ⟨hg12, h⟩ := guardE h
  refine y_iald dX11_isFit_73 sh_313 (by decide) (Nat.le_trans (by decide) hz) (inR_w32 _) hg12 ?_
  refine z_iload_n dX11_isFit_74 rfl ?_
  refine z_icmp_gt (tgt := 88) dX11_isFit_75 (by decide) (hN9.1 313 ((w32 ((w32 (8 * (I 296 18))) + x4))).toNat) hx2 (fun hc13 => ?_) (fun hc13 => ?_)
  · replace h := ifT hc13 h
    refine z_iinc (L' := [some (vR g 296), some (vI x1), some (vI x2), some (vI x3), some (vI (w32 (x4 + 1)))]) dX11_isFit_88 rfl rfl rfl rfl ?_
    refine z_goto (tgt := 45) dX11_isFit_91 (by decide) ?_
    exact kS _ (someE h).symm ⟨hx3, (inR_w32 _)⟩
  replace h := ifF hc13 h
  refine z_iload_n dX11_isFit_78 rfl ?_
  refine z_aload_n dX11_isFit_79 rfl ?_
  refine y_getR dX11_isFit_80 cl11 sh_296 (by decide) (Nat.le_trans (by decide) hz) 65 rfl rfl (fl_M_152) (ly_296_65 hG) (by decide) ?_
  refine z_iload dX11_isFit_83 rfl ?_
  obtain ⟨hg14, h⟩ := guardE h
  refine y_iald dX11_isFit_85 sh_341 (by decide) (Nat.le_trans (by decide) hz) hx4 hg14 ?_
  refine z_isub dX11_isFit_86 ?_
  refine z_istore_n (L' := [some (vR g 296), some (vI x1), some (vI x2), some (vI (w32 (x3 - (I 341 (x4).toNat)))), some (vI x4)]) dX11_isFit_87 rfl rfl rfl ?_
  refine z_iinc (L' := [some (vR g 296), some (vI x1), some (vI x2), some (vI (w32 (x3 - (I 341 (x4).toNat)))), some (vI (w32 (x4 + 1)))]) dX11_isFit_88 rfl rfl rfl rfl ?_
  refine z_goto (tgt := 45) dX11_isFit_91 (by decide) ?_
  exact kS _ (someE h).symm ⟨(inR_w32 _), (inR_w32 _)⟩
theorem l_M_isFit_L45 {l : Launch} {g : GX} {φ : CX} {z : Nat} {G : Nat → Nat → Nat} {F : Nat} (hb : cb φ = z) (hz : 353 ≤ z) (hG : lyM G) {x1 : Int} {x2 : Int} {I : Nat → Nat → Int} {J : Nat → Nat → Int} (hx1 : inR x1) (hx2 : inR x2) (n : Nat) (s : Int × Int) (e : Int) (h : iter (fun s : Int × Int => f_M_isFit_L45 F x1 x2 s.1 s.2 I J) n s = some e) (hs : inR s.1 ∧ inR s.2) (k : ((inR e) → Zt l g φ mu_M_isFit 94 [some (vR g 296), some (vI x1), some (vI x2), some (vI e), none] [] (z, I, J, G))) : Zt l g φ mu_M_isFit 45 [some (vR g 296), some (vI x1), some (vI x2), some (vI s.1), some (vI s.2)] [] (z, I, J, G) := by
  refine iter_ind (Z := fun s : Int × Int => Zt l g φ mu_M_isFit 45 [some (vR g 296), some (vI x1), some (vI x2), some (vI s.1), some (vI s.2)] [] (z, I, J, G)) (ZE := fun e : Int => ((inR e) → Zt l g φ mu_M_isFit 94 [some (vR g 296), some (vI x1), some (vI x2), some (vI e), none] [] (z, I, J, G))) (Rg := fun s : Int × Int => inR s.1 ∧ inR s.2) ?_ n s e h hs k
  intro s r hr hst kE kS
  exact t_M_isFit_L45 hb hz hG hx1 hx2 hr.1 hr.2 hst kE kS
set_option maxHeartbeats 1000000 in
theorem t_M_isFit_L2 {l : Launch} {g : GX} {φ : CX} {z : Nat} {G : Nat → Nat → Nat} {F : Nat} (hb : cb φ = z) (hz : 353 ≤ z) (hG : lyM G) {x1 : Int} {x2 : Int} {I J : Nat → Nat → Int} (hx1 : inR x1) (hx2 : inR x2) {res : ((Unit) ⊕ (Unit)) ⊕ (Int)} (h : f_M_isFit_L2 F x1 x2 I J = some res) (kE : ∀ e : (Unit) ⊕ (Unit), res = .inl e → ((fun w : (Unit) ⊕ (Unit) => (match w with | .inl e0 => ((True) → Zt l g φ mu_M_isFit 98 [none, none, none, none, none] [] (z, I, J, G)) | .inr o0 => ((True) → Zt l g φ mu_M_isFit 106 [none, none, none, none, none] [] (z, I, J, G)))) e)) (kS : ∀ s : Int, res = .inr s → (inR s) → Zt l g φ mu_M_isFit 2 [some (vR g 296), some (vI x1), some (vI s), none, none] [] (z, I, J, G)) : Zt l g φ mu_M_isFit 2 [some (vR g 296), some (vI x1), some (vI x2), none, none] [] (z, I, J, G) := by
  refine z_iload_n dX11_isFit_2 rfl ?_
  refine z_bipush dX11_isFit_3 (by decide +kernel) ?_
  refine z_icmp_ge (tgt := 106) dX11_isFit_5 (by decide) hx2 (inRd (x := 10) (by decide)) (fun hc1 => ?_) (fun hc1 => ?_)
  · replace h := ifT hc1 h
    refine z_weak (L' := [none, none, none, none, none]) (lsN (lsN (lsN (lsN (lsN ls0))))) ?_
    exact kE _ (someE h).symm trivial
  replace h := ifF hc1 h
  refine z_iconst dX11_isFit_8 ?_
  refine z_istore_n (L' := [some (vR g 296), some (vI x1), some (vI x2), some (vI 0), none]) dX11_isFit_9 rfl rfl rfl ?_
  refine z_iload_n dX11_isFit_10 rfl ?_
  refine z_istore (L' := [some (vR g 296), some (vI x1), some (vI x2), some (vI 0), some (vI x1)]) dX11_isFit_11 rfl rfl rfl ?_
  obtain ⟨e6, h7, h⟩ := bindE h
  refine l_M_isFit_L13 hb hz hG hx1 hx2 _ _ _ h7 ⟨(inRd (x := 0) (by decide)), hx1⟩ ?_
  refine fun h8 => ?_
  refine z_iconst dX11_isFit_42 ?_
  refine z_istore (L' := [some (vR g 296), some (vI x1), some (vI x2), some (vI e6), some (vI 0)]) dX11_isFit_43 rfl rfl rfl ?_
  obtain ⟨e15, h16, h⟩ := bindE h
  refine l_M_isFit_L45 hb hz hG hx1 hx2 _ _ _ h16 ⟨h8, (inRd (x := 0) (by decide))⟩ ?_
  refine fun h17 => ?_
  refine z_iload_n dX11_isFit_94 rfl ?_
  refine z_if_ge (tgt := 100) dX11_isFit_95 (by decide) h17 (fun hc18 => ?_) (fun hc18 => ?_)
  · replace h := ifT hc18 h
    refine z_iinc (L' := [some (vR g 296), some (vI x1), some (vI (w32 (x2 + 1))), some (vI e15), none]) dX11_isFit_100 rfl rfl rfl rfl ?_
    refine z_goto (tgt := 2) dX11_isFit_103 (by decide) ?_
    refine z_weak (L' := [some (vR g 296), some (vI x1), some (vI (w32 (x2 + 1))), none, none]) (lsS (lsS (lsS (lsN (lsN ls0))))) ?_
    exact kS _ (someE h).symm (inR_w32 _)
  replace h := ifF hc18 h
  refine z_weak (L' := [none, none, none, none, none]) (lsN (lsN (lsN (lsN (lsN ls0))))) ?_
  exact kE _ (someE h).symm trivial
theorem l_M_isFit_L2 {l : Launch} {g : GX} {φ : CX} {z : Nat} {G : Nat → Nat → Nat} {F : Nat} (hb : cb φ = z) (hz : 353 ≤ z) (hG : lyM G) {x1 : Int} {I : Nat → Nat → Int} {J : Nat → Nat → Int} (hx1 : inR x1) (n : Nat) (s : Int) (e : (Unit) ⊕ (Unit)) (h : iter (fun s : Int => f_M_isFit_L2 F x1 s I J) n s = some e) (hs : inR s) (k : ((fun w : (Unit) ⊕ (Unit) => (match w with | .inl e0 => ((True) → Zt l g φ mu_M_isFit 98 [none, none, none, none, none] [] (z, I, J, G)) | .inr o0 => ((True) → Zt l g φ mu_M_isFit 106 [none, none, none, none, none] [] (z, I, J, G)))) e)) : Zt l g φ mu_M_isFit 2 [some (vR g 296), some (vI x1), some (vI s), none, none] [] (z, I, J, G) := by
  refine iter_ind (Z := fun s : Int => Zt l g φ mu_M_isFit 2 [some (vR g 296), some (vI x1), some (vI s), none, none] [] (z, I, J, G)) (ZE := fun e : (Unit) ⊕ (Unit) => ((fun w : (Unit) ⊕ (Unit) => (match w with | .inl e0 => ((True) → Zt l g φ mu_M_isFit 98 [none, none, none, none, none] [] (z, I, J, G)) | .inr o0 => ((True) → Zt l g φ mu_M_isFit 106 [none, none, none, none, none] [] (z, I, J, G)))) e)) (Rg := fun s : Int => inR s) ?_ n s e h hs k
  intro s r hr hst kE kS
  exact t_M_isFit_L2 hb hz hG hx1 hr hst kE kS
set_option maxHeartbeats 1000000 in
theorem s_M_isFit {l : Launch} {g : GX} {z : Nat} {G : Nat → Nat → Nat} {F : Nat} (hz : 353 ≤ z) (hG : lyM G) {x1 : Int} {I J : Nat → Nat → Int} (hx1 : inR x1) {res : Int} (h : f_M_isFit F x1 I J = some res) : Spec l g 0 yX11_isFit cX11_isFit 5 (some .boolean) [vR g 296, vI x1] (z, I, J, G) (some (vI res)) (res = 0 ∨ res = 1) (z, I, J, G) := by
  refine spec_of (μ := mu_M_isFit) (k := 3) (L0 := [some (vR g 296), some (vI x1), none, none, none]) rfl mw_M_isFit rfl rfl (Nat.le_refl _) (fun φ hb hE => ?_)
  refine z_iconst dX11_isFit_0 ?_
  refine z_istore_n (L' := [some (vR g 296), some (vI x1), some (vI 1), none, none]) dX11_isFit_1 rfl rfl rfl ?_
  obtain ⟨e19, h20, h⟩ := bindE h
  rcases e19 with e21 | o22
  · refine l_M_isFit_L2 hb hz hG hx1 _ _ _ h20 (inRd (x := 1) (by decide)) ?_
    refine fun h23 => ?_
    refine z_iconst dX11_isFit_98 ?_
    obtain rfl := someE h
    exact z_zret dX11_isFit_99 hE b01_0 b01_0 rfl
  refine l_M_isFit_L2 hb hz hG hx1 _ _ _ h20 (inRd (x := 1) (by decide)) ?_
  refine fun h24 => ?_
  refine z_iconst dX11_isFit_106 ?_
  obtain rfl := someE h
  exact z_zret dX11_isFit_107 hE b01_1 b01_1 rfl
set_option maxHeartbeats 1000000 in
theorem t_M_leastGrief_L12 {l : Launch} {g : GX} {φ : CX} {z : Nat} {G : Nat → Nat → Nat} {F : Nat} (hb : cb φ = z) (hz : 353 ≤ z) (hG : lyM G) {x1 : Int} {x2 : Int} {x3 : Int} {x4 : Int} {I J : Nat → Nat → Int} (hx1 : inR x1) (hx2 : inR x2) (hx3 : inR x3) (hx4 : inR x4) {res : (MI) ⊕ (Int × MI)} (h : f_M_leastGrief_L12 F x1 x2 x3 x4 I J = some res) (kE : ∀ e : MI, res = .inl e → ((True) → Zt l g φ mu_M_leastGrief 33 [some (vR g 296), some (vI x1), some (vI x2), some (vI x3), none, none] [] (z, e, J, G))) (kS : ∀ s : Int × MI, res = .inr s → (inR s.1) → Zt l g φ mu_M_leastGrief 12 [some (vR g 296), some (vI x1), some (vI x2), some (vI x3), some (vI s.1), none] [] (z, s.2, J, G)) : Zt l g φ mu_M_leastGrief 12 [some (vR g 296), some (vI x1), some (vI x2), some (vI x3), some (vI x4), none] [] (z, I, J, G) := by
  refine z_iload dX11_leastGrief_12 rfl ?_
  refine z_bipush dX11_leastGrief_14 (by decide +kernel) ?_
  refine z_icmp_ge (tgt := 33) dX11_leastGrief_16 (by decide) hx4 (inRd (x := 8) (by decide)) (fun hc2 => ?_) (fun hc2 => ?_)
  · replace h := ifT hc2 h
    refine z_weak (L' := [some (vR g 296), some (vI x1), some (vI x2), some (vI x3), none, none]) (lsS (lsS (lsS (lsS (lsN (lsN ls0)))))) ?_
    exact kE _ (someE h).symm trivial
  replace h := ifF hc2 h
  refine z_aload_n dX11_leastGrief_19 rfl ?_
  refine y_getR dX11_leastGrief_20 cl11 sh_296 (by decide) (Nat.le_trans (by decide) hz) 65 rfl rfl (fl_M_152) (ly_296_65 hG) (by decide) ?_
  refine z_iload dX11_leastGrief_23 rfl ?_
  refine z_iconst dX11_leastGrief_25 ?_
  obtain ⟨hg3, h⟩ := guardE h
  refine y_iast dX11_leastGrief_26 sh_341 (by decide) (Nat.le_trans (by decide) hz) hx4 hg3 (inRd (x := 0) (by decide)) ?_
  refine z_iinc (L' := [some (vR g 296), some (vI x1), some (vI x2), some (vI x3), some (vI (w32 (x4 + 1))), none]) dX11_leastGrief_27 rfl rfl rfl rfl ?_
  refine z_goto (tgt := 12) dX11_leastGrief_30 (by decide) ?_
  exact kS _ (someE h).symm (inR_w32 _)
theorem l_M_leastGrief_L12 {l : Launch} {g : GX} {φ : CX} {z : Nat} {G : Nat → Nat → Nat} {F : Nat} (hb : cb φ = z) (hz : 353 ≤ z) (hG : lyM G) {x1 : Int} {x2 : Int} {x3 : Int} {J : Nat → Nat → Int} (hx1 : inR x1) (hx2 : inR x2) (hx3 : inR x3) (n : Nat) (s : Int × MI) (e : MI) (h : iter (fun s : Int × MI => f_M_leastGrief_L12 F x1 x2 x3 s.1 s.2 J) n s = some e) (hs : inR s.1) (k : ((True) → Zt l g φ mu_M_leastGrief 33 [some (vR g 296), some (vI x1), some (vI x2), some (vI x3), none, none] [] (z, e, J, G))) : Zt l g φ mu_M_leastGrief 12 [some (vR g 296), some (vI x1), some (vI x2), some (vI x3), some (vI s.1), none] [] (z, s.2, J, G) := by
  refine iter_ind (Z := fun s : Int × MI => Zt l g φ mu_M_leastGrief 12 [some (vR g 296), some (vI x1), some (vI x2), some (vI x3), some (vI s.1), none] [] (z, s.2, J, G)) (ZE := fun e : MI => ((True) → Zt l g φ mu_M_leastGrief 33 [some (vR g 296), some (vI x1), some (vI x2), some (vI x3), none, none] [] (z, e, J, G))) (Rg := fun s : Int × MI => inR s.1) ?_ n s e h hs k
  intro s r hr hst kE kS
  exact t_M_leastGrief_L12 hb hz hG hx1 hx2 hx3 hr hst kE kS
set_option maxHeartbeats 1000000 in
theorem t_M_leastGrief_L83 {l : Launch} {g : GX} {φ : CX} {z : Nat} {G : Nat → Nat → Nat} {F : Nat} (hb : cb φ = z) (hz : 353 ≤ z) (hG : lyM G) {x1 : Int} {x2 : Int} {x3 : Int} {x4 : Int} {x5 : Int} {I J : Nat → Nat → Int} (hx1 : inR x1) (hx2 : inR x2) (hx3 : inR x3) (hx4 : inR x4) (hx5 : inR x5) {res : ((Int × Int × MI) ⊕ (Int × Int × MI)) ⊕ (Int × Int × MI)} (h : f_M_leastGrief_L83 F x1 x2 x3 x4 x5 I J = some res) (kE : ∀ e : (Int × Int × MI) ⊕ (Int × Int × MI), res = .inl e → ((fun w : (Int × Int × MI) ⊕ (Int × Int × MI) => (match w with | .inl e0 => ((inR e0.1 ∧ inR e0.2.1) → Zt l g φ mu_M_leastGrief 123 [some (vR g 296), some (vI x1), some (vI e0.1), some (vI e0.2.1), some (vI x4), some (vI x5)] [] (z, e0.2.2, J, G)) | .inr o0 => ((inR o0.1 ∧ inR o0.2.1) → Zt l g φ mu_M_leastGrief 148 [some (vR g 296), some (vI x1), some (vI o0.1), some (vI o0.2.1), some (vI x4), some (vI x5)] [] (z, o0.2.2, J, G)))) e)) (kS : ∀ s : Int × Int × MI, res = .inr s → (inR s.1 ∧ inR s.2.1) → Zt l g φ mu_M_leastGrief 83 [some (vR g 296), some (vI x1), some (vI s.1), some (vI s.2.1), some (vI x4), some (vI x5)] [] (z, s.2.2, J, G)) : Zt l g φ mu_M_leastGrief 83 [some (vR g 296), some (vI x1), some (vI x2), some (vI x3), some (vI x4), some (vI x5)] [] (z, I, J, G) := by
  refine z_aload_n dX11_leastGrief_83 rfl ?_
  refine y_getR dX11_leastGrief_84 cl11 sh_296 (by decide) (Nat.le_trans (by decide) hz) 65 rfl rfl (fl_M_152) (ly_296_65 hG) (by decide) ?_
  refine z_iload dX11_leastGrief_87 rfl ?_
  obtain ⟨hg13, h⟩ := guardE h
  refine z_nm (fun hN14 => ?_)
  refine y_iald dX11_leastGrief_89 sh_341 (by decide) (Nat.le_trans (by decide) hz) hx5 hg13 ?_
  refine z_aload_n dX11_leastGrief_90 rfl ?_
  refine y_getR dX11_leastGrief_91 cl11 sh_296 (by decide) (Nat.le_trans (by decide) hz) 64 rfl rfl (fl_M_149) (ly_296_64 hG) (by decide) ?_
  refine z_iload dX11_leastGrief_94 rfl ?_
  refine y_iald dX11_leastGrief_96 sh_340 (by decide) (Nat.le_trans (by decide) hz) hx5 hg13 ?_
  refine z_icmp_ge (tgt := 148) dX11_leastGrief_97 (by decide) (hN14.1 341 (x5).toNat) (hN14.1 340 (x5).toNat) (fun hc15 => ?_) (fun hc15 => ?_)
  · replace h := ifT hc15 h
    exact kE _ (someE h).symm ⟨hx2, hx3⟩
  replace h := ifF hc15 h
  refine z_iload_n dX11_leastGrief_100 rfl ?_
  refine z_if_le (tgt := 148) dX11_leastGrief_101 (by decide) hx2 (fun hc16 => ?_) (fun hc16 => ?_)
  · replace h := ifT hc16 h
    exact kE _ (someE h).symm ⟨hx2, hx3⟩
  replace h := ifF hc16 h
  refine z_aload_n dX11_leastGrief_104 rfl ?_
  refine y_getR dX11_leastGrief_105 cl11 sh_296 (by decide) (Nat.le_trans (by decide) hz) 65 rfl rfl (fl_M_152) (ly_296_65 hG) (by decide) ?_
  refine z_iload dX11_leastGrief_108 rfl ?_
  refine z_dup2 dX11_leastGrief_110 rfl rfl ?_
  refine y_iald dX11_leastGrief_111 sh_341 (by decide) (Nat.le_trans (by decide) hz) hx5 hg13 ?_
  refine z_iconst dX11_leastGrief_112 ?_
  refine z_iadd dX11_leastGrief_113 ?_
  refine y_iast dX11_leastGrief_114 sh_341 (by decide) (Nat.le_trans (by decide) hz) hx5 hg13 (inR_w32 _) ?_
  refine z_aload_n dX11_leastGrief_115 rfl ?_
  refine z_iload_n dX11_leastGrief_116 rfl ?_
  obtain ⟨q17, hq18, h⟩ := bindE h
  refine z_callV (As := [vI x1]) (rest := []) (s_M_isFit hz hG hx1 hq18) dX11_leastGrief_117 mw_M_isFit cl11 sh_296 (by decide) (Nat.le_trans (by decide) hz) ml_M_429 im_M_isFit se_M_isFit rfl rfl rfl rfl (Nat.le_refl _) (Nat.le_of_eq hb.symm) (fun hp19 => ?_)
  show Zt _ _ _ _ 120 _ [vI q17] (z, (up2 I 341 (x5).toNat (w32 ((I 341 (x5).toNat) + 1))), J, G)
  refine z_if_ne (tgt := 137) dX11_leastGrief_120 (by decide) (inR_bool hp19) (fun hc20 => ?_) (fun hc20 => ?_)
  · replace h := ifT hc20 h
    refine z_iinc (L' := [some (vR g 296), some (vI x1), some (vI (w32 (x2 + (-1)))), some (vI x3), some (vI x4), some (vI x5)]) dX11_leastGrief_137 rfl rfl rfl rfl ?_
    refine z_iload_n dX11_leastGrief_140 rfl ?_
    refine z_iload dX11_leastGrief_141 rfl ?_
    refine z_iadd dX11_leastGrief_143 ?_
    refine z_istore_n (L' := [some (vR g 296), some (vI x1), some (vI (w32 (x2 + (-1)))), some (vI (w32 (x3 + x4))), some (vI x4), some (vI x5)]) dX11_leastGrief_144 rfl rfl rfl ?_
    refine z_goto (tgt := 83) dX11_leastGrief_145 (by decide) ?_
    exact kS _ (someE h).symm ⟨(inR_w32 _), (inR_w32 _)⟩
  replace h := ifF (fun q => q hc20) h
  exact kE _ (someE h).symm ⟨hx2, hx3⟩
theorem l_M_leastGrief_L83 {l : Launch} {g : GX} {φ : CX} {z : Nat} {G : Nat → Nat → Nat} {F : Nat} (hb : cb φ = z) (hz : 353 ≤ z) (hG : lyM G) {x1 : Int} {x4 : Int} {x5 : Int} {J : Nat → Nat → Int} (hx1 : inR x1) (hx4 : inR x4) (hx5 : inR x5) (n : Nat) (s : Int × Int × MI) (e : (Int × Int × MI) ⊕ (Int × Int × MI)) (h : iter (fun s : Int × Int × MI => f_M_leastGrief_L83 F x1 s.1 s.2.1 x4 x5 s.2.2 J) n s = some e) (hs : inR s.1 ∧ inR s.2.1) (k : ((fun w : (Int × Int × MI) ⊕ (Int × Int × MI) => (match w with | .inl e0 => ((inR e0.1 ∧ inR e0.2.1) → Zt l g φ mu_M_leastGrief 123 [some (vR g 296), some (vI x1), some (vI e0.1), some (vI e0.2.1), some (vI x4), some (vI x5)] [] (z, e0.2.2, J, G)) | .inr o0 => ((inR o0.1 ∧ inR o0.2.1) → Zt l g φ mu_M_leastGrief 148 [some (vR g 296), some (vI x1), some (vI o0.1), some (vI o0.2.1), some (vI x4), some (vI x5)] [] (z, o0.2.2, J, G)))) e)) : Zt l g φ mu_M_leastGrief 83 [some (vR g 296), some (vI x1), some (vI s.1), some (vI s.2.1), some (vI x4), some (vI x5)] [] (z, s.2.2, J, G) := by
  refine iter_ind (Z := fun s : Int × Int × MI => Zt l g φ mu_M_leastGrief 83 [some (vR g 296), some (vI x1), some (vI s.1), some (vI s.2.1), some (vI x4), some (vI x5)] [] (z, s.2.2, J, G)) (ZE := fun e : (Int × Int × MI) ⊕ (Int × Int × MI) => ((fun w : (Int × Int × MI) ⊕ (Int × Int × MI) => (match w with | .inl e0 => ((inR e0.1 ∧ inR e0.2.1) → Zt l g φ mu_M_leastGrief 123 [some (vR g 296), some (vI x1), some (vI e0.1), some (vI e0.2.1), some (vI x4), some (vI x5)] [] (z, e0.2.2, J, G)) | .inr o0 => ((inR o0.1 ∧ inR o0.2.1) → Zt l g φ mu_M_leastGrief 148 [some (vR g 296), some (vI x1), some (vI o0.1), some (vI o0.2.1), some (vI x4), some (vI x5)] [] (z, o0.2.2, J, G)))) e)) (Rg := fun s : Int × Int × MI => inR s.1 ∧ inR s.2.1) ?_ n s e h hs k
  intro s r hr hst kE kS
  exact t_M_leastGrief_L83 hb hz hG hx1 hr.1 hr.2 hx4 hx5 hst kE kS
set_option maxHeartbeats 1000000 in
theorem t_M_leastGrief_L46 {l : Launch} {g : GX} {φ : CX} {z : Nat} {G : Nat → Nat → Nat} {F : Nat} (hb : cb φ = z) (hz : 353 ≤ z) (hG : lyM G) {x1 : Int} {x2 : Int} {x3 : Int} {x4 : Int} {x5 : Int} {I J : Nat → Nat → Int} (hx1 : inR x1) (hx2 : inR x2) (hx3 : inR x3) (hx4 : inR x4) (hx5 : inR x5) {res : (Int × Int × MI) ⊕ (Int × Int × Int × MI)} (h : f_M_leastGrief_L46 F x1 x2 x3 x4 x5 I J = some res) (kE : ∀ e : Int × Int × MI, res = .inl e → ((inR e.1 ∧ inR e.2.1) → Zt l g φ mu_M_leastGrief 154 [some (vR g 296), some (vI x1), some (vI e.1), some (vI e.2.1), some (vI x4), none] [] (z, e.2.2, J, G))) (kS : ∀ s : Int × Int × Int × MI, res = .inr s → (inR s.1 ∧ inR s.2.1 ∧ inR s.2.2.1) → Zt l g φ mu_M_leastGrief 46 [some (vR g 296), some (vI x1), some (vI s.1), some (vI s.2.1), some (vI x4), some (vI s.2.2.1)] [] (z, s.2.2.2, J, G)) : Zt l g φ mu_M_leastGrief 46 [some (vR g 296), some (vI x1), some (vI x2), some (vI x3), some (vI x4), some (vI x5)] [] (z, I, J, G) := by
  refine z_iload dX11_leastGrief_46 rfl ?_
  refine z_aload_n dX11_leastGrief_48 rfl ?_
  refine y_getR dX11_leastGrief_49 cl11 sh_296 (by decide) (Nat.le_trans (by decide) hz) 28 rfl rfl (fl_M_61) (ly_296_28 hG) (by decide) ?_
  refine z_aload_n dX11_leastGrief_52 rfl ?_
  refine z_nm (fun hN8 => ?_)
  refine y_getI dX11_leastGrief_53 cl11 sh_296 (by decide) (Nat.le_trans (by decide) hz) 18 rfl rfl (fl_M_269) ?_
  obtain ⟨hg9, h⟩ := guardE h
  refine y_iald dX11_leastGrief_56 sh_311 (by decide) (Nat.le_trans (by decide) hz) (hN8.1 296 18) hg9 ?_
  refine z_icmp_ge (tgt := 154) dX11_leastGrief_57 (by decide) hx5 (hN8.1 311 ((I 296 18)).toNat) (fun hc10 => ?_) (fun hc10 => ?_)
  · replace h := ifT hc10 h
    refine z_weak (L' := [some (vR g 296), some (vI x1), some (vI x2), some (vI x3), some (vI x4), none]) (lsS (lsS (lsS (lsS (lsS (lsN ls0)))))) ?_
    exact kE _ (someE h).symm ⟨hx2, hx3⟩
  replace h := ifF hc10 h
  refine z_aload_n dX11_leastGrief_60 rfl ?_
  refine y_getR dX11_leastGrief_61 cl11 sh_296 (by decide) (Nat.le_trans (by decide) hz) 32 rfl rfl (fl_M_73) (ly_296_32 hG) (by decide) ?_
  refine z_bipush dX11_leastGrief_64 (by decide +kernel) ?_
  refine z_aload_n dX11_leastGrief_66 rfl ?_
  refine y_getI dX11_leastGrief_67 cl11 sh_296 (by decide) (Nat.le_trans (by decide) hz) 18 rfl rfl (fl_M_269) ?_
  refine z_imul dX11_leastGrief_70 ?_
  refine z_iload dX11_leastGrief_71 rfl ?_
  refine z_iadd dX11_leastGrief_73 ?_
  obtain ⟨hg11, h⟩ := guardE h
  refine y_iald dX11_leastGrief_74 sh_315 (by decide) (Nat.le_trans (by decide) hz) (inR_w32 _) hg11 ?_
  refine z_iload dX11_leastGrief_75 rfl ?_
  refine z_icmp_eq (tgt := 83) dX11_leastGrief_77 (by decide) (hN8.1 315 ((w32 ((w32 (8 * (I 296 18))) + x5))).toNat) hx4 (fun hc12 => ?_) (fun hc12 => ?_)
  · replace h := ifT hc12 h
    obtain ⟨e21, h22, h⟩ := bindE h
    rcases e21 with e23 | o24
    · refine l_M_leastGrief_L83 hb hz hG hx1 hx4 hx5 _ _ _ h22 ⟨hx2, hx3⟩ ?_
      refine fun h25 => ?_
      refine z_aload_n dX11_leastGrief_123 rfl ?_
      refine y_getR dX11_leastGrief_124 cl11 sh_296 (by decide) (Nat.le_trans (by decide) hz) 65 rfl rfl (fl_M_152) (ly_296_65 hG) (by decide) ?_
      refine z_iload dX11_leastGrief_127 rfl ?_
      refine z_dup2 dX11_leastGrief_129 rfl rfl ?_
      obtain ⟨hg26, h⟩ := guardE h
      refine z_nm (fun hN27 => ?_)
      refine y_iald dX11_leastGrief_130 sh_341 (by decide) (Nat.le_trans (by decide) hz) hx5 hg26 ?_
      refine z_iconst dX11_leastGrief_131 ?_
      refine z_isub dX11_leastGrief_132 ?_
      refine y_iast dX11_leastGrief_133 sh_341 (by decide) (Nat.le_trans (by decide) hz) hx5 hg26 (inR_w32 _) ?_
      refine z_goto (tgt := 148) dX11_leastGrief_134 (by decide) ?_
      refine z_iinc (L' := [some (vR g 296), some (vI x1), some (vI e23.1), some (vI e23.2.1), some (vI x4), some (vI (w32 (x5 + 1)))]) dX11_leastGrief_148 rfl rfl rfl rfl ?_
      refine z_goto (tgt := 46) dX11_leastGrief_151 (by decide) ?_
      exact kS _ (someE h).symm ⟨h25.1, h25.2, (inR_w32 _)⟩
    refine l_M_leastGrief_L83 hb hz hG hx1 hx4 hx5 _ _ _ h22 ⟨hx2, hx3⟩ ?_
    refine fun h28 => ?_
    refine z_iinc (L' := [some (vR g 296), some (vI x1), some (vI o24.1), some (vI o24.2.1), some (vI x4), some (vI (w32 (x5 + 1)))]) dX11_leastGrief_148 rfl rfl rfl rfl ?_
    refine z_goto (tgt := 46) dX11_leastGrief_151 (by decide) ?_
    exact kS _ (someE h).symm ⟨h28.1, h28.2, (inR_w32 _)⟩
  replace h := ifF hc12 h
  refine z_goto (tgt := 148) dX11_leastGrief_80 (by decide) ?_
  refine z_iinc (L' := [some (vR g 296), some (vI x1), some (vI x2), some (vI x3), some (vI x4), some (vI (w32 (x5 + 1)))]) dX11_leastGrief_148 rfl rfl rfl rfl ?_
  refine z_goto (tgt := 46) dX11_leastGrief_151 (by decide) ?_
  exact kS _ (someE h).symm ⟨hx2, hx3, (inR_w32 _)⟩
theorem l_M_leastGrief_L46 {l : Launch} {g : GX} {φ : CX} {z : Nat} {G : Nat → Nat → Nat} {F : Nat} (hb : cb φ = z) (hz : 353 ≤ z) (hG : lyM G) {x1 : Int} {x4 : Int} {J : Nat → Nat → Int} (hx1 : inR x1) (hx4 : inR x4) (n : Nat) (s : Int × Int × Int × MI) (e : Int × Int × MI) (h : iter (fun s : Int × Int × Int × MI => f_M_leastGrief_L46 F x1 s.1 s.2.1 x4 s.2.2.1 s.2.2.2 J) n s = some e) (hs : inR s.1 ∧ inR s.2.1 ∧ inR s.2.2.1) (k : ((inR e.1 ∧ inR e.2.1) → Zt l g φ mu_M_leastGrief 154 [some (vR g 296), some (vI x1), some (vI e.1), some (vI e.2.1), some (vI x4), none] [] (z, e.2.2, J, G))) : Zt l g φ mu_M_leastGrief 46 [some (vR g 296), some (vI x1), some (vI s.1), some (vI s.2.1), some (vI x4), some (vI s.2.2.1)] [] (z, s.2.2.2, J, G) := by
  refine iter_ind (Z := fun s : Int × Int × Int × MI => Zt l g φ mu_M_leastGrief 46 [some (vR g 296), some (vI x1), some (vI s.1), some (vI s.2.1), some (vI x4), some (vI s.2.2.1)] [] (z, s.2.2.2, J, G)) (ZE := fun e : Int × Int × MI => ((inR e.1 ∧ inR e.2.1) → Zt l g φ mu_M_leastGrief 154 [some (vR g 296), some (vI x1), some (vI e.1), some (vI e.2.1), some (vI x4), none] [] (z, e.2.2, J, G))) (Rg := fun s : Int × Int × Int × MI => inR s.1 ∧ inR s.2.1 ∧ inR s.2.2.1) ?_ n s e h hs k
  intro s r hr hst kE kS
  exact t_M_leastGrief_L46 hb hz hG hx1 hr.1 hr.2.1 hx4 hr.2.2 hst kE kS
set_option maxHeartbeats 1000000 in
theorem t_M_leastGrief_L36 {l : Launch} {g : GX} {φ : CX} {z : Nat} {G : Nat → Nat → Nat} {F : Nat} (hb : cb φ = z) (hz : 353 ≤ z) (hG : lyM G) {x1 : Int} {x2 : Int} {x3 : Int} {x4 : Int} {I J : Nat → Nat → Int} (hx1 : inR x1) (hx2 : inR x2) (hx3 : inR x3) (hx4 : inR x4) {res : (Int × Int × MI) ⊕ (Int × Int × Int × MI)} (h : f_M_leastGrief_L36 F x1 x2 x3 x4 I J = some res) (kE : ∀ e : Int × Int × MI, res = .inl e → ((inR e.1 ∧ inR e.2.1) → Zt l g φ mu_M_leastGrief 160 [none, none, some (vI e.1), some (vI e.2.1), none, none] [] (z, e.2.2, J, G))) (kS : ∀ s : Int × Int × Int × MI, res = .inr s → (inR s.1 ∧ inR s.2.1 ∧ inR s.2.2.1) → Zt l g φ mu_M_leastGrief 36 [some (vR g 296), some (vI x1), some (vI s.1), some (vI s.2.1), some (vI s.2.2.1), none] [] (z, s.2.2.2, J, G)) : Zt l g φ mu_M_leastGrief 36 [some (vR g 296), some (vI x1), some (vI x2), some (vI x3), some (vI x4), none] [] (z, I, J, G) := by
  refine z_iload dX11_leastGrief_36 rfl ?_
  refine z_bipush dX11_leastGrief_38 (by decide +kernel) ?_
  refine z_icmp_ge (tgt := 160) dX11_leastGrief_40 (by decide) hx4 (inRd (x := 100) (by decide)) (fun hc7 => ?_) (fun hc7 => ?_)
  · replace h := ifT hc7 h
    refine z_weak (L' := [none, none, some (vI x2), some (vI x3), none, none]) (lsN (lsN (lsS (lsS (lsN (lsN ls0)))))) ?_
    exact kE _ (someE h).symm ⟨hx2, hx3⟩
  replace h := ifF hc7 h
  refine z_iconst dX11_leastGrief_43 ?_
  refine z_istore (L' := [some (vR g 296), some (vI x1), some (vI x2), some (vI x3), some (vI x4), some (vI 0)]) dX11_leastGrief_44 rfl rfl rfl ?_
  obtain ⟨e29, h30, h⟩ := bindE h
  refine l_M_leastGrief_L46 hb hz hG hx1 hx4 _ _ _ h30 ⟨hx2, hx3, (inRd (x := 0) (by decide))⟩ ?_
  refine fun h31 => ?_
  refine z_iinc (L' := [some (vR g 296), some (vI x1), some (vI e29.1), some (vI e29.2.1), some (vI (w32 (x4 + 1))), none]) dX11_leastGrief_154 rfl rfl rfl rfl ?_
  refine z_goto (tgt := 36) dX11_leastGrief_157 (by decide) ?_
  exact kS _ (someE h).symm ⟨h31.1, h31.2, (inR_w32 _)⟩
theorem l_M_leastGrief_L36 {l : Launch} {g : GX} {φ : CX} {z : Nat} {G : Nat → Nat → Nat} {F : Nat} (hb : cb φ = z) (hz : 353 ≤ z) (hG : lyM G) {x1 : Int} {J : Nat → Nat → Int} (hx1 : inR x1) (n : Nat) (s : Int × Int × Int × MI) (e : Int × Int × MI) (h : iter (fun s : Int × Int × Int × MI => f_M_leastGrief_L36 F x1 s.1 s.2.1 s.2.2.1 s.2.2.2 J) n s = some e) (hs : inR s.1 ∧ inR s.2.1 ∧ inR s.2.2.1) (k : ((inR e.1 ∧ inR e.2.1) → Zt l g φ mu_M_leastGrief 160 [none, none, some (vI e.1), some (vI e.2.1), none, none] [] (z, e.2.2, J, G))) : Zt l g φ mu_M_leastGrief 36 [some (vR g 296), some (vI x1), some (vI s.1), some (vI s.2.1), some (vI s.2.2.1), none] [] (z, s.2.2.2, J, G) := by
  refine iter_ind (Z := fun s : Int × Int × Int × MI => Zt l g φ mu_M_leastGrief 36 [some (vR g 296), some (vI x1), some (vI s.1), some (vI s.2.1), some (vI s.2.2.1), none] [] (z, s.2.2.2, J, G)) (ZE := fun e : Int × Int × MI => ((inR e.1 ∧ inR e.2.1) → Zt l g φ mu_M_leastGrief 160 [none, none, some (vI e.1), some (vI e.2.1), none, none] [] (z, e.2.2, J, G))) (Rg := fun s : Int × Int × Int × MI => inR s.1 ∧ inR s.2.1 ∧ inR s.2.2.1) ?_ n s e h hs k
  intro s r hr hst kE kS
  exact t_M_leastGrief_L36 hb hz hG hx1 hr.1 hr.2.1 hr.2.2 hst kE kS
set_option maxHeartbeats 1000000 in
theorem s_M_leastGrief {l : Launch} {g : GX} {z : Nat} {G : Nat → Nat → Nat} {F : Nat} (hz : 353 ≤ z) (hG : lyM G) {x1 : Int} {I J : Nat → Nat → Int} (hx1 : inR x1) {res : Int × MI} (h : f_M_leastGrief F x1 I J = some res) : Spec l g 1 yX11_leastGrief cX11_leastGrief 6 (some .int) [vR g 296, vI x1] (z, I, J, G) (some (vI res.1)) (inR res.1) (z, res.2, J, G) := by
  refine spec_of (μ := mu_M_leastGrief) (k := 4) (L0 := [some (vR g 296), some (vI x1), none, none, none, none]) rfl mw_M_leastGrief rfl rfl (Nat.le_refl _) (fun φ hb hE => ?_)
  refine z_aload_n dX11_leastGrief_0 rfl ?_
  refine z_nm (fun hN1 => ?_)
  refine y_getI dX11_leastGrief_1 cl11 sh_296 (by decide) (Nat.le_trans (by decide) hz) 63 rfl rfl (fl_M_423) ?_
  refine z_iload_n dX11_leastGrief_4 rfl ?_
  refine z_isub dX11_leastGrief_5 ?_
  refine z_istore_n (L' := [some (vR g 296), some (vI x1), some (vI (w32 ((I 296 63) - x1))), none, none, none]) dX11_leastGrief_6 rfl rfl rfl ?_
  refine z_iconst dX11_leastGrief_7 ?_
  refine z_istore_n (L' := [some (vR g 296), some (vI x1), some (vI (w32 ((I 296 63) - x1))), some (vI 0), none, none]) dX11_leastGrief_8 rfl rfl rfl ?_
  refine z_iconst dX11_leastGrief_9 ?_
  refine z_istore (L' := [some (vR g 296), some (vI x1), some (vI (w32 ((I 296 63) - x1))), some (vI 0), some (vI 0), none]) dX11_leastGrief_10 rfl rfl rfl ?_
  obtain ⟨e4, h5, h⟩ := bindE h
  refine l_M_leastGrief_L12 hb hz hG hx1 (inR_w32 _) (inRd (x := 0) (by decide)) _ _ _ h5 (inRd (x := 0) (by decide)) ?_
  refine fun h6 => ?_
  refine z_iconst dX11_leastGrief_33 ?_
  refine z_istore (L' := [some (vR g 296), some (vI x1), some (vI (w32 ((I 296 63) - x1))), some (vI 0), some (vI 0), none]) dX11_leastGrief_34 rfl rfl rfl ?_
  obtain ⟨e32, h33, h⟩ := bindE h
  refine l_M_leastGrief_L36 hb hz hG hx1 _ _ _ h33 ⟨(inR_w32 _), (inRd (x := 0) (by decide)), (inRd (x := 0) (by decide))⟩ ?_
  refine fun h34 => ?_
  refine z_iload_n dX11_leastGrief_160 rfl ?_
  refine z_if_ne (tgt := 168) dX11_leastGrief_161 (by decide) h34.1 (fun hc35 => ?_) (fun hc35 => ?_)
  · replace h := ifT hc35 h
    refine z_iconst dX11_leastGrief_168 ?_
    obtain rfl := someE h
    exact z_iret dX11_leastGrief_169 hE (inRd (x := (-1)) (by decide)) rfl
  replace h := ifF (fun q => q hc35) h
  refine z_iload_n dX11_leastGrief_164 rfl ?_
  refine z_goto (tgt := 169) dX11_leastGrief_165 (by decide) ?_
  obtain rfl := someE h
  exact z_iret dX11_leastGrief_169 hE h34.2 rfl
set_option maxHeartbeats 1000000 in
theorem t_M_findsGivers_L6 {l : Launch} {g : GX} {φ : CX} {z : Nat} {G : Nat → Nat → Nat} {F : Nat} (hb : cb φ = z) (hz : 353 ≤ z) (hG : lyM G) {x1 : Int} {I J : Nat → Nat → Int} (hx1 : inR x1) {res : (MI) ⊕ (Int × MI)} (h : f_M_findsGivers_L6 F x1 I J = some res) (kE : ∀ e : MI, res = .inl e → ((True) → Zt l g φ mu_M_findsGivers 25 [some (vR g 296), none, none, none, none] [] (z, e, J, G))) (kS : ∀ s : Int × MI, res = .inr s → (inR s.1) → Zt l g φ mu_M_findsGivers 6 [some (vR g 296), some (vI s.1), none, none, none] [] (z, s.2, J, G)) : Zt l g φ mu_M_findsGivers 6 [some (vR g 296), some (vI x1), none, none, none] [] (z, I, J, G) := by
  refine z_iload_n dX11_findsGivers_6 rfl ?_
  refine z_bipush dX11_findsGivers_7 (by decide +kernel) ?_
  refine z_icmp_ge (tgt := 25) dX11_findsGivers_9 (by decide) hx1 (inRd (x := 8) (by decide)) (fun hc4 => ?_) (fun hc4 => ?_)
  · replace h := ifT hc4 h
    refine z_weak (L' := [some (vR g 296), none, none, none, none]) (lsS (lsN (lsN (lsN (lsN ls0))))) ?_
    exact kE _ (someE h).symm trivial
  replace h := ifF hc4 h
  refine z_aload_n dX11_findsGivers_12 rfl ?_
  refine y_getR dX11_findsGivers_13 cl11 sh_296 (by decide) (Nat.le_trans (by decide) hz) 67 rfl rfl (fl_M_158) (ly_296_67 hG) (by decide) ?_
  refine z_iload_n dX11_findsGivers_16 rfl ?_
  refine z_iconst dX11_findsGivers_17 ?_
  obtain ⟨hg5, h⟩ := guardE h
  refine y_iast dX11_findsGivers_18 sh_343 (by decide) (Nat.le_trans (by decide) hz) hx1 hg5 (inRd (x := 0) (by decide)) ?_
  refine z_iinc (L' := [some (vR g 296), some (vI (w32 (x1 + 1))), none, none, none]) dX11_findsGivers_19 rfl rfl rfl rfl ?_
  refine z_goto (tgt := 6) dX11_findsGivers_22 (by decide) ?_
  exact kS _ (someE h).symm (inR_w32 _)
theorem l_M_findsGivers_L6 {l : Launch} {g : GX} {φ : CX} {z : Nat} {G : Nat → Nat → Nat} {F : Nat} (hb : cb φ = z) (hz : 353 ≤ z) (hG : lyM G) {J : Nat → Nat → Int} (n : Nat) (s : Int × MI) (e : MI) (h : iter (fun s : Int × MI => f_M_findsGivers_L6 F s.1 s.2 J) n s = some e) (hs : inR s.1) (k : ((True) → Zt l g φ mu_M_findsGivers 25 [some (vR g 296), none, none, none, none] [] (z, e, J, G))) : Zt l g φ mu_M_findsGivers 6 [some (vR g 296), some (vI s.1), none, none, none] [] (z, s.2, J, G) := by
  refine iter_ind (Z := fun s : Int × MI => Zt l g φ mu_M_findsGivers 6 [some (vR g 296), some (vI s.1), none, none, none] [] (z, s.2, J, G)) (ZE := fun e : MI => ((True) → Zt l g φ mu_M_findsGivers 25 [some (vR g 296), none, none, none, none] [] (z, e, J, G))) (Rg := fun s : Int × MI => inR s.1) ?_ n s e h hs k
  intro s r hr hst kE kS
  exact t_M_findsGivers_L6 hb hz hG hr hst kE kS
set_option maxHeartbeats 1000000 in
theorem t_M_findsGivers_L71 {l : Launch} {g : GX} {φ : CX} {z : Nat} {G : Nat → Nat → Nat} {F : Nat} (hb : cb φ = z) (hz : 353 ≤ z) (hG : lyM G) {x1 : Int} {x2 : Int} {x3 : Int} {I J : Nat → Nat → Int} (hx1 : inR x1) (hx2 : inR x2) (hx3 : inR x3) {res : ((Int × Int × MI) ⊕ (MI)) ⊕ (Int × MI)} (h : f_M_findsGivers_L71 F x1 x2 x3 I J = some res) (kE : ∀ e : (Int × Int × MI) ⊕ (MI), res = .inl e → ((fun w : (Int × Int × MI) ⊕ (MI) => (match w with | .inl e0 => ((inR e0.1 ∧ inR e0.2.1) → Zt l g φ mu_M_findsGivers 159 [some (vR g 296), some (vI x1), some (vI x2), some (vI e0.1), some (vI e0.2.1)] [] (z, e0.2.2, J, G)) | .inr o0 => ((True) → Zt l g φ mu_M_findsGivers 193 [some (vR g 296), some (vI x1), some (vI x2), none, none] [] (z, o0, J, G)))) e)) (kS : ∀ s : Int × MI, res = .inr s → (inR s.1) → Zt l g φ mu_M_findsGivers 71 [some (vR g 296), some (vI x1), some (vI x2), some (vI s.1), none] [] (z, s.2, J, G)) : Zt l g φ mu_M_findsGivers 71 [some (vR g 296), some (vI x1), some (vI x2), some (vI x3), none] [] (z, I, J, G) := by
  refine z_iload_n dX11_findsGivers_71 rfl ?_
  refine z_aload_n dX11_findsGivers_72 rfl ?_
  refine y_getR dX11_findsGivers_73 cl11 sh_296 (by decide) (Nat.le_trans (by decide) hz) 28 rfl rfl (fl_M_61) (ly_296_28 hG) (by decide) ?_
  refine z_aload_n dX11_findsGivers_76 rfl ?_
  refine z_nm (fun hN18 => ?_)
  refine y_getI dX11_findsGivers_77 cl11 sh_296 (by decide) (Nat.le_trans (by decide) hz) 18 rfl rfl (fl_M_269) ?_
  obtain ⟨hg19, h⟩ := guardE h
  refine y_iald dX11_findsGivers_80 sh_311 (by decide) (Nat.le_trans (by decide) hz) (hN18.1 296 18) hg19 ?_
  refine z_icmp_ge (tgt := 193) dX11_findsGivers_81 (by decide) hx3 (hN18.1 311 ((I 296 18)).toNat) (fun hc20 => ?_) (fun hc20 => ?_)
  · replace h := ifT hc20 h
    refine z_weak (L' := [some (vR g 296), some (vI x1), some (vI x2), none, none]) (lsS (lsS (lsS (lsN (lsN ls0))))) ?_
    exact kE _ (someE h).symm trivial
  replace h := ifF hc20 h
  refine z_aload_n dX11_findsGivers_84 rfl ?_
  refine y_getR dX11_findsGivers_85 cl11 sh_296 (by decide) (Nat.le_trans (by decide) hz) 64 rfl rfl (fl_M_149) (ly_296_64 hG) (by decide) ?_
  refine z_iload_n dX11_findsGivers_88 rfl ?_
  obtain ⟨hg21, h⟩ := guardE h
  refine y_iald dX11_findsGivers_89 sh_340 (by decide) (Nat.le_trans (by decide) hz) hx3 hg21 ?_
  refine z_if_eq (tgt := 187) dX11_findsGivers_90 (by decide) (hN18.1 340 (x3).toNat) (fun hc22 => ?_) (fun hc22 => ?_)
  · replace h := ifT hc22 h
    refine z_iinc (L' := [some (vR g 296), some (vI x1), some (vI x2), some (vI (w32 (x3 + 1))), none]) dX11_findsGivers_187 rfl rfl rfl rfl ?_
    refine z_goto (tgt := 71) dX11_findsGivers_190 (by decide) ?_
    exact kS _ (someE h).symm (inR_w32 _)
  replace h := ifF hc22 h
  refine z_aload_n dX11_findsGivers_93 rfl ?_
  refine y_getR dX11_findsGivers_94 cl11 sh_296 (by decide) (Nat.le_trans (by decide) hz) 30 rfl rfl (fl_M_67) (ly_296_30 hG) (by decide) ?_
  refine z_bipush dX11_findsGivers_97 (by decide +kernel) ?_
  refine z_aload_n dX11_findsGivers_99 rfl ?_
  refine y_getI dX11_findsGivers_100 cl11 sh_296 (by decide) (Nat.le_trans (by decide) hz) 18 rfl rfl (fl_M_269) ?_
  refine z_imul dX11_findsGivers_103 ?_
  refine z_iload_n dX11_findsGivers_104 rfl ?_
  refine z_iadd dX11_findsGivers_105 ?_
  obtain ⟨hg23, h⟩ := guardE h
  refine y_iald dX11_findsGivers_106 sh_313 (by decide) (Nat.le_trans (by decide) hz) (inR_w32 _) hg23 ?_
  refine z_aload_n dX11_findsGivers_107 rfl ?_
  refine y_getR dX11_findsGivers_108 cl11 sh_296 (by decide) (Nat.le_trans (by decide) hz) 62 rfl rfl (fl_M_146) (ly_296_62 hG) (by decide) ?_
  refine z_iload_n dX11_findsGivers_111 rfl ?_
  obtain ⟨hg24, h⟩ := guardE h
  refine y_iald dX11_findsGivers_112 sh_339 (by decide) (Nat.le_trans (by decide) hz) hx2 hg24 ?_
  refine z_icmp_ge (tgt := 119) dX11_findsGivers_113 (by decide) (hN18.1 313 ((w32 ((w32 (8 * (I 296 18))) + x3))).toNat) (hN18.1 339 (x2).toNat) (fun hc25 => ?_) (fun hc25 => ?_)
  · replace h := ifT hc25 h
    refine z_aload_n dX11_findsGivers_119 rfl ?_
    refine y_getR dX11_findsGivers_120 cl11 sh_296 (by decide) (Nat.le_trans (by decide) hz) 64 rfl rfl (fl_M_149) (ly_296_64 hG) (by decide) ?_
    refine z_iload_n dX11_findsGivers_123 rfl ?_
    refine z_dup2 dX11_findsGivers_124 rfl rfl ?_
    refine y_iald dX11_findsGivers_125 sh_340 (by decide) (Nat.le_trans (by decide) hz) hx3 hg21 ?_
    refine z_iconst dX11_findsGivers_126 ?_
    refine z_isub dX11_findsGivers_127 ?_
    refine y_iast dX11_findsGivers_128 sh_340 (by decide) (Nat.le_trans (by decide) hz) hx3 hg21 (inR_w32 _) ?_
    refine z_aload_n dX11_findsGivers_129 rfl ?_
    refine y_getR dX11_findsGivers_130 cl11 sh_296 (by decide) (Nat.le_trans (by decide) hz) 32 rfl rfl (fl_M_73) (ly_296_32 hG) (by decide) ?_
    refine z_bipush dX11_findsGivers_133 (by decide +kernel) ?_
    refine z_aload_n dX11_findsGivers_135 rfl ?_
    refine z_nm (fun hN26 => ?_)
    refine y_getI dX11_findsGivers_136 cl11 sh_296 (by decide) (Nat.le_trans (by decide) hz) 18 rfl rfl (fl_M_269) ?_
    refine z_imul dX11_findsGivers_139 ?_
    refine z_iload_n dX11_findsGivers_140 rfl ?_
    refine z_iadd dX11_findsGivers_141 ?_
    obtain ⟨hg27, h⟩ := guardE h
    refine y_iald dX11_findsGivers_142 sh_315 (by decide) (Nat.le_trans (by decide) hz) (inR_w32 _) hg27 ?_
    refine z_istore (L' := [some (vR g 296), some (vI x1), some (vI x2), some (vI x3), some (vI ((up2 I 340 (x3).toNat (w32 ((I 340 (x3).toNat) - 1))) 315 ((w32 ((w32 (8 * ((up2 I 340 (x3).toNat (w32 ((I 340 (x3).toNat) - 1))) 296 18))) + x3))).toNat))]) dX11_findsGivers_143 rfl rfl rfl ?_
    refine z_aload_n dX11_findsGivers_145 rfl ?_
    refine z_iload_n dX11_findsGivers_146 rfl ?_
    refine z_iconst dX11_findsGivers_147 ?_
    refine z_iadd dX11_findsGivers_148 ?_
    obtain ⟨q28, hq29, h⟩ := bindE h
    refine z_callV (As := [vI (w32 (x2 + 1))]) (rest := []) (s_M_leastGrief hz hG (inR_w32 _) hq29) dX11_findsGivers_149 mw_M_leastGrief cl11 sh_296 (by decide) (Nat.le_trans (by decide) hz) ml_M_435 im_M_leastGrief se_M_leastGrief rfl rfl rfl rfl (Nat.le_refl _) (Nat.le_of_eq hb.symm) (fun hp30 => ?_)
    show Zt _ _ _ _ 152 _ [vI q28.1] (z, q28.2, J, G)
    refine z_iload_n dX11_findsGivers_152 rfl ?_
    refine z_iload dX11_findsGivers_153 rfl ?_
    refine z_isub dX11_findsGivers_155 ?_
    refine z_icmp_ne (tgt := 177) dX11_findsGivers_156 (by decide) hp30 (inR_w32 _) (fun hc31 => ?_) (fun hc31 => ?_)
    · replace h := ifT hc31 h
      refine z_aload_n dX11_findsGivers_177 rfl ?_
      refine y_getR dX11_findsGivers_178 cl11 sh_296 (by decide) (Nat.le_trans (by decide) hz) 64 rfl rfl (fl_M_149) (ly_296_64 hG) (by decide) ?_
      refine z_iload_n dX11_findsGivers_181 rfl ?_
      refine z_dup2 dX11_findsGivers_182 rfl rfl ?_
      refine z_nm (fun hN32 => ?_)
      refine y_iald dX11_findsGivers_183 sh_340 (by decide) (Nat.le_trans (by decide) hz) hx3 hg21 ?_
      refine z_iconst dX11_findsGivers_184 ?_
      refine z_iadd dX11_findsGivers_185 ?_
      refine y_iast dX11_findsGivers_186 sh_340 (by decide) (Nat.le_trans (by decide) hz) hx3 hg21 (inR_w32 _) ?_
      refine z_iinc (L' := [some (vR g 296), some (vI x1), some (vI x2), some (vI (w32 (x3 + 1))), some (vI ((up2 I 340 (x3).toNat (w32 ((I 340 (x3).toNat) - 1))) 315 ((w32 ((w32 (8 * ((up2 I 340 (x3).toNat (w32 ((I 340 (x3).toNat) - 1))) 296 18))) + x3))).toNat))]) dX11_findsGivers_187 rfl rfl rfl rfl ?_
      refine z_goto (tgt := 71) dX11_findsGivers_190 (by decide) ?_
      refine z_weak (L' := [some (vR g 296), some (vI x1), some (vI x2), some (vI (w32 (x3 + 1))), none]) (lsS (lsS (lsS (lsS (lsN ls0))))) ?_
      exact kS _ (someE h).symm (inR_w32 _)
    replace h := ifF (fun q => q hc31) h
    exact kE _ (someE h).symm ⟨hx3, (hN26.1 315 ((w32 ((w32 (8 * ((up2 I 340 (x3).toNat (w32 ((I 340 (x3).toNat) - 1))) 296 18))) + x3))).toNat)⟩
  replace h := ifF hc25 h
  refine z_goto (tgt := 187) dX11_findsGivers_116 (by decide) ?_
  refine z_iinc (L' := [some (vR g 296), some (vI x1), some (vI x2), some (vI (w32 (x3 + 1))), none]) dX11_findsGivers_187 rfl rfl rfl rfl ?_
  refine z_goto (tgt := 71) dX11_findsGivers_190 (by decide) ?_
  exact kS _ (someE h).symm (inR_w32 _)
theorem l_M_findsGivers_L71 {l : Launch} {g : GX} {φ : CX} {z : Nat} {G : Nat → Nat → Nat} {F : Nat} (hb : cb φ = z) (hz : 353 ≤ z) (hG : lyM G) {x1 : Int} {x2 : Int} {J : Nat → Nat → Int} (hx1 : inR x1) (hx2 : inR x2) (n : Nat) (s : Int × MI) (e : (Int × Int × MI) ⊕ (MI)) (h : iter (fun s : Int × MI => f_M_findsGivers_L71 F x1 x2 s.1 s.2 J) n s = some e) (hs : inR s.1) (k : ((fun w : (Int × Int × MI) ⊕ (MI) => (match w with | .inl e0 => ((inR e0.1 ∧ inR e0.2.1) → Zt l g φ mu_M_findsGivers 159 [some (vR g 296), some (vI x1), some (vI x2), some (vI e0.1), some (vI e0.2.1)] [] (z, e0.2.2, J, G)) | .inr o0 => ((True) → Zt l g φ mu_M_findsGivers 193 [some (vR g 296), some (vI x1), some (vI x2), none, none] [] (z, o0, J, G)))) e)) : Zt l g φ mu_M_findsGivers 71 [some (vR g 296), some (vI x1), some (vI x2), some (vI s.1), none] [] (z, s.2, J, G) := by
  refine iter_ind (Z := fun s : Int × MI => Zt l g φ mu_M_findsGivers 71 [some (vR g 296), some (vI x1), some (vI x2), some (vI s.1), none] [] (z, s.2, J, G)) (ZE := fun e : (Int × Int × MI) ⊕ (MI) => ((fun w : (Int × Int × MI) ⊕ (MI) => (match w with | .inl e0 => ((inR e0.1 ∧ inR e0.2.1) → Zt l g φ mu_M_findsGivers 159 [some (vR g 296), some (vI x1), some (vI x2), some (vI e0.1), some (vI e0.2.1)] [] (z, e0.2.2, J, G)) | .inr o0 => ((True) → Zt l g φ mu_M_findsGivers 193 [some (vR g 296), some (vI x1), some (vI x2), none, none] [] (z, o0, J, G)))) e)) (Rg := fun s : Int × MI => inR s.1) ?_ n s e h hs k
  intro s r hr hst kE kS
  exact t_M_findsGivers_L71 hb hz hG hx1 hx2 hr hst kE kS
set_option maxHeartbeats 1000000 in
theorem t_M_findsGivers_L61 {l : Launch} {g : GX} {φ : CX} {z : Nat} {G : Nat → Nat → Nat} {F : Nat} (hb : cb φ = z) (hz : 353 ≤ z) (hG : lyM G) {x1 : Int} {x2 : Int} {I J : Nat → Nat → Int} (hx1 : inR x1) (hx2 : inR x2) {res : (MI) ⊕ (Int × Int × MI)} (h : f_M_findsGivers_L61 F x1 x2 I J = some res) (kE : ∀ e : MI, res = .inl e → ((True) → Zt l g φ mu_M_findsGivers 199 [none, none, none, none, none] [] (z, e, J, G))) (kS : ∀ s : Int × Int × MI, res = .inr s → (inR s.1 ∧ inR s.2.1) → Zt l g φ mu_M_findsGivers 61 [some (vR g 296), some (vI s.1), some (vI s.2.1), none, none] [] (z, s.2.2, J, G)) : Zt l g φ mu_M_findsGivers 61 [some (vR g 296), some (vI x1), some (vI x2), none, none] [] (z, I, J, G) := by
  refine z_iload_n dX11_findsGivers_61 rfl ?_
  refine z_aload_n dX11_findsGivers_62 rfl ?_
  refine z_nm (fun hN16 => ?_)
  refine y_getI dX11_findsGivers_63 cl11 sh_296 (by decide) (Nat.le_trans (by decide) hz) 63 rfl rfl (fl_M_423) ?_
  refine z_icmp_ge (tgt := 199) dX11_findsGivers_66 (by decide) hx2 (hN16.1 296 63) (fun hc17 => ?_) (fun hc17 => ?_)
  · replace h := ifT hc17 h
    refine z_weak (L' := [none, none, none, none, none]) (lsN (lsN (lsN (lsN (lsN ls0))))) ?_
    exact kE _ (someE h).symm trivial
  replace h := ifF hc17 h
  refine z_iconst dX11_findsGivers_69 ?_
  refine z_istore_n (L' := [some (vR g 296), some (vI x1), some (vI x2), some (vI 0), none]) dX11_findsGivers_70 rfl rfl rfl ?_
  obtain ⟨e33, h34, h⟩ := bindE h
  rcases e33 with e35 | o36
  · refine l_M_findsGivers_L71 hb hz hG hx1 hx2 _ _ _ h34 (inRd (x := 0) (by decide)) ?_
    refine fun h37 => ?_
    refine z_aload_n dX11_findsGivers_159 rfl ?_
    refine y_getR dX11_findsGivers_160 cl11 sh_296 (by decide) (Nat.le_trans (by decide) hz) 67 rfl rfl (fl_M_158) (ly_296_67 hG) (by decide) ?_
    refine z_iload_n dX11_findsGivers_163 rfl ?_
    refine z_dup2 dX11_findsGivers_164 rfl rfl ?_
    obtain ⟨hg38, h⟩ := guardE h
    refine z_nm (fun hN39 => ?_)
    refine y_iald dX11_findsGivers_165 sh_343 (by decide) (Nat.le_trans (by decide) hz) h37.1 hg38 ?_
    refine z_iconst dX11_findsGivers_166 ?_
    refine z_iadd dX11_findsGivers_167 ?_
    refine y_iast dX11_findsGivers_168 sh_343 (by decide) (Nat.le_trans (by decide) hz) h37.1 hg38 (inR_w32 _) ?_
    refine z_iload_n dX11_findsGivers_169 rfl ?_
    refine z_iload dX11_findsGivers_170 rfl ?_
    refine z_isub dX11_findsGivers_172 ?_
    refine z_istore_n (L' := [some (vR g 296), some (vI (w32 (x1 - e35.2.1))), some (vI x2), some (vI e35.1), some (vI e35.2.1)]) dX11_findsGivers_173 rfl rfl rfl ?_
    refine z_goto (tgt := 193) dX11_findsGivers_174 (by decide) ?_
    refine z_iinc (L' := [some (vR g 296), some (vI (w32 (x1 - e35.2.1))), some (vI (w32 (x2 + 1))), some (vI e35.1), some (vI e35.2.1)]) dX11_findsGivers_193 rfl rfl rfl rfl ?_
    refine z_goto (tgt := 61) dX11_findsGivers_196 (by decide) ?_
    refine z_weak (L' := [some (vR g 296), some (vI (w32 (x1 - e35.2.1))), some (vI (w32 (x2 + 1))), none, none]) (lsS (lsS (lsS (lsN (lsN ls0))))) ?_
    exact kS _ (someE h).symm ⟨(inR_w32 _), (inR_w32 _)⟩
  refine l_M_findsGivers_L71 hb hz hG hx1 hx2 _ _ _ h34 (inRd (x := 0) (by decide)) ?_
  refine fun h40 => ?_
  refine z_iinc (L' := [some (vR g 296), some (vI x1), some (vI (w32 (x2 + 1))), none, none]) dX11_findsGivers_193 rfl rfl rfl rfl ?_
  refine z_goto (tgt := 61) dX11_findsGivers_196 (by decide) ?_
  exact kS _ (someE h).symm ⟨hx1, (inR_w32 _)⟩
theorem l_M_findsGivers_L61 {l : Launch} {g : GX} {φ : CX} {z : Nat} {G : Nat → Nat → Nat} {F : Nat} (hb : cb φ = z) (hz : 353 ≤ z) (hG : lyM G) {J : Nat → Nat → Int} (n : Nat) (s : Int × Int × MI) (e : MI) (h : iter (fun s : Int × Int × MI => f_M_findsGivers_L61 F s.1 s.2.1 s.2.2 J) n s = some e) (hs : inR s.1 ∧ inR s.2.1) (k : ((True) → Zt l g φ mu_M_findsGivers 199 [none, none, none, none, none] [] (z, e, J, G))) : Zt l g φ mu_M_findsGivers 61 [some (vR g 296), some (vI s.1), some (vI s.2.1), none, none] [] (z, s.2.2, J, G) := by
  refine iter_ind (Z := fun s : Int × Int × MI => Zt l g φ mu_M_findsGivers 61 [some (vR g 296), some (vI s.1), some (vI s.2.1), none, none] [] (z, s.2.2, J, G)) (ZE := fun e : MI => ((True) → Zt l g φ mu_M_findsGivers 199 [none, none, none, none, none] [] (z, e, J, G))) (Rg := fun s : Int × Int × MI => inR s.1 ∧ inR s.2.1) ?_ n s e h hs k
  intro s r hr hst kE kS
  exact t_M_findsGivers_L61 hb hz hG hr.1 hr.2 hst kE kS
set_option maxHeartbeats 1000000 in
theorem s_M_findsGivers {l : Launch} {g : GX} {z : Nat} {G : Nat → Nat → Nat} {F : Nat} (hz : 353 ≤ z) (hG : lyM G) {I J : Nat → Nat → Int} {res : Int × MI} (h : f_M_findsGivers F I J = some res) : Spec l g 4 yX11_findsGivers cX11_findsGivers 5 (some .boolean) [vR g 296] (z, I, J, G) (some (vI res.1)) (res.1 = 0 ∨ res.1 = 1) (z, res.2, J, G) := by
  refine spec_of (μ := mu_M_findsGivers) (k := 4) (L0 := [some (vR g 296), none, none, none, none]) rfl mw_M_findsGivers rfl rfl (Nat.le_refl _) (fun φ hb hE => ?_)
  refine z_aload_n dX11_findsGivers_0 rfl ?_
  obtain ⟨q1, hq2, h⟩ := bindE h
  refine z_callV (As := []) (rest := []) (s_M_fillsWants hz hG  hq2) dX11_findsGivers_1 mw_M_fillsWants cl11 sh_296 (by decide) (Nat.le_trans (by decide) hz) ml_M_432 im_M_fillsWants se_M_fillsWants rfl rfl rfl rfl (Nat.le_refl _) (Nat.le_of_eq hb.symm) (fun hp3 => ?_)
  show Zt _ _ _ _ 4 _ [] (z, q1, J, G)
  refine z_iconst dX11_findsGivers_4 ?_
  refine z_istore_n (L' := [some (vR g 296), some (vI 0), none, none, none]) dX11_findsGivers_5 rfl rfl rfl ?_
  obtain ⟨e6, h7, h⟩ := bindE h
  refine l_M_findsGivers_L6 hb hz hG  _ _ _ h7 (inRd (x := 0) (by decide)) ?_
  refine fun h8 => ?_
  refine z_aload_n dX11_findsGivers_25 rfl ?_
  refine z_nm (fun hN9 => ?_)
  refine y_getI dX11_findsGivers_26 cl11 sh_296 (by decide) (Nat.le_trans (by decide) hz) 63 rfl rfl (fl_M_423) ?_
  refine z_bipush dX11_findsGivers_29 (by decide +kernel) ?_
  refine z_icmp_le (tgt := 36) dX11_findsGivers_31 (by decide) (hN9.1 296 63) (inRd (x := 72) (by decide)) (fun hc10 => ?_) (fun hc10 => ?_)
  · replace h := ifT hc10 h
    refine z_aload_n dX11_findsGivers_36 rfl ?_
    refine z_aload_n dX11_findsGivers_37 rfl ?_
    refine z_iconst dX11_findsGivers_38 ?_
    obtain ⟨q11, hq12, h⟩ := bindE h
    refine z_callV (As := [vI 0]) (rest := [vR g 296]) (s_M_leastGrief hz hG (inRd (x := 0) (by decide)) hq12) dX11_findsGivers_39 mw_M_leastGrief cl11 sh_296 (by decide) (Nat.le_trans (by decide) hz) ml_M_435 im_M_leastGrief se_M_leastGrief rfl rfl rfl rfl (Nat.le_refl _) (Nat.le_of_eq hb.symm) (fun hp13 => ?_)
    show Zt _ _ _ _ 42 _ [vI q11.1, vR g 296] (z, q11.2, J, G)
    refine y_putI dX11_findsGivers_42 cl11 sh_296 (by decide) (Nat.le_trans (by decide) hz) 68 rfl rfl rfl (fl_M_438) rfl rfl hp13 ?_
    refine z_aload_n dX11_findsGivers_45 rfl ?_
    refine z_nm (fun hN14 => ?_)
    refine y_getI dX11_findsGivers_46 cl11 sh_296 (by decide) (Nat.le_trans (by decide) hz) 68 rfl rfl (fl_M_438) ?_
    refine z_if_ge (tgt := 54) dX11_findsGivers_49 (by decide) (hN14.1 296 68) (fun hc15 => ?_) (fun hc15 => ?_)
    · replace h := ifT hc15 h
      refine z_aload_n dX11_findsGivers_54 rfl ?_
      refine y_getI dX11_findsGivers_55 cl11 sh_296 (by decide) (Nat.le_trans (by decide) hz) 68 rfl rfl (fl_M_438) ?_
      refine z_istore_n (L' := [some (vR g 296), some (vI ((up2 q11.2 296 68 q11.1) 296 68)), none, none, none]) dX11_findsGivers_58 rfl rfl rfl ?_
      refine z_iconst dX11_findsGivers_59 ?_
      refine z_istore_n (L' := [some (vR g 296), some (vI ((up2 q11.2 296 68 q11.1) 296 68)), some (vI 0), none, none]) dX11_findsGivers_60 rfl rfl rfl ?_
      obtain ⟨e41, h42, h⟩ := bindE h
      refine l_M_findsGivers_L61 hb hz hG  _ _ _ h42 ⟨(hN14.1 296 68), (inRd (x := 0) (by decide))⟩ ?_
      refine fun h43 => ?_
      refine z_iconst dX11_findsGivers_199 ?_
      obtain rfl := someE h
      exact z_zret dX11_findsGivers_200 hE b01_1 b01_1 rfl
    replace h := ifF hc15 h
    refine z_iconst dX11_findsGivers_52 ?_
    obtain rfl := someE h
    exact z_zret dX11_findsGivers_53 hE b01_0 b01_0 rfl
  replace h := ifF hc10 h
  refine z_iconst dX11_findsGivers_34 ?_
  obtain rfl := someE h
  exact z_zret dX11_findsGivers_35 hE b01_0 b01_0 rfl
set_option maxHeartbeats 1000000 in
theorem s_M_grief {l : Launch} {g : GX} {z : Nat} {G : Nat → Nat → Nat} {F : Nat} (hz : 353 ≤ z) (hG : lyM G) {I J : Nat → Nat → Int} {res : Int × MI} (h : f_M_grief F I J = some res) : Spec l g 5 yX11_grief cX11_grief 1 (some .int) [vR g 296] (z, I, J, G) (some (vI res.1)) (inR res.1) (z, res.2, J, G) := by
  refine spec_of (μ := mu_M_grief) (k := 0) (L0 := [some (vR g 296)]) rfl mw_M_grief rfl rfl (Nat.le_refl _) (fun φ hb hE => ?_)
  refine z_aload_n dX11_grief_0 rfl ?_
  obtain ⟨q1, hq2, h⟩ := bindE h
  refine z_callV (As := []) (rest := []) (s_M_findsGivers hz hG  hq2) dX11_grief_1 mw_M_findsGivers cl11 sh_296 (by decide) (Nat.le_trans (by decide) hz) ml_M_441 im_M_findsGivers se_M_findsGivers rfl rfl rfl rfl (Nat.le_refl _) (Nat.le_of_eq hb.symm) (fun hp3 => ?_)
  show Zt _ _ _ _ 4 _ [vI q1.1] (z, q1.2, J, G)
  refine z_if_eq (tgt := 14) dX11_grief_4 (by decide) (inR_bool hp3) (fun hc4 => ?_) (fun hc4 => ?_)
  · replace h := ifT hc4 h
    refine z_bipush dX11_grief_14 (by decide +kernel) ?_
    obtain rfl := someE h
    exact z_iret dX11_grief_16 hE (inRd (x := (-2)) (by decide)) rfl
  replace h := ifF hc4 h
  refine z_aload_n dX11_grief_7 rfl ?_
  refine z_nm (fun hN5 => ?_)
  refine y_getI dX11_grief_8 cl11 sh_296 (by decide) (Nat.le_trans (by decide) hz) 68 rfl rfl (fl_M_438) ?_
  refine z_goto (tgt := 16) dX11_grief_11 (by decide) ?_
  obtain rfl := someE h
  exact z_iret dX11_grief_16 hE (hN5.1 296 68) rfl
set_option maxHeartbeats 1000000 in
theorem s_M_gives {l : Launch} {g : GX} {z : Nat} {G : Nat → Nat → Nat} {F : Nat} (hz : 353 ≤ z) (hG : lyM G) {x1 : Int} {I J : Nat → Nat → Int} (hx1 : inR x1) {res : Int × MI} (h : f_M_gives F x1 I J = some res) : Spec l g 5 yX11_gives cX11_gives 2 (some .int) [vR g 296, vI x1] (z, I, J, G) (some (vI res.1)) (inR res.1) (z, res.2, J, G) := by
  refine spec_of (μ := mu_M_gives) (k := 0) (L0 := [some (vR g 296), some (vI x1)]) rfl mw_M_gives rfl rfl (Nat.le_refl _) (fun φ hb hE => ?_)
  refine z_aload_n dX11_gives_0 rfl ?_
  refine z_iload_n dX11_gives_1 rfl ?_
  obtain ⟨q1, hq2, h⟩ := bindE h
  refine z_callV (As := [vI x1]) (rest := []) (s_M_isLeaver hz hG hx1 hq2) dX11_gives_2 mw_M_isLeaver cl11 sh_296 (by decide) (Nat.le_trans (by decide) hz) ml_M_382 im_M_isLeaver se_M_isLeaver rfl rfl rfl rfl (Nat.le_refl _) (Nat.le_of_eq hb.symm) (fun hp3 => ?_)
  show Zt _ _ _ _ 5 _ [vI q1] (z, I, J, G)
  refine z_if_ne (tgt := 10) dX11_gives_5 (by decide) (inR_bool hp3) (fun hc4 => ?_) (fun hc4 => ?_)
  · replace h := ifT hc4 h
    refine z_aload_n dX11_gives_10 rfl ?_
    obtain ⟨q5, hq6, h⟩ := bindE h
    refine z_callV (As := []) (rest := []) (s_M_findsGivers hz hG  hq6) dX11_gives_11 mw_M_findsGivers cl11 sh_296 (by decide) (Nat.le_trans (by decide) hz) ml_M_441 im_M_findsGivers se_M_findsGivers rfl rfl rfl rfl (Nat.le_refl _) (Nat.le_of_eq hb.symm) (fun hp7 => ?_)
    show Zt _ _ _ _ 14 _ [vI q5.1] (z, q5.2, J, G)
    refine z_if_eq (tgt := 26) dX11_gives_14 (by decide) (inR_bool hp7) (fun hc8 => ?_) (fun hc8 => ?_)
    · replace h := ifT hc8 h
      refine z_bipush dX11_gives_26 (by decide +kernel) ?_
      obtain rfl := someE h
      exact z_iret dX11_gives_28 hE (inRd (x := (-2)) (by decide)) rfl
    replace h := ifF hc8 h
    refine z_aload_n dX11_gives_17 rfl ?_
    refine y_getR dX11_gives_18 cl11 sh_296 (by decide) (Nat.le_trans (by decide) hz) 67 rfl rfl (fl_M_158) (ly_296_67 hG) (by decide) ?_
    refine z_iload_n dX11_gives_21 rfl ?_
    obtain ⟨hg9, h⟩ := guardE h
    refine z_nm (fun hN10 => ?_)
    refine y_iald dX11_gives_22 sh_343 (by decide) (Nat.le_trans (by decide) hz) hx1 hg9 ?_
    refine z_goto (tgt := 28) dX11_gives_23 (by decide) ?_
    obtain rfl := someE h
    exact z_iret dX11_gives_28 hE (hN10.1 343 (x1).toNat) rfl
  replace h := ifF (fun q => q hc4) h
  refine z_iconst dX11_gives_8 ?_
  obtain rfl := someE h
  exact z_iret dX11_gives_9 hE (inRd (x := (-1)) (by decide)) rfl
set_option maxHeartbeats 1000000 in
theorem t_M_isOver_b41in2 {l : Launch} {g : GX} {φ : CX} {z : Nat} {G : Nat → Nat → Nat} {F : Nat} (hb : cb φ = z) (hz : 353 ≤ z) (hG : lyM G) {x1 : Int} {s1 : Int} {s2 : Int} {I J : Nat → Nat → Int} (hx1 : inR x1) (hs1 : inR s1) (hs2 : inR s2) (hb2 : s2 = 0 ∨ s2 = 1) {res : (MI) ⊕ (Int × MI)} (h : f_M_isOver_b41in2 F x1 s1 s2 I J = some res) (kE : ∀ e : MI, res = .inl e → ((True) → Zt l g φ mu_M_isOver 55 [some (vR g 296), none] [] (z, e, J, G))) (kS : ∀ s : Int × MI, res = .inr s → (inR s.1) → Zt l g φ mu_M_isOver 2 [some (vR g 296), some (vI s.1)] [] (z, s.2, J, G)) : Zt l g φ mu_M_isOver 41 [some (vR g 296), some (vI x1)] [vI s2, vI s1, vR g 335] (z, I, J, G) := by
  obtain ⟨hg6, h⟩ := guardE h
  refine y_zast dX11_isOver_41 sh_335 (by decide) (Nat.le_trans (by decide) hz) hs1 hg6 hb2 ?_
  refine z_aload_n dX11_isOver_42 rfl ?_
  refine y_getR dX11_isOver_43 cl11 sh_296 (by decide) (Nat.le_trans (by decide) hz) 58 rfl rfl (fl_M_137) (ly_296_58 hG) (by decide) ?_
  refine z_iload_n dX11_isOver_46 rfl ?_
  refine z_iconst dX11_isOver_47 ?_
  obtain ⟨hg7, h⟩ := guardE h
  refine y_iast dX11_isOver_48 sh_336 (by decide) (Nat.le_trans (by decide) hz) hx1 hg7 (inRd (x := 0) (by decide)) ?_
  refine z_iinc (L' := [some (vR g 296), some (vI (w32 (x1 + 1)))]) dX11_isOver_49 rfl rfl rfl rfl ?_
  refine z_goto (tgt := 2) dX11_isOver_52 (by decide) ?_
  exact kS _ (someE h).symm (inR_w32 _)
set_option maxHeartbeats 1000000 in
theorem t_M_isOver_b40in2 {l : Launch} {g : GX} {φ : CX} {z : Nat} {G : Nat → Nat → Nat} {F : Nat} (hb : cb φ = z) (hz : 353 ≤ z) (hG : lyM G) {x1 : Int} {s1 : Int} {I J : Nat → Nat → Int} (hx1 : inR x1) (hs1 : inR s1) {res : (MI) ⊕ (Int × MI)} (h : f_M_isOver_b40in2 F x1 s1 I J = some res) (kE : ∀ e : MI, res = .inl e → ((True) → Zt l g φ mu_M_isOver 55 [some (vR g 296), none] [] (z, e, J, G))) (kS : ∀ s : Int × MI, res = .inr s → (inR s.1) → Zt l g φ mu_M_isOver 2 [some (vR g 296), some (vI s.1)] [] (z, s.2, J, G)) : Zt l g φ mu_M_isOver 40 [some (vR g 296), some (vI x1)] [vI s1, vR g 335] (z, I, J, G) := by
  refine z_iconst dX11_isOver_40 ?_
  exact t_M_isOver_b41in2 hb hz hG hx1 hs1 (inRd (x := 0) (by decide)) b01_0 h kE kS
set_option maxHeartbeats 1000000 in
theorem t_M_isOver_L2 {l : Launch} {g : GX} {φ : CX} {z : Nat} {G : Nat → Nat → Nat} {F : Nat} (hb : cb φ = z) (hz : 353 ≤ z) (hG : lyM G) {x1 : Int} {I J : Nat → Nat → Int} (hx1 : inR x1) {res : (MI) ⊕ (Int × MI)} (h : f_M_isOver_L2 F x1 I J = some res) (kE : ∀ e : MI, res = .inl e → ((True) → Zt l g φ mu_M_isOver 55 [some (vR g 296), none] [] (z, e, J, G))) (kS : ∀ s : Int × MI, res = .inr s → (inR s.1) → Zt l g φ mu_M_isOver 2 [some (vR g 296), some (vI s.1)] [] (z, s.2, J, G)) : Zt l g φ mu_M_isOver 2 [some (vR g 296), some (vI x1)] [] (z, I, J, G) := by
  refine z_iload_n dX11_isOver_2 rfl ?_
  refine z_bipush dX11_isOver_3 (by decide +kernel) ?_
  refine z_icmp_ge (tgt := 55) dX11_isOver_5 (by decide) hx1 (inRd (x := 96) (by decide)) (fun hc1 => ?_) (fun hc1 => ?_)
  · replace h := ifT hc1 h
    refine z_weak (L' := [some (vR g 296), none]) (lsS (lsN ls0)) ?_
    exact kE _ (someE h).symm trivial
  replace h := ifF hc1 h
  refine z_aload_n dX11_isOver_8 rfl ?_
  refine y_getR dX11_isOver_9 cl11 sh_296 (by decide) (Nat.le_trans (by decide) hz) 57 rfl rfl (fl_M_134) (ly_296_57 hG) (by decide) ?_
  refine z_iload_n dX11_isOver_12 rfl ?_
  refine z_aload_n dX11_isOver_13 rfl ?_
  refine z_iload_n dX11_isOver_14 rfl ?_
  refine z_bipush dX11_isOver_15 (by decide +kernel) ?_
  refine z_irem dX11_isOver_17 (inRd (x := 12) (by decide)) (by decide) ?_
  refine z_iload_n dX11_isOver_18 rfl ?_
  refine z_bipush dX11_isOver_19 (by decide +kernel) ?_
  refine z_idiv dX11_isOver_21 (inRd (x := 12) (by decide)) (by decide) ?_
  obtain ⟨q2, hq3, h⟩ := bindE h
  refine z_callV (As := [vI (rem32 x1 12), vI (div32 x1 12)]) (rest := [vI x1, vR g 335]) (s_M_isCell hz hG inR_rem inR_div hq3) dX11_isOver_22 mw_M_isCell cl11 sh_296 (by decide) (Nat.le_trans (by decide) hz) ml_M_369 im_M_isCell se_M_isCell rfl rfl rfl rfl (Nat.le_refl _) (Nat.le_of_eq hb.symm) (fun hp4 => ?_)
  show Zt _ _ _ _ 25 _ [vI q2, vI x1, vR g 335] (z, I, J, G)
  refine z_if_eq (tgt := 40) dX11_isOver_25 (by decide) (inR_bool hp4) (fun hc5 => ?_) (fun hc5 => ?_)
  · replace h := ifT hc5 h
    exact t_M_isOver_b40in2 hb hz hG hx1 hx1 h kE kS
  replace h := ifF hc5 h
  refine z_aload_n dX11_isOver_28 rfl ?_
  refine z_iload_n dX11_isOver_29 rfl ?_
  obtain ⟨q8, hq9, h⟩ := bindE h
  refine z_callV (As := [vI x1]) (rest := [vI x1, vR g 335]) (s_M_isStep hz hG hx1 hq9) dX11_isOver_30 mw_M_isStep cl11 sh_296 (by decide) (Nat.le_trans (by decide) hz) ml_M_376 im_M_isStep se_M_isStep rfl rfl rfl rfl (Nat.le_refl _) (Nat.le_of_eq hb.symm) (fun hp10 => ?_)
  show Zt _ _ _ _ 33 _ [vI q8, vI x1, vR g 335] (z, I, J, G)
  refine z_if_eq (tgt := 40) dX11_isOver_33 (by decide) (inR_bool hp10) (fun hc11 => ?_) (fun hc11 => ?_)
  · replace h := ifT hc11 h
    exact t_M_isOver_b40in2 hb hz hG hx1 hx1 h kE kS
  replace h := ifF hc11 h
  refine z_iconst dX11_isOver_36 ?_
  refine z_goto (tgt := 41) dX11_isOver_37 (by decide) ?_
  exact t_M_isOver_b41in2 hb hz hG hx1 hx1 (inRd (x := 1) (by decide)) b01_1 h kE kS
theorem l_M_isOver_L2 {l : Launch} {g : GX} {φ : CX} {z : Nat} {G : Nat → Nat → Nat} {F : Nat} (hb : cb φ = z) (hz : 353 ≤ z) (hG : lyM G) {J : Nat → Nat → Int} (n : Nat) (s : Int × MI) (e : MI) (h : iter (fun s : Int × MI => f_M_isOver_L2 F s.1 s.2 J) n s = some e) (hs : inR s.1) (k : ((True) → Zt l g φ mu_M_isOver 55 [some (vR g 296), none] [] (z, e, J, G))) : Zt l g φ mu_M_isOver 2 [some (vR g 296), some (vI s.1)] [] (z, s.2, J, G) := by
  refine iter_ind (Z := fun s : Int × MI => Zt l g φ mu_M_isOver 2 [some (vR g 296), some (vI s.1)] [] (z, s.2, J, G)) (ZE := fun e : MI => ((True) → Zt l g φ mu_M_isOver 55 [some (vR g 296), none] [] (z, e, J, G))) (Rg := fun s : Int × MI => inR s.1) ?_ n s e h hs k
  intro s r hr hst kE kS
  exact t_M_isOver_L2 hb hz hG hr hst kE kS
set_option maxHeartbeats 1000000 in
theorem s_M_isOver {l : Launch} {g : GX} {z : Nat} {G : Nat → Nat → Nat} {F : Nat} (hz : 353 ≤ z) (hG : lyM G) {I J : Nat → Nat → Int} {res : Int × MI} (h : f_M_isOver F I J = some res) : Spec l g 2 yX11_isOver cX11_isOver 2 (some .boolean) [vR g 296] (z, I, J, G) (some (vI res.1)) (res.1 = 0 ∨ res.1 = 1) (z, res.2, J, G) := by
  refine spec_of (μ := mu_M_isOver) (k := 1) (L0 := [some (vR g 296), none]) rfl mw_M_isOver rfl rfl (Nat.le_refl _) (fun φ hb hE => ?_)
  refine z_iconst dX11_isOver_0 ?_
  refine z_istore_n (L' := [some (vR g 296), some (vI 0)]) dX11_isOver_1 rfl rfl rfl ?_
  obtain ⟨e12, h13, h⟩ := bindE h
  refine l_M_isOver_L2 hb hz hG  _ _ _ h13 (inRd (x := 0) (by decide)) ?_
  refine fun h14 => ?_
  refine z_aload_n dX11_isOver_55 rfl ?_
  refine z_iconst dX11_isOver_56 ?_
  obtain ⟨q15, hq16, h⟩ := bindE h
  refine z_callV (As := [vI 1]) (rest := []) (s_M_fillsWays hz hG (inRd (x := 1) (by decide)) hq16) dX11_isOver_57 mw_M_fillsWays cl11 sh_296 (by decide) (Nat.le_trans (by decide) hz) ml_M_411 im_M_fillsWays se_M_fillsWays rfl rfl rfl rfl (Nat.le_refl _) (Nat.le_of_eq hb.symm) (fun hp17 => ?_)
  show Zt _ _ _ _ 60 _ [] (z, q15, J, G)
  refine z_aload_n dX11_isOver_60 rfl ?_
  refine y_getR dX11_isOver_61 cl11 sh_296 (by decide) (Nat.le_trans (by decide) hz) 59 rfl rfl (fl_M_140) (ly_296_59 hG) (by decide) ?_
  refine z_bipush dX11_isOver_64 (by decide +kernel) ?_
  refine z_nm (fun hN18 => ?_)
  refine y_iald dX11_isOver_66 sh_337 (by decide) (Nat.le_trans (by decide) hz) (inRd (x := 96) (by decide)) (by decide) ?_
  refine z_ldcw (n := 2000000000) dX11_isOver_67 (tin7 159 (by decide +kernel) rfl) ?_
  refine z_icmp_ge (tgt := 77) dX11_isOver_70 (by decide) (hN18.1 337 96) (inRd (x := 2000000000) (by decide)) (fun hc19 => ?_) (fun hc19 => ?_)
  · replace h := ifT hc19 h
    refine z_iconst dX11_isOver_77 ?_
    obtain rfl := someE h
    exact z_zret dX11_isOver_78 hE b01_0 b01_0 rfl
  replace h := ifF hc19 h
  refine z_iconst dX11_isOver_73 ?_
  refine z_goto (tgt := 78) dX11_isOver_74 (by decide) ?_
  obtain rfl := someE h
  exact z_zret dX11_isOver_78 hE b01_1 b01_1 rfl
set_option maxHeartbeats 1000000 in
theorem t_M_isOverBy_L6 {l : Launch} {g : GX} {φ : CX} {z : Nat} {G : Nat → Nat → Nat} {F : Nat} (hb : cb φ = z) (hz : 353 ≤ z) (hG : lyM G) {x1 : Int} {x2 : Int} {I J : Nat → Nat → Int} (hx1 : inR x1) (hx2 : inR x2) {res : (MI) ⊕ (Int × MI)} (h : f_M_isOverBy_L6 F x1 x2 I J = some res) (kE : ∀ e : MI, res = .inl e → ((True) → Zt l g φ mu_M_isOverBy 25 [some (vR g 296), some (vI x1), none] [] (z, e, J, G))) (kS : ∀ s : Int × MI, res = .inr s → (inR s.1) → Zt l g φ mu_M_isOverBy 6 [some (vR g 296), some (vI x1), some (vI s.1)] [] (z, s.2, J, G)) : Zt l g φ mu_M_isOverBy 6 [some (vR g 296), some (vI x1), some (vI x2)] [] (z, I, J, G) := by
  refine z_iload_n dX11_isOverBy_6 rfl ?_
  refine z_bipush dX11_isOverBy_7 (by decide +kernel) ?_
  refine z_icmp_ge (tgt := 25) dX11_isOverBy_9 (by decide) hx2 (inRd (x := 96) (by decide)) (fun hc4 => ?_) (fun hc4 => ?_)
  · replace h := ifT hc4 h
    refine z_weak (L' := [some (vR g 296), some (vI x1), none]) (lsS (lsS (lsN ls0))) ?_
    exact kE _ (someE h).symm trivial
  replace h := ifF hc4 h
  refine z_aload_n dX11_isOverBy_12 rfl ?_
  refine y_getR dX11_isOverBy_13 cl11 sh_296 (by decide) (Nat.le_trans (by decide) hz) 54 rfl rfl (fl_M_128) (ly_296_54 hG) (by decide) ?_
  refine z_iload_n dX11_isOverBy_16 rfl ?_
  refine z_iconst dX11_isOverBy_17 ?_
  obtain ⟨hg5, h⟩ := guardE h
  refine y_iast dX11_isOverBy_18 sh_333 (by decide) (Nat.le_trans (by decide) hz) hx2 hg5 (inRd (x := 0) (by decide)) ?_
  refine z_iinc (L' := [some (vR g 296), some (vI x1), some (vI (w32 (x2 + 1)))]) dX11_isOverBy_19 rfl rfl rfl rfl ?_
  refine z_goto (tgt := 6) dX11_isOverBy_22 (by decide) ?_
  exact kS _ (someE h).symm (inR_w32 _)
theorem l_M_isOverBy_L6 {l : Launch} {g : GX} {φ : CX} {z : Nat} {G : Nat → Nat → Nat} {F : Nat} (hb : cb φ = z) (hz : 353 ≤ z) (hG : lyM G) {x1 : Int} {J : Nat → Nat → Int} (hx1 : inR x1) (n : Nat) (s : Int × MI) (e : MI) (h : iter (fun s : Int × MI => f_M_isOverBy_L6 F x1 s.1 s.2 J) n s = some e) (hs : inR s.1) (k : ((True) → Zt l g φ mu_M_isOverBy 25 [some (vR g 296), some (vI x1), none] [] (z, e, J, G))) : Zt l g φ mu_M_isOverBy 6 [some (vR g 296), some (vI x1), some (vI s.1)] [] (z, s.2, J, G) := by
  refine iter_ind (Z := fun s : Int × MI => Zt l g φ mu_M_isOverBy 6 [some (vR g 296), some (vI x1), some (vI s.1)] [] (z, s.2, J, G)) (ZE := fun e : MI => ((True) → Zt l g φ mu_M_isOverBy 25 [some (vR g 296), some (vI x1), none] [] (z, e, J, G))) (Rg := fun s : Int × MI => inR s.1) ?_ n s e h hs k
  intro s r hr hst kE kS
  exact t_M_isOverBy_L6 hb hz hG hx1 hr hst kE kS
set_option maxHeartbeats 1000000 in
theorem t_M_isOverBy_L27 {l : Launch} {g : GX} {φ : CX} {z : Nat} {G : Nat → Nat → Nat} {F : Nat} (hb : cb φ = z) (hz : 353 ≤ z) (hG : lyM G) {x1 : Int} {x2 : Int} {I J : Nat → Nat → Int} (hx1 : inR x1) (hx2 : inR x2) {res : (MI) ⊕ (Int × MI)} (h : f_M_isOverBy_L27 F x1 x2 I J = some res) (kE : ∀ e : MI, res = .inl e → ((True) → Zt l g φ mu_M_isOverBy 75 [some (vR g 296), none, none] [] (z, e, J, G))) (kS : ∀ s : Int × MI, res = .inr s → (inR s.1) → Zt l g φ mu_M_isOverBy 27 [some (vR g 296), some (vI x1), some (vI s.1)] [] (z, s.2, J, G)) : Zt l g φ mu_M_isOverBy 27 [some (vR g 296), some (vI x1), some (vI x2)] [] (z, I, J, G) := by
  refine z_iload_n dX11_isOverBy_27 rfl ?_
  refine z_bipush dX11_isOverBy_28 (by decide +kernel) ?_
  refine z_icmp_ge (tgt := 75) dX11_isOverBy_30 (by decide) hx2 (inRd (x := 72) (by decide)) (fun hc9 => ?_) (fun hc9 => ?_)
  · replace h := ifT hc9 h
    refine z_weak (L' := [some (vR g 296), none, none]) (lsS (lsN (lsN ls0))) ?_
    exact kE _ (someE h).symm trivial
  replace h := ifF hc9 h
  refine z_aload_n dX11_isOverBy_33 rfl ?_
  refine y_getR dX11_isOverBy_34 cl11 sh_296 (by decide) (Nat.le_trans (by decide) hz) 53 rfl rfl (fl_M_125) (ly_296_53 hG) (by decide) ?_
  refine z_iload_n dX11_isOverBy_37 rfl ?_
  obtain ⟨hg10, h⟩ := guardE h
  refine z_nm (fun hN11 => ?_)
  refine y_iald dX11_isOverBy_38 sh_332 (by decide) (Nat.le_trans (by decide) hz) hx2 hg10 ?_
  refine z_if_lt (tgt := 69) dX11_isOverBy_39 (by decide) (hN11.1 332 (x2).toNat) (fun hc12 => ?_) (fun hc12 => ?_)
  · replace h := ifT hc12 h
    refine z_iinc (L' := [some (vR g 296), some (vI x1), some (vI (w32 (x2 + 1)))]) dX11_isOverBy_69 rfl rfl rfl rfl ?_
    refine z_goto (tgt := 27) dX11_isOverBy_72 (by decide) ?_
    exact kS _ (someE h).symm (inR_w32 _)
  replace h := ifF hc12 h
  refine z_iload_n dX11_isOverBy_42 rfl ?_
  refine z_iload_n dX11_isOverBy_43 rfl ?_
  refine z_bipush dX11_isOverBy_44 (by decide +kernel) ?_
  refine z_idiv dX11_isOverBy_46 (inRd (x := 9) (by decide)) (by decide) ?_
  refine z_ishr dX11_isOverBy_47 ?_
  refine z_iconst dX11_isOverBy_48 ?_
  refine z_iand dX11_isOverBy_49 ?_
  refine z_iconst dX11_isOverBy_50 ?_
  refine z_icmp_ne (tgt := 69) dX11_isOverBy_51 (by decide) inR_and (inRd (x := 1) (by decide)) (fun hc13 => ?_) (fun hc13 => ?_)
  · replace h := ifT hc13 h
    refine z_iinc (L' := [some (vR g 296), some (vI x1), some (vI (w32 (x2 + 1)))]) dX11_isOverBy_69 rfl rfl rfl rfl ?_
    refine z_goto (tgt := 27) dX11_isOverBy_72 (by decide) ?_
    exact kS _ (someE h).symm (inR_w32 _)
  replace h := ifF (fun q => q hc13) h
  refine z_aload_n dX11_isOverBy_54 rfl ?_
  refine y_getR dX11_isOverBy_55 cl11 sh_296 (by decide) (Nat.le_trans (by decide) hz) 54 rfl rfl (fl_M_128) (ly_296_54 hG) (by decide) ?_
  refine z_aload_n dX11_isOverBy_58 rfl ?_
  refine y_getR dX11_isOverBy_59 cl11 sh_296 (by decide) (Nat.le_trans (by decide) hz) 53 rfl rfl (fl_M_125) (ly_296_53 hG) (by decide) ?_
  refine z_iload_n dX11_isOverBy_62 rfl ?_
  refine y_iald dX11_isOverBy_63 sh_332 (by decide) (Nat.le_trans (by decide) hz) hx2 hg10 ?_
  refine z_dup2 dX11_isOverBy_64 rfl rfl ?_
  obtain ⟨hg14, h⟩ := guardE h
  refine y_iald dX11_isOverBy_65 sh_333 (by decide) (Nat.le_trans (by decide) hz) (hN11.1 332 (x2).toNat) hg14 ?_
  refine z_iconst dX11_isOverBy_66 ?_
  refine z_iadd dX11_isOverBy_67 ?_
  refine y_iast dX11_isOverBy_68 sh_333 (by decide) (Nat.le_trans (by decide) hz) (hN11.1 332 (x2).toNat) hg14 (inR_w32 _) ?_
  refine z_iinc (L' := [some (vR g 296), some (vI x1), some (vI (w32 (x2 + 1)))]) dX11_isOverBy_69 rfl rfl rfl rfl ?_
  refine z_goto (tgt := 27) dX11_isOverBy_72 (by decide) ?_
  exact kS _ (someE h).symm (inR_w32 _)
theorem l_M_isOverBy_L27 {l : Launch} {g : GX} {φ : CX} {z : Nat} {G : Nat → Nat → Nat} {F : Nat} (hb : cb φ = z) (hz : 353 ≤ z) (hG : lyM G) {x1 : Int} {J : Nat → Nat → Int} (hx1 : inR x1) (n : Nat) (s : Int × MI) (e : MI) (h : iter (fun s : Int × MI => f_M_isOverBy_L27 F x1 s.1 s.2 J) n s = some e) (hs : inR s.1) (k : ((True) → Zt l g φ mu_M_isOverBy 75 [some (vR g 296), none, none] [] (z, e, J, G))) : Zt l g φ mu_M_isOverBy 27 [some (vR g 296), some (vI x1), some (vI s.1)] [] (z, s.2, J, G) := by
  refine iter_ind (Z := fun s : Int × MI => Zt l g φ mu_M_isOverBy 27 [some (vR g 296), some (vI x1), some (vI s.1)] [] (z, s.2, J, G)) (ZE := fun e : MI => ((True) → Zt l g φ mu_M_isOverBy 75 [some (vR g 296), none, none] [] (z, e, J, G))) (Rg := fun s : Int × MI => inR s.1) ?_ n s e h hs k
  intro s r hr hst kE kS
  exact t_M_isOverBy_L27 hb hz hG hx1 hr hst kE kS
set_option maxHeartbeats 1000000 in
theorem s_M_isOverBy {l : Launch} {g : GX} {z : Nat} {G : Nat → Nat → Nat} {F : Nat} (hz : 353 ≤ z) (hG : lyM G) {x1 : Int} {I J : Nat → Nat → Int} (hx1 : inR x1) {res : Int × MI} (h : f_M_isOverBy F x1 I J = some res) : Spec l g 3 yX11_isOverBy cX11_isOverBy 3 (some .boolean) [vR g 296, vI x1] (z, I, J, G) (some (vI res.1)) (res.1 = 0 ∨ res.1 = 1) (z, res.2, J, G) := by
  refine spec_of (μ := mu_M_isOverBy) (k := 1) (L0 := [some (vR g 296), some (vI x1), none]) rfl mw_M_isOverBy rfl rfl (Nat.le_refl _) (fun φ hb hE => ?_)
  refine z_aload_n dX11_isOverBy_0 rfl ?_
  obtain ⟨q1, hq2, h⟩ := bindE h
  refine z_callV (As := []) (rest := []) (s_M_copies hz hG  hq2) dX11_isOverBy_1 mw_M_copies cl11 sh_296 (by decide) (Nat.le_trans (by decide) hz) ml_M_373 im_M_copies se_M_copies rfl rfl rfl rfl (Nat.le_refl _) (Nat.le_of_eq hb.symm) (fun hp3 => ?_)
  show Zt _ _ _ _ 4 _ [] (z, q1, J, G)
  refine z_iconst dX11_isOverBy_4 ?_
  refine z_istore_n (L' := [some (vR g 296), some (vI x1), some (vI 0)]) dX11_isOverBy_5 rfl rfl rfl ?_
  obtain ⟨e6, h7, h⟩ := bindE h
  refine l_M_isOverBy_L6 hb hz hG hx1 _ _ _ h7 (inRd (x := 0) (by decide)) ?_
  refine fun h8 => ?_
  refine z_iconst dX11_isOverBy_25 ?_
  refine z_istore_n (L' := [some (vR g 296), some (vI x1), some (vI 0)]) dX11_isOverBy_26 rfl rfl rfl ?_
  obtain ⟨e15, h16, h⟩ := bindE h
  refine l_M_isOverBy_L27 hb hz hG hx1 _ _ _ h16 (inRd (x := 0) (by decide)) ?_
  refine fun h17 => ?_
  refine z_aload_n dX11_isOverBy_75 rfl ?_
  obtain ⟨q18, hq19, h⟩ := bindE h
  refine z_callV (As := []) (rest := []) (s_M_isOver hz hG  hq19) dX11_isOverBy_76 mw_M_isOver cl11 sh_296 (by decide) (Nat.le_trans (by decide) hz) ml_M_445 im_M_isOver se_M_isOver rfl rfl rfl rfl (Nat.le_refl _) (Nat.le_of_eq hb.symm) (fun hp20 => ?_)
  show Zt _ _ _ _ 79 _ [vI q18.1] (z, q18.2, J, G)
  obtain rfl := someE h
  exact z_zret dX11_isOverBy_79 hE hp20 hp20 rfl
set_option maxHeartbeats 1000000 in
theorem t_M_needed_L16 {l : Launch} {g : GX} {φ : CX} {z : Nat} {G : Nat → Nat → Nat} {F : Nat} (hb : cb φ = z) (hz : 353 ≤ z) (hG : lyM G) {x1 : Int} {x2 : Int} {I J : Nat → Nat → Int} (hx1 : inR x1) (hx2 : inR x2) {res : (Int × MI) ⊕ (Int × Int × MI)} (h : f_M_needed_L16 F x1 x2 I J = some res) (kE : ∀ e : Int × MI, res = .inl e → ((inR e.1) → Zt l g φ mu_M_needed 57 [none, some (vI e.1), none] [] (z, e.2, J, G))) (kS : ∀ s : Int × Int × MI, res = .inr s → (inR s.1 ∧ inR s.2.1) → Zt l g φ mu_M_needed 16 [some (vR g 296), some (vI s.1), some (vI s.2.1)] [] (z, s.2.2, J, G)) : Zt l g φ mu_M_needed 16 [some (vR g 296), some (vI x1), some (vI x2)] [] (z, I, J, G) := by
  refine z_iload_n dX11_needed_16 rfl ?_
  refine z_aload_n dX11_needed_17 rfl ?_
  refine y_getR dX11_needed_18 cl11 sh_296 (by decide) (Nat.le_trans (by decide) hz) 28 rfl rfl (fl_M_61) (ly_296_28 hG) (by decide) ?_
  refine z_aload_n dX11_needed_21 rfl ?_
  refine z_nm (fun hN5 => ?_)
  refine y_getI dX11_needed_22 cl11 sh_296 (by decide) (Nat.le_trans (by decide) hz) 18 rfl rfl (fl_M_269) ?_
  obtain ⟨hg6, h⟩ := guardE h
  refine y_iald dX11_needed_25 sh_311 (by decide) (Nat.le_trans (by decide) hz) (hN5.1 296 18) hg6 ?_
  refine z_icmp_ge (tgt := 57) dX11_needed_26 (by decide) hx2 (hN5.1 311 ((I 296 18)).toNat) (fun hc7 => ?_) (fun hc7 => ?_)
  · replace h := ifT hc7 h
    refine z_weak (L' := [none, some (vI x1), none]) (lsN (lsS (lsN ls0))) ?_
    exact kE _ (someE h).symm hx1
  replace h := ifF hc7 h
  refine z_aload_n dX11_needed_29 rfl ?_
  refine z_sipush dX11_needed_30 (by decide +kernel) ?_
  refine z_iconst dX11_needed_33 ?_
  refine z_iload_n dX11_needed_34 rfl ?_
  refine z_ishl dX11_needed_35 ?_
  refine z_iconst dX11_needed_36 ?_
  refine z_ixor dX11_needed_37 ?_
  refine z_iand dX11_needed_38 ?_
  obtain ⟨q8, hq9, h⟩ := bindE h
  refine z_callV (As := [vI (and32 255 (xor32 (shl32 1 x2) (-1)))]) (rest := []) (s_M_isOverBy hz hG inR_and hq9) dX11_needed_39 mw_M_isOverBy cl11 sh_296 (by decide) (Nat.le_trans (by decide) hz) ml_M_448 im_M_isOverBy se_M_isOverBy rfl rfl rfl rfl (Nat.le_refl _) (Nat.le_of_eq hb.symm) (fun hp10 => ?_)
  show Zt _ _ _ _ 42 _ [vI q8.1] (z, q8.2, J, G)
  refine z_if_ne (tgt := 51) dX11_needed_42 (by decide) (inR_bool hp10) (fun hc11 => ?_) (fun hc11 => ?_)
  · replace h := ifT hc11 h
    refine z_iinc (L' := [some (vR g 296), some (vI x1), some (vI (w32 (x2 + 1)))]) dX11_needed_51 rfl rfl rfl rfl ?_
    refine z_goto (tgt := 16) dX11_needed_54 (by decide) ?_
    exact kS _ (someE h).symm ⟨hx1, (inR_w32 _)⟩
  replace h := ifF (fun q => q hc11) h
  refine z_iload_n dX11_needed_45 rfl ?_
  refine z_iconst dX11_needed_46 ?_
  refine z_iload_n dX11_needed_47 rfl ?_
  refine z_ishl dX11_needed_48 ?_
  refine z_ior dX11_needed_49 ?_
  refine z_istore_n (L' := [some (vR g 296), some (vI (or32 x1 (shl32 1 x2))), some (vI x2)]) dX11_needed_50 rfl rfl rfl ?_
  refine z_iinc (L' := [some (vR g 296), some (vI (or32 x1 (shl32 1 x2))), some (vI (w32 (x2 + 1)))]) dX11_needed_51 rfl rfl rfl rfl ?_
  refine z_goto (tgt := 16) dX11_needed_54 (by decide) ?_
  exact kS _ (someE h).symm ⟨inR_or, (inR_w32 _)⟩
theorem l_M_needed_L16 {l : Launch} {g : GX} {φ : CX} {z : Nat} {G : Nat → Nat → Nat} {F : Nat} (hb : cb φ = z) (hz : 353 ≤ z) (hG : lyM G) {J : Nat → Nat → Int} (n : Nat) (s : Int × Int × MI) (e : Int × MI) (h : iter (fun s : Int × Int × MI => f_M_needed_L16 F s.1 s.2.1 s.2.2 J) n s = some e) (hs : inR s.1 ∧ inR s.2.1) (k : ((inR e.1) → Zt l g φ mu_M_needed 57 [none, some (vI e.1), none] [] (z, e.2, J, G))) : Zt l g φ mu_M_needed 16 [some (vR g 296), some (vI s.1), some (vI s.2.1)] [] (z, s.2.2, J, G) := by
  refine iter_ind (Z := fun s : Int × Int × MI => Zt l g φ mu_M_needed 16 [some (vR g 296), some (vI s.1), some (vI s.2.1)] [] (z, s.2.2, J, G)) (ZE := fun e : Int × MI => ((inR e.1) → Zt l g φ mu_M_needed 57 [none, some (vI e.1), none] [] (z, e.2, J, G))) (Rg := fun s : Int × Int × MI => inR s.1 ∧ inR s.2.1) ?_ n s e h hs k
  intro s r hr hst kE kS
  exact t_M_needed_L16 hb hz hG hr.1 hr.2 hst kE kS
set_option maxHeartbeats 1000000 in
theorem s_M_needed {l : Launch} {g : GX} {z : Nat} {G : Nat → Nat → Nat} {F : Nat} (hz : 353 ≤ z) (hG : lyM G) {I J : Nat → Nat → Int} {res : Int × MI} (h : f_M_needed F I J = some res) : Spec l g 4 yX11_needed cX11_needed 3 (some .int) [vR g 296] (z, I, J, G) (some (vI res.1)) (inR res.1) (z, res.2, J, G) := by
  refine spec_of (μ := mu_M_needed) (k := 2) (L0 := [some (vR g 296), none, none]) rfl mw_M_needed rfl rfl (Nat.le_refl _) (fun φ hb hE => ?_)
  refine z_aload_n dX11_needed_0 rfl ?_
  refine z_sipush dX11_needed_1 (by decide +kernel) ?_
  obtain ⟨q1, hq2, h⟩ := bindE h
  refine z_callV (As := [vI 255]) (rest := []) (s_M_isOverBy hz hG (inRd (x := 255) (by decide)) hq2) dX11_needed_4 mw_M_isOverBy cl11 sh_296 (by decide) (Nat.le_trans (by decide) hz) ml_M_448 im_M_isOverBy se_M_isOverBy rfl rfl rfl rfl (Nat.le_refl _) (Nat.le_of_eq hb.symm) (fun hp3 => ?_)
  show Zt _ _ _ _ 7 _ [vI q1.1] (z, q1.2, J, G)
  refine z_if_ne (tgt := 12) dX11_needed_7 (by decide) (inR_bool hp3) (fun hc4 => ?_) (fun hc4 => ?_)
  · replace h := ifT hc4 h
    refine z_iconst dX11_needed_12 ?_
    refine z_istore_n (L' := [some (vR g 296), some (vI 0), none]) dX11_needed_13 rfl rfl rfl ?_
    refine z_iconst dX11_needed_14 ?_
    refine z_istore_n (L' := [some (vR g 296), some (vI 0), some (vI 0)]) dX11_needed_15 rfl rfl rfl ?_
    obtain ⟨e12, h13, h⟩ := bindE h
    refine l_M_needed_L16 hb hz hG  _ _ _ h13 ⟨(inRd (x := 0) (by decide)), (inRd (x := 0) (by decide))⟩ ?_
    refine fun h14 => ?_
    refine z_iload_n dX11_needed_57 rfl ?_
    obtain rfl := someE h
    exact z_iret dX11_needed_58 hE h14 rfl
  replace h := ifF (fun q => q hc4) h
  refine z_iconst dX11_needed_10 ?_
  obtain rfl := someE h
  exact z_iret dX11_needed_11 hE (inRd (x := 0) (by decide)) rfl
set_option maxHeartbeats 1000000 in
theorem t_M_alone_L4 {l : Launch} {g : GX} {φ : CX} {z : Nat} {G : Nat → Nat → Nat} {F : Nat} (hb : cb φ = z) (hz : 353 ≤ z) (hG : lyM G) {x1 : Int} {x2 : Int} {I J : Nat → Nat → Int} (hx1 : inR x1) (hx2 : inR x2) {res : (Int × MI) ⊕ (Int × Int × MI)} (h : f_M_alone_L4 F x1 x2 I J = some res) (kE : ∀ e : Int × MI, res = .inl e → ((inR e.1) → Zt l g φ mu_M_alone 39 [none, some (vI e.1), none] [] (z, e.2, J, G))) (kS : ∀ s : Int × Int × MI, res = .inr s → (inR s.1 ∧ inR s.2.1) → Zt l g φ mu_M_alone 4 [some (vR g 296), some (vI s.1), some (vI s.2.1)] [] (z, s.2.2, J, G)) : Zt l g φ mu_M_alone 4 [some (vR g 296), some (vI x1), some (vI x2)] [] (z, I, J, G) := by
  refine z_iload_n dX11_alone_4 rfl ?_
  refine z_aload_n dX11_alone_5 rfl ?_
  refine y_getR dX11_alone_6 cl11 sh_296 (by decide) (Nat.le_trans (by decide) hz) 28 rfl rfl (fl_M_61) (ly_296_28 hG) (by decide) ?_
  refine z_aload_n dX11_alone_9 rfl ?_
  refine z_nm (fun hN1 => ?_)
  refine y_getI dX11_alone_10 cl11 sh_296 (by decide) (Nat.le_trans (by decide) hz) 18 rfl rfl (fl_M_269) ?_
  obtain ⟨hg2, h⟩ := guardE h
  refine y_iald dX11_alone_13 sh_311 (by decide) (Nat.le_trans (by decide) hz) (hN1.1 296 18) hg2 ?_
  refine z_icmp_ge (tgt := 39) dX11_alone_14 (by decide) hx2 (hN1.1 311 ((I 296 18)).toNat) (fun hc3 => ?_) (fun hc3 => ?_)
  · replace h := ifT hc3 h
    refine z_weak (L' := [none, some (vI x1), none]) (lsN (lsS (lsN ls0))) ?_
    exact kE _ (someE h).symm hx1
  replace h := ifF hc3 h
  refine z_aload_n dX11_alone_17 rfl ?_
  refine z_iconst dX11_alone_18 ?_
  refine z_iload_n dX11_alone_19 rfl ?_
  refine z_ishl dX11_alone_20 ?_
  obtain ⟨q4, hq5, h⟩ := bindE h
  refine z_callV (As := [vI (shl32 1 x2)]) (rest := []) (s_M_isOverBy hz hG inR_shl hq5) dX11_alone_21 mw_M_isOverBy cl11 sh_296 (by decide) (Nat.le_trans (by decide) hz) ml_M_448 im_M_isOverBy se_M_isOverBy rfl rfl rfl rfl (Nat.le_refl _) (Nat.le_of_eq hb.symm) (fun hp6 => ?_)
  show Zt _ _ _ _ 24 _ [vI q4.1] (z, q4.2, J, G)
  refine z_if_eq (tgt := 33) dX11_alone_24 (by decide) (inR_bool hp6) (fun hc7 => ?_) (fun hc7 => ?_)
  · replace h := ifT hc7 h
    refine z_iinc (L' := [some (vR g 296), some (vI x1), some (vI (w32 (x2 + 1)))]) dX11_alone_33 rfl rfl rfl rfl ?_
    refine z_goto (tgt := 4) dX11_alone_36 (by decide) ?_
    exact kS _ (someE h).symm ⟨hx1, (inR_w32 _)⟩
  replace h := ifF hc7 h
  refine z_iload_n dX11_alone_27 rfl ?_
  refine z_iconst dX11_alone_28 ?_
  refine z_iload_n dX11_alone_29 rfl ?_
  refine z_ishl dX11_alone_30 ?_
  refine z_ior dX11_alone_31 ?_
  refine z_istore_n (L' := [some (vR g 296), some (vI (or32 x1 (shl32 1 x2))), some (vI x2)]) dX11_alone_32 rfl rfl rfl ?_
  refine z_iinc (L' := [some (vR g 296), some (vI (or32 x1 (shl32 1 x2))), some (vI (w32 (x2 + 1)))]) dX11_alone_33 rfl rfl rfl rfl ?_
  refine z_goto (tgt := 4) dX11_alone_36 (by decide) ?_
  exact kS _ (someE h).symm ⟨inR_or, (inR_w32 _)⟩
theorem l_M_alone_L4 {l : Launch} {g : GX} {φ : CX} {z : Nat} {G : Nat → Nat → Nat} {F : Nat} (hb : cb φ = z) (hz : 353 ≤ z) (hG : lyM G) {J : Nat → Nat → Int} (n : Nat) (s : Int × Int × MI) (e : Int × MI) (h : iter (fun s : Int × Int × MI => f_M_alone_L4 F s.1 s.2.1 s.2.2 J) n s = some e) (hs : inR s.1 ∧ inR s.2.1) (k : ((inR e.1) → Zt l g φ mu_M_alone 39 [none, some (vI e.1), none] [] (z, e.2, J, G))) : Zt l g φ mu_M_alone 4 [some (vR g 296), some (vI s.1), some (vI s.2.1)] [] (z, s.2.2, J, G) := by
  refine iter_ind (Z := fun s : Int × Int × MI => Zt l g φ mu_M_alone 4 [some (vR g 296), some (vI s.1), some (vI s.2.1)] [] (z, s.2.2, J, G)) (ZE := fun e : Int × MI => ((inR e.1) → Zt l g φ mu_M_alone 39 [none, some (vI e.1), none] [] (z, e.2, J, G))) (Rg := fun s : Int × Int × MI => inR s.1 ∧ inR s.2.1) ?_ n s e h hs k
  intro s r hr hst kE kS
  exact t_M_alone_L4 hb hz hG hr.1 hr.2 hst kE kS
set_option maxHeartbeats 1000000 in
theorem s_M_alone {l : Launch} {g : GX} {z : Nat} {G : Nat → Nat → Nat} {F : Nat} (hz : 353 ≤ z) (hG : lyM G) {I J : Nat → Nat → Int} {res : Int × MI} (h : f_M_alone F I J = some res) : Spec l g 4 yX11_alone cX11_alone 3 (some .int) [vR g 296] (z, I, J, G) (some (vI res.1)) (inR res.1) (z, res.2, J, G) := by
  refine spec_of (μ := mu_M_alone) (k := 2) (L0 := [some (vR g 296), none, none]) rfl mw_M_alone rfl rfl (Nat.le_refl _) (fun φ hb hE => ?_)
  refine z_iconst dX11_alone_0 ?_
  refine z_istore_n (L' := [some (vR g 296), some (vI 0), none]) dX11_alone_1 rfl rfl rfl ?_
  refine z_iconst dX11_alone_2 ?_
  refine z_istore_n (L' := [some (vR g 296), some (vI 0), some (vI 0)]) dX11_alone_3 rfl rfl rfl ?_
  obtain ⟨e8, h9, h⟩ := bindE h
  refine l_M_alone_L4 hb hz hG  _ _ _ h9 ⟨(inRd (x := 0) (by decide)), (inRd (x := 0) (by decide))⟩ ?_
  refine fun h10 => ?_
  refine z_iload_n dX11_alone_39 rfl ?_
  obtain rfl := someE h
  exact z_iret dX11_alone_40 hE h10 rfl
set_option maxHeartbeats 1000000 in
theorem t_M_breaks_L19 {l : Launch} {g : GX} {φ : CX} {z : Nat} {G : Nat → Nat → Nat} {F : Nat} (hb : cb φ = z) (hz : 353 ≤ z) (hG : lyM G) {x1 : Int} {I J : Nat → Nat → Int} (hx1 : inR x1) {res : ((MI) ⊕ (MI)) ⊕ (Int × MI)} (h : f_M_breaks_L19 F x1 I J = some res) (kE : ∀ e : (MI) ⊕ (MI), res = .inl e → ((fun w : (MI) ⊕ (MI) => (match w with | .inl e0 => ((True) → Zt l g φ mu_M_breaks 37 [some (vR g 296), none] [] (z, e0, J, G)) | .inr o0 => ((True) → Zt l g φ mu_M_breaks 54 [none, none] [] (z, o0, J, G)))) e)) (kS : ∀ s : Int × MI, res = .inr s → (inR s.1) → Zt l g φ mu_M_breaks 19 [some (vR g 296), some (vI s.1)] [] (z, s.2, J, G)) : Zt l g φ mu_M_breaks 19 [some (vR g 296), some (vI x1)] [] (z, I, J, G) := by
  refine z_iload_n dX11_breaks_19 rfl ?_
  refine z_sipush dX11_breaks_20 (by decide +kernel) ?_
  refine z_icmp_ge (tgt := 54) dX11_breaks_23 (by decide) hx1 (inRd (x := 200) (by decide)) (fun hc8 => ?_) (fun hc8 => ?_)
  · replace h := ifT hc8 h
    refine z_weak (L' := [none, none]) (lsN (lsN ls0)) ?_
    exact kE _ (someE h).symm trivial
  replace h := ifF hc8 h
  refine z_aload_n dX11_breaks_26 rfl ?_
  obtain ⟨q9, hq10, h⟩ := bindE h
  refine z_callV (As := []) (rest := []) (s_M_dayGoes hz hG  hq10) dX11_breaks_27 mw_M_dayGoes cl11 sh_296 (by decide) (Nat.le_trans (by decide) hz) ml_M_397 im_M_dayGoes se_M_dayGoes rfl rfl rfl rfl (Nat.le_refl _) (Nat.le_of_eq hb.symm) (fun hp11 => ?_)
  show Zt _ _ _ _ 30 _ [] (z, q9, J, G)
  refine z_aload_n dX11_breaks_30 rfl ?_
  obtain ⟨q12, hq13, h⟩ := bindE h
  refine z_callV (As := []) (rest := []) (s_M_isOver hz hG  hq13) dX11_breaks_31 mw_M_isOver cl11 sh_296 (by decide) (Nat.le_trans (by decide) hz) ml_M_445 im_M_isOver se_M_isOver rfl rfl rfl rfl (Nat.le_refl _) (Nat.le_of_eq hb.symm) (fun hp14 => ?_)
  show Zt _ _ _ _ 34 _ [vI q12.1] (z, q12.2, J, G)
  refine z_if_ne (tgt := 48) dX11_breaks_34 (by decide) (inR_bool hp14) (fun hc15 => ?_) (fun hc15 => ?_)
  · replace h := ifT hc15 h
    refine z_iinc (L' := [some (vR g 296), some (vI (w32 (x1 + 1)))]) dX11_breaks_48 rfl rfl rfl rfl ?_
    refine z_goto (tgt := 19) dX11_breaks_51 (by decide) ?_
    exact kS _ (someE h).symm (inR_w32 _)
  replace h := ifF (fun q => q hc15) h
  refine z_weak (L' := [some (vR g 296), none]) (lsS (lsN ls0)) ?_
  exact kE _ (someE h).symm trivial
theorem l_M_breaks_L19 {l : Launch} {g : GX} {φ : CX} {z : Nat} {G : Nat → Nat → Nat} {F : Nat} (hb : cb φ = z) (hz : 353 ≤ z) (hG : lyM G) {J : Nat → Nat → Int} (n : Nat) (s : Int × MI) (e : (MI) ⊕ (MI)) (h : iter (fun s : Int × MI => f_M_breaks_L19 F s.1 s.2 J) n s = some e) (hs : inR s.1) (k : ((fun w : (MI) ⊕ (MI) => (match w with | .inl e0 => ((True) → Zt l g φ mu_M_breaks 37 [some (vR g 296), none] [] (z, e0, J, G)) | .inr o0 => ((True) → Zt l g φ mu_M_breaks 54 [none, none] [] (z, o0, J, G)))) e)) : Zt l g φ mu_M_breaks 19 [some (vR g 296), some (vI s.1)] [] (z, s.2, J, G) := by
  refine iter_ind (Z := fun s : Int × MI => Zt l g φ mu_M_breaks 19 [some (vR g 296), some (vI s.1)] [] (z, s.2, J, G)) (ZE := fun e : (MI) ⊕ (MI) => ((fun w : (MI) ⊕ (MI) => (match w with | .inl e0 => ((True) → Zt l g φ mu_M_breaks 37 [some (vR g 296), none] [] (z, e0, J, G)) | .inr o0 => ((True) → Zt l g φ mu_M_breaks 54 [none, none] [] (z, o0, J, G)))) e)) (Rg := fun s : Int × MI => inR s.1) ?_ n s e h hs k
  intro s r hr hst kE kS
  exact t_M_breaks_L19 hb hz hG hr hst kE kS
set_option maxHeartbeats 1000000 in
theorem s_M_breaks {l : Launch} {g : GX} {z : Nat} {G : Nat → Nat → Nat} {F : Nat} (hz : 353 ≤ z) (hG : lyM G) {I J : Nat → Nat → Int} {res : Int × MI} (h : f_M_breaks F I J = some res) : Spec l g 4 yX11_breaks cX11_breaks 2 (some .int) [vR g 296] (z, I, J, G) (some (vI res.1)) (inR res.1) (z, res.2, J, G) := by
  refine spec_of (μ := mu_M_breaks) (k := 1) (L0 := [some (vR g 296), none]) rfl mw_M_breaks rfl rfl (Nat.le_refl _) (fun φ hb hE => ?_)
  refine z_aload_n dX11_breaks_0 rfl ?_
  refine z_sipush dX11_breaks_1 (by decide +kernel) ?_
  obtain ⟨q1, hq2, h⟩ := bindE h
  refine z_callV (As := [vI 255]) (rest := []) (s_M_isOverBy hz hG (inRd (x := 255) (by decide)) hq2) dX11_breaks_4 mw_M_isOverBy cl11 sh_296 (by decide) (Nat.le_trans (by decide) hz) ml_M_448 im_M_isOverBy se_M_isOverBy rfl rfl rfl rfl (Nat.le_refl _) (Nat.le_of_eq hb.symm) (fun hp3 => ?_)
  show Zt _ _ _ _ 7 _ [vI q1.1] (z, q1.2, J, G)
  refine z_if_ne (tgt := 13) dX11_breaks_7 (by decide) (inR_bool hp3) (fun hc4 => ?_) (fun hc4 => ?_)
  · replace h := ifT hc4 h
    refine z_aload_n dX11_breaks_13 rfl ?_
    obtain ⟨q5, hq6, h⟩ := bindE h
    refine z_callV (As := []) (rest := []) (s_M_copies hz hG  hq6) dX11_breaks_14 mw_M_copies cl11 sh_296 (by decide) (Nat.le_trans (by decide) hz) ml_M_373 im_M_copies se_M_copies rfl rfl rfl rfl (Nat.le_refl _) (Nat.le_of_eq hb.symm) (fun hp7 => ?_)
    show Zt _ _ _ _ 17 _ [] (z, q5, J, G)
    refine z_iconst dX11_breaks_17 ?_
    refine z_istore_n (L' := [some (vR g 296), some (vI 0)]) dX11_breaks_18 rfl rfl rfl ?_
    obtain ⟨e16, h17, h⟩ := bindE h
    rcases e16 with e18 | o19
    · refine l_M_breaks_L19 hb hz hG  _ _ _ h17 (inRd (x := 0) (by decide)) ?_
      refine fun h20 => ?_
      refine z_aload_n dX11_breaks_37 rfl ?_
      refine y_getR dX11_breaks_38 cl11 sh_296 (by decide) (Nat.le_trans (by decide) hz) 53 rfl rfl (fl_M_125) (ly_296_53 hG) (by decide) ?_
      refine z_sipush dX11_breaks_41 (by decide +kernel) ?_
      refine z_nm (fun hN21 => ?_)
      refine y_iald dX11_breaks_44 sh_332 (by decide) (Nat.le_trans (by decide) hz) (inRd (x := 240) (by decide)) (by decide) ?_
      refine z_iconst dX11_breaks_45 ?_
      refine z_isub dX11_breaks_46 ?_
      obtain rfl := someE h
      exact z_iret dX11_breaks_47 hE (inR_w32 _) rfl
    refine l_M_breaks_L19 hb hz hG  _ _ _ h17 (inRd (x := 0) (by decide)) ?_
    refine fun h22 => ?_
    refine z_bipush dX11_breaks_54 (by decide +kernel) ?_
    obtain rfl := someE h
    exact z_iret dX11_breaks_56 hE (inRd (x := (-2)) (by decide)) rfl
  replace h := ifF (fun q => q hc4) h
  refine z_bipush dX11_breaks_10 (by decide +kernel) ?_
  obtain rfl := someE h
  exact z_iret dX11_breaks_12 hE (inRd (x := (-3)) (by decide)) rfl
set_option maxHeartbeats 1000000 in
theorem s_M_finds {l : Launch} {g : GX} {z : Nat} {G : Nat → Nat → Nat} {F : Nat} (hz : 353 ≤ z) (hG : lyM G) {x1 : Int} {x2 : Int} {I J : Nat → Nat → Int} (hx1 : inR x1) (hx2 : inR x2) {res : MI} (h : f_M_finds F x1 x2 I J = some res) : Spec l g 0 yX11_finds cX11_finds 3 none [vR g 296, vI x1, vI x2] (z, I, J, G) none True (z, res, J, G) := by
  refine spec_of (μ := mu_M_finds) (k := 0) (L0 := [some (vR g 296), some (vI x1), some (vI x2)]) rfl mw_M_finds rfl rfl (Nat.le_refl _) (fun φ hb hE => ?_)
  refine z_aload_n dX11_finds_0 rfl ?_
  refine y_getR dX11_finds_1 cl11 sh_296 (by decide) (Nat.le_trans (by decide) hz) 73 rfl rfl (fl_M_173) (ly_296_73 hG) (by decide) ?_
  refine z_iload_n dX11_finds_4 rfl ?_
  obtain ⟨hg1, h⟩ := guardE h
  refine z_nm (fun hN2 => ?_)
  refine y_iald dX11_finds_5 sh_348 (by decide) (Nat.le_trans (by decide) hz) hx1 hg1 ?_
  refine z_iconst dX11_finds_6 ?_
  refine z_icmp_eq (tgt := 11) dX11_finds_7 (by decide) (hN2.1 348 (x1).toNat) (inRd (x := (-1)) (by decide)) (fun hc3 => ?_) (fun hc3 => ?_)
  · replace h := ifT hc3 h
    refine z_aload_n dX11_finds_11 rfl ?_
    refine y_getR dX11_finds_12 cl11 sh_296 (by decide) (Nat.le_trans (by decide) hz) 73 rfl rfl (fl_M_173) (ly_296_73 hG) (by decide) ?_
    refine z_iload_n dX11_finds_15 rfl ?_
    refine z_iload_n dX11_finds_16 rfl ?_
    refine y_iast dX11_finds_17 sh_348 (by decide) (Nat.le_trans (by decide) hz) hx1 hg1 hx2 ?_
    refine z_aload_n dX11_finds_18 rfl ?_
    refine y_getR dX11_finds_19 cl11 sh_296 (by decide) (Nat.le_trans (by decide) hz) 74 rfl rfl (fl_M_176) (ly_296_74 hG) (by decide) ?_
    refine z_aload_n dX11_finds_22 rfl ?_
    refine z_nm (fun hN4 => ?_)
    refine y_getI dX11_finds_23 cl11 sh_296 (by decide) (Nat.le_trans (by decide) hz) 75 rfl rfl (fl_M_451) ?_
    refine z_iload_n dX11_finds_26 rfl ?_
    obtain ⟨hg5, h⟩ := guardE h
    refine y_iast dX11_finds_27 sh_349 (by decide) (Nat.le_trans (by decide) hz) (hN4.1 296 75) hg5 hx1 ?_
    refine z_aload_n dX11_finds_28 rfl ?_
    refine z_dup dX11_finds_29 rfl ?_
    refine z_nm (fun hN6 => ?_)
    refine y_getI dX11_finds_30 cl11 sh_296 (by decide) (Nat.le_trans (by decide) hz) 75 rfl rfl (fl_M_451) ?_
    refine z_iconst dX11_finds_33 ?_
    refine z_iadd dX11_finds_34 ?_
    refine y_putI dX11_finds_35 cl11 sh_296 (by decide) (Nat.le_trans (by decide) hz) 75 rfl rfl rfl (fl_M_451) rfl rfl (inR_w32 _) ?_
    obtain rfl := someE h
    exact z_vret dX11_finds_38 hE trivial rfl
  replace h := ifF hc3 h
  obtain rfl := someE h
  exact z_vret dX11_finds_10 hE trivial rfl
set_option maxHeartbeats 1000000 in
theorem t_M_findsIn_L20 {l : Launch} {g : GX} {φ : CX} {z : Nat} {G : Nat → Nat → Nat} {F : Nat} (hb : cb φ = z) (hz : 353 ≤ z) (hG : lyM G) {x1 : Int} {x2 : Int} {I J : Nat → Nat → Int} (hx1 : inR x1) (hx2 : inR x2) {res : (MI) ⊕ (Int × MI)} (h : f_M_findsIn_L20 F x1 x2 I J = some res) (kE : ∀ e : MI, res = .inl e → ((True) → Zt l g φ mu_M_findsIn 55 [none, none, none] [] (z, e, J, G))) (kS : ∀ s : Int × MI, res = .inr s → (inR s.1) → Zt l g φ mu_M_findsIn 20 [some (vR g 296), some (vI x1), some (vI s.1)] [] (z, s.2, J, G)) : Zt l g φ mu_M_findsIn 20 [some (vR g 296), some (vI x1), some (vI x2)] [] (z, I, J, G) := by
  refine z_iload_n dX11_findsIn_20 rfl ?_
  refine z_bipush dX11_findsIn_21 (by decide +kernel) ?_
  refine z_icmp_ge (tgt := 55) dX11_findsIn_23 (by decide) hx2 (inRd (x := 96) (by decide)) (fun hc4 => ?_) (fun hc4 => ?_)
  · replace h := ifT hc4 h
    refine z_weak (L' := [none, none, none]) (lsN (lsN (lsN ls0))) ?_
    exact kE _ (someE h).symm trivial
  replace h := ifF hc4 h
  refine z_aload_n dX11_findsIn_26 rfl ?_
  refine y_getR dX11_findsIn_27 cl11 sh_296 (by decide) (Nat.le_trans (by decide) hz) 71 rfl rfl (fl_M_167) (ly_296_71 hG) (by decide) ?_
  refine z_bipush dX11_findsIn_30 (by decide +kernel) ?_
  refine z_iload_n dX11_findsIn_32 rfl ?_
  refine z_imul dX11_findsIn_33 ?_
  refine z_iload_n dX11_findsIn_34 rfl ?_
  refine z_iadd dX11_findsIn_35 ?_
  obtain ⟨hg5, h⟩ := guardE h
  refine z_nm (fun hN6 => ?_)
  refine y_zald dX11_findsIn_36 sh_346 (by decide) (Nat.le_trans (by decide) hz) (inR_w32 _) hg5 ?_
  refine z_if_eq (tgt := 49) dX11_findsIn_37 (by decide) (hN6.1 346 ((w32 ((w32 (96 * x2)) + x1))).toNat) (fun hc7 => ?_) (fun hc7 => ?_)
  · replace h := ifT hc7 h
    refine z_iinc (L' := [some (vR g 296), some (vI x1), some (vI (w32 (x2 + 1)))]) dX11_findsIn_49 rfl rfl rfl rfl ?_
    refine z_goto (tgt := 20) dX11_findsIn_52 (by decide) ?_
    exact kS _ (someE h).symm (inR_w32 _)
  replace h := ifF hc7 h
  refine z_aload_n dX11_findsIn_40 rfl ?_
  refine z_bipush dX11_findsIn_41 (by decide +kernel) ?_
  refine z_iload_n dX11_findsIn_43 rfl ?_
  refine z_iadd dX11_findsIn_44 ?_
  refine z_iload_n dX11_findsIn_45 rfl ?_
  obtain ⟨q8, hq9, h⟩ := bindE h
  refine z_callV (As := [vI (w32 (96 + x2)), vI x1]) (rest := []) (s_M_finds hz hG (inR_w32 _) hx1 hq9) dX11_findsIn_46 mw_M_finds cl11 sh_296 (by decide) (Nat.le_trans (by decide) hz) ml_M_454 im_M_finds se_M_finds rfl rfl rfl rfl (Nat.le_refl _) (Nat.le_of_eq hb.symm) (fun hp10 => ?_)
  show Zt _ _ _ _ 49 _ [] (z, q8, J, G)
  refine z_iinc (L' := [some (vR g 296), some (vI x1), some (vI (w32 (x2 + 1)))]) dX11_findsIn_49 rfl rfl rfl rfl ?_
  refine z_goto (tgt := 20) dX11_findsIn_52 (by decide) ?_
  exact kS _ (someE h).symm (inR_w32 _)
theorem l_M_findsIn_L20 {l : Launch} {g : GX} {φ : CX} {z : Nat} {G : Nat → Nat → Nat} {F : Nat} (hb : cb φ = z) (hz : 353 ≤ z) (hG : lyM G) {x1 : Int} {J : Nat → Nat → Int} (hx1 : inR x1) (n : Nat) (s : Int × MI) (e : MI) (h : iter (fun s : Int × MI => f_M_findsIn_L20 F x1 s.1 s.2 J) n s = some e) (hs : inR s.1) (k : ((True) → Zt l g φ mu_M_findsIn 55 [none, none, none] [] (z, e, J, G))) : Zt l g φ mu_M_findsIn 20 [some (vR g 296), some (vI x1), some (vI s.1)] [] (z, s.2, J, G) := by
  refine iter_ind (Z := fun s : Int × MI => Zt l g φ mu_M_findsIn 20 [some (vR g 296), some (vI x1), some (vI s.1)] [] (z, s.2, J, G)) (ZE := fun e : MI => ((True) → Zt l g φ mu_M_findsIn 55 [none, none, none] [] (z, e, J, G))) (Rg := fun s : Int × MI => inR s.1) ?_ n s e h hs k
  intro s r hr hst kE kS
  exact t_M_findsIn_L20 hb hz hG hx1 hr hst kE kS
set_option maxHeartbeats 1000000 in
theorem t_M_findsIn_b18 {l : Launch} {g : GX} {φ : CX} {z : Nat} {G : Nat → Nat → Nat} {F : Nat} (hb : cb φ = z) (hz : 353 ≤ z) (hG : lyM G) {x1 : Int} {I J : Nat → Nat → Int} (hx1 : inR x1) {res : MI} (h : f_M_findsIn_b18 F x1 I J = some res) (hE : ends g φ none none True (z, res, J, G)) : Zt l g φ mu_M_findsIn 18 [some (vR g 296), some (vI x1), none] [] (z, I, J, G) := by
  refine z_iconst dX11_findsIn_18 ?_
  refine z_istore_n (L' := [some (vR g 296), some (vI x1), some (vI 0)]) dX11_findsIn_19 rfl rfl rfl ?_
  obtain ⟨e11, h12, h⟩ := bindE h
  refine l_M_findsIn_L20 hb hz hG hx1 _ _ _ h12 (inRd (x := 0) (by decide)) ?_
  refine fun h13 => ?_
  obtain rfl := someE h
  exact z_vret dX11_findsIn_55 hE trivial rfl
set_option maxHeartbeats 1000000 in
theorem s_M_findsIn {l : Launch} {g : GX} {z : Nat} {G : Nat → Nat → Nat} {F : Nat} (hz : 353 ≤ z) (hG : lyM G) {x1 : Int} {I J : Nat → Nat → Int} (hx1 : inR x1) {res : MI} (h : f_M_findsIn F x1 I J = some res) : Spec l g 1 yX11_findsIn cX11_findsIn 3 none [vR g 296, vI x1] (z, I, J, G) none True (z, res, J, G) := by
  refine spec_of (μ := mu_M_findsIn) (k := 1) (L0 := [some (vR g 296), some (vI x1), none]) rfl mw_M_findsIn rfl rfl (Nat.le_refl _) (fun φ hb hE => ?_)
  refine z_aload_n dX11_findsIn_0 rfl ?_
  refine y_getR dX11_findsIn_1 cl11 sh_296 (by decide) (Nat.le_trans (by decide) hz) 70 rfl rfl (fl_M_164) (ly_296_70 hG) (by decide) ?_
  refine z_iload_n dX11_findsIn_4 rfl ?_
  obtain ⟨hg1, h⟩ := guardE h
  refine z_nm (fun hN2 => ?_)
  refine y_zald dX11_findsIn_5 sh_345 (by decide) (Nat.le_trans (by decide) hz) hx1 hg1 ?_
  refine z_if_ne (tgt := 18) dX11_findsIn_6 (by decide) (hN2.1 345 (x1).toNat) (fun hc3 => ?_) (fun hc3 => ?_)
  · replace h := ifT hc3 h
    exact t_M_findsIn_b18 hb hz hG hx1 h hE
  replace h := ifF (fun q => q hc3) h
  refine z_aload_n dX11_findsIn_9 rfl ?_
  refine z_bipush dX11_findsIn_10 (by decide +kernel) ?_
  refine z_iload_n dX11_findsIn_12 rfl ?_
  refine z_iadd dX11_findsIn_13 ?_
  refine z_iload_n dX11_findsIn_14 rfl ?_
  obtain ⟨q14, hq15, h⟩ := bindE h
  refine z_callV (As := [vI (w32 (96 + x1)), vI x1]) (rest := []) (s_M_finds hz hG (inR_w32 _) hx1 hq15) dX11_findsIn_15 mw_M_finds cl11 sh_296 (by decide) (Nat.le_trans (by decide) hz) ml_M_454 im_M_finds se_M_finds rfl rfl rfl rfl (Nat.le_refl _) (Nat.le_of_eq hb.symm) (fun hp16 => ?_)
  show Zt _ _ _ _ 18 _ [] (z, q14, J, G)
  exact t_M_findsIn_b18 hb hz hG hx1 h hE
set_option maxHeartbeats 1000000 in
theorem t_M_findsOut_L2 {l : Launch} {g : GX} {φ : CX} {z : Nat} {G : Nat → Nat → Nat} {F : Nat} (hb : cb φ = z) (hz : 353 ≤ z) (hG : lyM G) {x1 : Int} {x2 : Int} {I J : Nat → Nat → Int} (hx1 : inR x1) (hx2 : inR x2) {res : (MI) ⊕ (Int × MI)} (h : f_M_findsOut_L2 F x1 x2 I J = some res) (kE : ∀ e : MI, res = .inl e → ((True) → Zt l g φ mu_M_findsOut 46 [some (vR g 296), some (vI x1), none] [] (z, e, J, G))) (kS : ∀ s : Int × MI, res = .inr s → (inR s.1) → Zt l g φ mu_M_findsOut 2 [some (vR g 296), some (vI x1), some (vI s.1)] [] (z, s.2, J, G)) : Zt l g φ mu_M_findsOut 2 [some (vR g 296), some (vI x1), some (vI x2)] [] (z, I, J, G) := by
  refine z_iload_n dX11_findsOut_2 rfl ?_
  refine z_bipush dX11_findsOut_3 (by decide +kernel) ?_
  refine z_icmp_ge (tgt := 46) dX11_findsOut_5 (by decide) hx2 (inRd (x := 96) (by decide)) (fun hc1 => ?_) (fun hc1 => ?_)
  · replace h := ifT hc1 h
    refine z_weak (L' := [some (vR g 296), some (vI x1), none]) (lsS (lsS (lsN ls0))) ?_
    exact kE _ (someE h).symm trivial
  replace h := ifF hc1 h
  refine z_aload_n dX11_findsOut_8 rfl ?_
  refine z_iload_n dX11_findsOut_9 rfl ?_
  refine z_iload_n dX11_findsOut_10 rfl ?_
  obtain ⟨q2, hq3, h⟩ := bindE h
  refine z_callV (As := [vI x1, vI x2]) (rest := []) (s_M_leaps hz hG hx1 hx2 hq3) dX11_findsOut_11 mw_M_leaps cl11 sh_296 (by decide) (Nat.le_trans (by decide) hz) ml_M_404 im_M_leaps se_M_leaps rfl rfl rfl rfl (Nat.le_refl _) (Nat.le_of_eq hb.symm) (fun hp4 => ?_)
  show Zt _ _ _ _ 14 _ [vI q2] (z, I, J, G)
  refine z_if_eq (tgt := 40) dX11_findsOut_14 (by decide) (inR_bool hp4) (fun hc5 => ?_) (fun hc5 => ?_)
  · replace h := ifT hc5 h
    refine z_iinc (L' := [some (vR g 296), some (vI x1), some (vI (w32 (x2 + 1)))]) dX11_findsOut_40 rfl rfl rfl rfl ?_
    refine z_goto (tgt := 2) dX11_findsOut_43 (by decide) ?_
    exact kS _ (someE h).symm (inR_w32 _)
  replace h := ifF hc5 h
  refine z_aload_n dX11_findsOut_17 rfl ?_
  refine y_getR dX11_findsOut_18 cl11 sh_296 (by decide) (Nat.le_trans (by decide) hz) 71 rfl rfl (fl_M_167) (ly_296_71 hG) (by decide) ?_
  refine z_bipush dX11_findsOut_21 (by decide +kernel) ?_
  refine z_iload_n dX11_findsOut_23 rfl ?_
  refine z_imul dX11_findsOut_24 ?_
  refine z_iload_n dX11_findsOut_25 rfl ?_
  refine z_iadd dX11_findsOut_26 ?_
  obtain ⟨hg6, h⟩ := guardE h
  refine z_nm (fun hN7 => ?_)
  refine y_zald dX11_findsOut_27 sh_346 (by decide) (Nat.le_trans (by decide) hz) (inR_w32 _) hg6 ?_
  refine z_if_ne (tgt := 40) dX11_findsOut_28 (by decide) (hN7.1 346 ((w32 ((w32 (96 * x1)) + x2))).toNat) (fun hc8 => ?_) (fun hc8 => ?_)
  · replace h := ifT hc8 h
    refine z_iinc (L' := [some (vR g 296), some (vI x1), some (vI (w32 (x2 + 1)))]) dX11_findsOut_40 rfl rfl rfl rfl ?_
    refine z_goto (tgt := 2) dX11_findsOut_43 (by decide) ?_
    exact kS _ (someE h).symm (inR_w32 _)
  replace h := ifF (fun q => q hc8) h
  refine z_aload_n dX11_findsOut_31 rfl ?_
  refine z_iload_n dX11_findsOut_32 rfl ?_
  refine z_bipush dX11_findsOut_33 (by decide +kernel) ?_
  refine z_iload_n dX11_findsOut_35 rfl ?_
  refine z_iadd dX11_findsOut_36 ?_
  obtain ⟨q9, hq10, h⟩ := bindE h
  refine z_callV (As := [vI x2, vI (w32 (96 + x1))]) (rest := []) (s_M_finds hz hG hx2 (inR_w32 _) hq10) dX11_findsOut_37 mw_M_finds cl11 sh_296 (by decide) (Nat.le_trans (by decide) hz) ml_M_454 im_M_finds se_M_finds rfl rfl rfl rfl (Nat.le_refl _) (Nat.le_of_eq hb.symm) (fun hp11 => ?_)
  show Zt _ _ _ _ 40 _ [] (z, q9, J, G)
  refine z_iinc (L' := [some (vR g 296), some (vI x1), some (vI (w32 (x2 + 1)))]) dX11_findsOut_40 rfl rfl rfl rfl ?_
  refine z_goto (tgt := 2) dX11_findsOut_43 (by decide) ?_
  exact kS _ (someE h).symm (inR_w32 _)
theorem l_M_findsOut_L2 {l : Launch} {g : GX} {φ : CX} {z : Nat} {G : Nat → Nat → Nat} {F : Nat} (hb : cb φ = z) (hz : 353 ≤ z) (hG : lyM G) {x1 : Int} {J : Nat → Nat → Int} (hx1 : inR x1) (n : Nat) (s : Int × MI) (e : MI) (h : iter (fun s : Int × MI => f_M_findsOut_L2 F x1 s.1 s.2 J) n s = some e) (hs : inR s.1) (k : ((True) → Zt l g φ mu_M_findsOut 46 [some (vR g 296), some (vI x1), none] [] (z, e, J, G))) : Zt l g φ mu_M_findsOut 2 [some (vR g 296), some (vI x1), some (vI s.1)] [] (z, s.2, J, G) := by
  refine iter_ind (Z := fun s : Int × MI => Zt l g φ mu_M_findsOut 2 [some (vR g 296), some (vI x1), some (vI s.1)] [] (z, s.2, J, G)) (ZE := fun e : MI => ((True) → Zt l g φ mu_M_findsOut 46 [some (vR g 296), some (vI x1), none] [] (z, e, J, G))) (Rg := fun s : Int × MI => inR s.1) ?_ n s e h hs k
  intro s r hr hst kE kS
  exact t_M_findsOut_L2 hb hz hG hx1 hr hst kE kS
set_option maxHeartbeats 1000000 in
theorem s_M_findsOut {l : Launch} {g : GX} {z : Nat} {G : Nat → Nat → Nat} {F : Nat} (hz : 353 ≤ z) (hG : lyM G) {x1 : Int} {I J : Nat → Nat → Int} (hx1 : inR x1) {res : MI} (h : f_M_findsOut F x1 I J = some res) : Spec l g 1 yX11_findsOut cX11_findsOut 3 none [vR g 296, vI x1] (z, I, J, G) none True (z, res, J, G) := by
  refine spec_of (μ := mu_M_findsOut) (k := 1) (L0 := [some (vR g 296), some (vI x1), none]) rfl mw_M_findsOut rfl rfl (Nat.le_refl _) (fun φ hb hE => ?_)
  refine z_iconst dX11_findsOut_0 ?_
  refine z_istore_n (L' := [some (vR g 296), some (vI x1), some (vI 0)]) dX11_findsOut_1 rfl rfl rfl ?_
  obtain ⟨e12, h13, h⟩ := bindE h
  refine l_M_findsOut_L2 hb hz hG hx1 _ _ _ h13 (inRd (x := 0) (by decide)) ?_
  refine fun h14 => ?_
  refine z_aload_n dX11_findsOut_46 rfl ?_
  refine y_getR dX11_findsOut_47 cl11 sh_296 (by decide) (Nat.le_trans (by decide) hz) 70 rfl rfl (fl_M_164) (ly_296_70 hG) (by decide) ?_
  refine z_iload_n dX11_findsOut_50 rfl ?_
  obtain ⟨hg15, h⟩ := guardE h
  refine z_nm (fun hN16 => ?_)
  refine y_zald dX11_findsOut_51 sh_345 (by decide) (Nat.le_trans (by decide) hz) hx1 hg15 ?_
  refine z_if_eq (tgt := 64) dX11_findsOut_52 (by decide) (hN16.1 345 (x1).toNat) (fun hc17 => ?_) (fun hc17 => ?_)
  · replace h := ifT hc17 h
    obtain rfl := someE h
    exact z_vret dX11_findsOut_64 hE trivial rfl
  replace h := ifF hc17 h
  refine z_aload_n dX11_findsOut_55 rfl ?_
  refine z_iload_n dX11_findsOut_56 rfl ?_
  refine z_bipush dX11_findsOut_57 (by decide +kernel) ?_
  refine z_iload_n dX11_findsOut_59 rfl ?_
  refine z_iadd dX11_findsOut_60 ?_
  obtain ⟨q18, hq19, h⟩ := bindE h
  refine z_callV (As := [vI x1, vI (w32 (96 + x1))]) (rest := []) (s_M_finds hz hG hx1 (inR_w32 _) hq19) dX11_findsOut_61 mw_M_finds cl11 sh_296 (by decide) (Nat.le_trans (by decide) hz) ml_M_454 im_M_finds se_M_finds rfl rfl rfl rfl (Nat.le_refl _) (Nat.le_of_eq hb.symm) (fun hp20 => ?_)
  show Zt _ _ _ _ 64 _ [] (z, q18, J, G)
  obtain rfl := someE h
  exact z_vret dX11_findsOut_64 hE trivial rfl
set_option maxHeartbeats 1000000 in
theorem t_M_turns_b50in2 {l : Launch} {g : GX} {φ : CX} {z : Nat} {G : Nat → Nat → Nat} {F : Nat} (hb : cb φ = z) (hz : 353 ≤ z) (hG : lyM G) {x3 : Int} {s1 : Int} {s2 : Int} {I J : Nat → Nat → Int} (hx3 : inR x3) (hs1 : inR s1) (hs2 : inR s2) (hb2 : s2 = 0 ∨ s2 = 1) {res : (Int × MI) ⊕ (Int × MI)} (h : f_M_turns_b50in2 F x3 s1 s2 I J = some res) (kE : ∀ e : Int × MI, res = .inl e → ((inR e.1) → Zt l g φ mu_M_turns 98 [some (vR g 296), none, some (vI e.1), none] [] (z, e.2, J, G))) (kS : ∀ s : Int × MI, res = .inr s → (inR s.1) → Zt l g φ mu_M_turns 2 [some (vR g 296), none, some (vI s.1), none] [] (z, s.2, J, G)) : Zt l g φ mu_M_turns 50 [some (vR g 296), none, none, some (vI x3)] [vI s2, vI s1, vR g 345] (z, I, J, G) := by
  obtain ⟨hg9, h⟩ := guardE h
  refine y_zast dX11_turns_50 sh_345 (by decide) (Nat.le_trans (by decide) hz) hs1 hg9 hb2 ?_
  refine z_goto (tgt := 93) dX11_turns_51 (by decide) ?_
  refine z_iload_n dX11_turns_93 rfl ?_
  refine z_istore_n (L' := [some (vR g 296), none, some (vI x3), some (vI x3)]) dX11_turns_94 rfl rfl rfl ?_
  refine z_goto (tgt := 2) dX11_turns_95 (by decide) ?_
  refine z_weak (L' := [some (vR g 296), none, some (vI x3), none]) (lsS (lsN (lsS (lsN ls0)))) ?_
  exact kS _ (someE h).symm hx3
set_option maxHeartbeats 1000000 in
theorem t_M_turns_L2 {l : Launch} {g : GX} {φ : CX} {z : Nat} {G : Nat → Nat → Nat} {F : Nat} (hb : cb φ = z) (hz : 353 ≤ z) (hG : lyM G) {x2 : Int} {I J : Nat → Nat → Int} (hx2 : inR x2) {res : (Int × MI) ⊕ (Int × MI)} (h : f_M_turns_L2 F x2 I J = some res) (kE : ∀ e : Int × MI, res = .inl e → ((inR e.1) → Zt l g φ mu_M_turns 98 [some (vR g 296), none, some (vI e.1), none] [] (z, e.2, J, G))) (kS : ∀ s : Int × MI, res = .inr s → (inR s.1) → Zt l g φ mu_M_turns 2 [some (vR g 296), none, some (vI s.1), none] [] (z, s.2, J, G)) : Zt l g φ mu_M_turns 2 [some (vR g 296), none, some (vI x2), none] [] (z, I, J, G) := by
  refine z_aload_n dX11_turns_2 rfl ?_
  refine y_getR dX11_turns_3 cl11 sh_296 (by decide) (Nat.le_trans (by decide) hz) 73 rfl rfl (fl_M_173) (ly_296_73 hG) (by decide) ?_
  refine z_iload_n dX11_turns_6 rfl ?_
  obtain ⟨hg1, h⟩ := guardE h
  refine z_nm (fun hN2 => ?_)
  refine y_iald dX11_turns_7 sh_348 (by decide) (Nat.le_trans (by decide) hz) hx2 hg1 ?_
  refine z_bipush dX11_turns_8 (by decide +kernel) ?_
  refine z_icmp_eq (tgt := 98) dX11_turns_10 (by decide) (hN2.1 348 (x2).toNat) (inRd (x := (-2)) (by decide)) (fun hc3 => ?_) (fun hc3 => ?_)
  · replace h := ifT hc3 h
    exact kE _ (someE h).symm hx2
  replace h := ifF hc3 h
  refine z_aload_n dX11_turns_13 rfl ?_
  refine y_getR dX11_turns_14 cl11 sh_296 (by decide) (Nat.le_trans (by decide) hz) 73 rfl rfl (fl_M_173) (ly_296_73 hG) (by decide) ?_
  refine z_iload_n dX11_turns_17 rfl ?_
  refine y_iald dX11_turns_18 sh_348 (by decide) (Nat.le_trans (by decide) hz) hx2 hg1 ?_
  refine z_istore_n (L' := [some (vR g 296), none, some (vI x2), some (vI (I 348 (x2).toNat))]) dX11_turns_19 rfl rfl rfl ?_
  refine z_iload_n dX11_turns_20 rfl ?_
  refine z_bipush dX11_turns_21 (by decide +kernel) ?_
  refine z_irem dX11_turns_23 (inRd (x := 96) (by decide)) (by decide) ?_
  refine z_iload_n dX11_turns_24 rfl ?_
  refine z_bipush dX11_turns_25 (by decide +kernel) ?_
  refine z_irem dX11_turns_27 (inRd (x := 96) (by decide)) (by decide) ?_
  refine z_icmp_ne (tgt := 54) dX11_turns_28 (by decide) inR_rem inR_rem (fun hc4 => ?_) (fun hc4 => ?_)
  · replace h := ifT hc4 h
    refine z_iload_n dX11_turns_54 rfl ?_
    refine z_bipush dX11_turns_55 (by decide +kernel) ?_
    refine z_icmp_ge (tgt := 78) dX11_turns_57 (by decide) hx2 (inRd (x := 96) (by decide)) (fun hc5 => ?_) (fun hc5 => ?_)
    · replace h := ifT hc5 h
      refine z_aload_n dX11_turns_78 rfl ?_
      refine y_getR dX11_turns_79 cl11 sh_296 (by decide) (Nat.le_trans (by decide) hz) 71 rfl rfl (fl_M_167) (ly_296_71 hG) (by decide) ?_
      refine z_bipush dX11_turns_82 (by decide +kernel) ?_
      refine z_iload_n dX11_turns_84 rfl ?_
      refine z_bipush dX11_turns_85 (by decide +kernel) ?_
      refine z_isub dX11_turns_87 ?_
      refine z_imul dX11_turns_88 ?_
      refine z_iload_n dX11_turns_89 rfl ?_
      refine z_iadd dX11_turns_90 ?_
      refine z_iconst dX11_turns_91 ?_
      obtain ⟨hg6, h⟩ := guardE h
      refine y_zast dX11_turns_92 sh_346 (by decide) (Nat.le_trans (by decide) hz) (inR_w32 _) hg6 b01_0 ?_
      refine z_iload_n dX11_turns_93 rfl ?_
      refine z_istore_n (L' := [some (vR g 296), none, some (vI (I 348 (x2).toNat)), some (vI (I 348 (x2).toNat))]) dX11_turns_94 rfl rfl rfl ?_
      refine z_goto (tgt := 2) dX11_turns_95 (by decide) ?_
      refine z_weak (L' := [some (vR g 296), none, some (vI (I 348 (x2).toNat)), none]) (lsS (lsN (lsS (lsN ls0)))) ?_
      exact kS _ (someE h).symm (hN2.1 348 (x2).toNat)
    replace h := ifF hc5 h
    refine z_aload_n dX11_turns_60 rfl ?_
    refine y_getR dX11_turns_61 cl11 sh_296 (by decide) (Nat.le_trans (by decide) hz) 71 rfl rfl (fl_M_167) (ly_296_71 hG) (by decide) ?_
    refine z_bipush dX11_turns_64 (by decide +kernel) ?_
    refine z_iload_n dX11_turns_66 rfl ?_
    refine z_bipush dX11_turns_67 (by decide +kernel) ?_
    refine z_isub dX11_turns_69 ?_
    refine z_imul dX11_turns_70 ?_
    refine z_iload_n dX11_turns_71 rfl ?_
    refine z_iadd dX11_turns_72 ?_
    refine z_iconst dX11_turns_73 ?_
    obtain ⟨hg7, h⟩ := guardE h
    refine y_zast dX11_turns_74 sh_346 (by decide) (Nat.le_trans (by decide) hz) (inR_w32 _) hg7 b01_1 ?_
    refine z_goto (tgt := 93) dX11_turns_75 (by decide) ?_
    refine z_iload_n dX11_turns_93 rfl ?_
    refine z_istore_n (L' := [some (vR g 296), none, some (vI (I 348 (x2).toNat)), some (vI (I 348 (x2).toNat))]) dX11_turns_94 rfl rfl rfl ?_
    refine z_goto (tgt := 2) dX11_turns_95 (by decide) ?_
    refine z_weak (L' := [some (vR g 296), none, some (vI (I 348 (x2).toNat)), none]) (lsS (lsN (lsS (lsN ls0)))) ?_
    exact kS _ (someE h).symm (hN2.1 348 (x2).toNat)
  replace h := ifF (fun q => q hc4) h
  refine z_aload_n dX11_turns_31 rfl ?_
  refine y_getR dX11_turns_32 cl11 sh_296 (by decide) (Nat.le_trans (by decide) hz) 70 rfl rfl (fl_M_164) (ly_296_70 hG) (by decide) ?_
  refine z_iload_n dX11_turns_35 rfl ?_
  refine z_bipush dX11_turns_36 (by decide +kernel) ?_
  refine z_irem dX11_turns_38 (inRd (x := 96) (by decide)) (by decide) ?_
  refine z_iload_n dX11_turns_39 rfl ?_
  refine z_bipush dX11_turns_40 (by decide +kernel) ?_
  refine z_icmp_lt (tgt := 49) dX11_turns_42 (by decide) hx2 (inRd (x := 96) (by decide)) (fun hc8 => ?_) (fun hc8 => ?_)
  · replace h := ifT hc8 h
    refine z_iconst dX11_turns_49 ?_
    refine z_weak (L' := [some (vR g 296), none, none, some (vI (I 348 (x2).toNat))]) (lsS (lsN (lsN (lsS ls0)))) ?_
    exact t_M_turns_b50in2 hb hz hG (hN2.1 348 (x2).toNat) inR_rem (inRd (x := 0) (by decide)) b01_0 h kE kS
  replace h := ifF hc8 h
  refine z_iconst dX11_turns_45 ?_
  refine z_goto (tgt := 50) dX11_turns_46 (by decide) ?_
  refine z_weak (L' := [some (vR g 296), none, none, some (vI (I 348 (x2).toNat))]) (lsS (lsN (lsN (lsS ls0)))) ?_
  exact t_M_turns_b50in2 hb hz hG (hN2.1 348 (x2).toNat) inR_rem (inRd (x := 1) (by decide)) b01_1 h kE kS
theorem l_M_turns_L2 {l : Launch} {g : GX} {φ : CX} {z : Nat} {G : Nat → Nat → Nat} {F : Nat} (hb : cb φ = z) (hz : 353 ≤ z) (hG : lyM G) {J : Nat → Nat → Int} (n : Nat) (s : Int × MI) (e : Int × MI) (h : iter (fun s : Int × MI => f_M_turns_L2 F s.1 s.2 J) n s = some e) (hs : inR s.1) (k : ((inR e.1) → Zt l g φ mu_M_turns 98 [some (vR g 296), none, some (vI e.1), none] [] (z, e.2, J, G))) : Zt l g φ mu_M_turns 2 [some (vR g 296), none, some (vI s.1), none] [] (z, s.2, J, G) := by
  refine iter_ind (Z := fun s : Int × MI => Zt l g φ mu_M_turns 2 [some (vR g 296), none, some (vI s.1), none] [] (z, s.2, J, G)) (ZE := fun e : Int × MI => ((inR e.1) → Zt l g φ mu_M_turns 98 [some (vR g 296), none, some (vI e.1), none] [] (z, e.2, J, G))) (Rg := fun s : Int × MI => inR s.1) ?_ n s e h hs k
  intro s r hr hst kE kS
  exact t_M_turns_L2 hb hz hG hr hst kE kS
set_option maxHeartbeats 1000000 in
theorem s_M_turns {l : Launch} {g : GX} {z : Nat} {G : Nat → Nat → Nat} {F : Nat} (hz : 353 ≤ z) (hG : lyM G) {x1 : Int} {I J : Nat → Nat → Int} (hx1 : inR x1) {res : MI} (h : f_M_turns F x1 I J = some res) : Spec l g 0 yX11_turns cX11_turns 4 none [vR g 296, vI x1] (z, I, J, G) none True (z, res, J, G) := by
  refine spec_of (μ := mu_M_turns) (k := 2) (L0 := [some (vR g 296), some (vI x1), none, none]) rfl mw_M_turns rfl rfl (Nat.le_refl _) (fun φ hb hE => ?_)
  refine z_iload_n dX11_turns_0 rfl ?_
  refine z_istore_n (L' := [some (vR g 296), some (vI x1), some (vI x1), none]) dX11_turns_1 rfl rfl rfl ?_
  refine z_weak (L' := [some (vR g 296), none, some (vI x1), none]) (lsS (lsN (lsS (lsN ls0)))) ?_
  obtain ⟨e10, h11, h⟩ := bindE h
  refine l_M_turns_L2 hb hz hG  _ _ _ h11 hx1 ?_
  refine fun h12 => ?_
  refine z_aload_n dX11_turns_98 rfl ?_
  refine y_getR dX11_turns_99 cl11 sh_296 (by decide) (Nat.le_trans (by decide) hz) 69 rfl rfl (fl_M_161) (ly_296_69 hG) (by decide) ?_
  refine z_iload_n dX11_turns_102 rfl ?_
  refine z_iconst dX11_turns_103 ?_
  obtain ⟨hg13, h⟩ := guardE h
  refine y_zast dX11_turns_104 sh_344 (by decide) (Nat.le_trans (by decide) hz) h12 hg13 b01_1 ?_
  obtain rfl := someE h
  exact z_vret dX11_turns_105 hE trivial rfl
set_option maxHeartbeats 1000000 in
theorem t_M_oneMore_L2 {l : Launch} {g : GX} {φ : CX} {z : Nat} {G : Nat → Nat → Nat} {F : Nat} (hb : cb φ = z) (hz : 353 ≤ z) (hG : lyM G) {x1 : Int} {I J : Nat → Nat → Int} (hx1 : inR x1) {res : (MI) ⊕ (Int × MI)} (h : f_M_oneMore_L2 F x1 I J = some res) (kE : ∀ e : MI, res = .inl e → ((True) → Zt l g φ mu_M_oneMore 22 [some (vR g 296), none, none] [] (z, e, J, G))) (kS : ∀ s : Int × MI, res = .inr s → (inR s.1) → Zt l g φ mu_M_oneMore 2 [some (vR g 296), some (vI s.1), none] [] (z, s.2, J, G)) : Zt l g φ mu_M_oneMore 2 [some (vR g 296), some (vI x1), none] [] (z, I, J, G) := by
  refine z_iload_n dX11_oneMore_2 rfl ?_
  refine z_sipush dX11_oneMore_3 (by decide +kernel) ?_
  refine z_icmp_ge (tgt := 22) dX11_oneMore_6 (by decide) hx1 (inRd (x := 192) (by decide)) (fun hc1 => ?_) (fun hc1 => ?_)
  · replace h := ifT hc1 h
    refine z_weak (L' := [some (vR g 296), none, none]) (lsS (lsN (lsN ls0))) ?_
    exact kE _ (someE h).symm trivial
  replace h := ifF hc1 h
  refine z_aload_n dX11_oneMore_9 rfl ?_
  refine y_getR dX11_oneMore_10 cl11 sh_296 (by decide) (Nat.le_trans (by decide) hz) 73 rfl rfl (fl_M_173) (ly_296_73 hG) (by decide) ?_
  refine z_iload_n dX11_oneMore_13 rfl ?_
  refine z_iconst dX11_oneMore_14 ?_
  obtain ⟨hg2, h⟩ := guardE h
  refine y_iast dX11_oneMore_15 sh_348 (by decide) (Nat.le_trans (by decide) hz) hx1 hg2 (inRd (x := (-1)) (by decide)) ?_
  refine z_iinc (L' := [some (vR g 296), some (vI (w32 (x1 + 1))), none]) dX11_oneMore_16 rfl rfl rfl rfl ?_
  refine z_goto (tgt := 2) dX11_oneMore_19 (by decide) ?_
  exact kS _ (someE h).symm (inR_w32 _)
theorem l_M_oneMore_L2 {l : Launch} {g : GX} {φ : CX} {z : Nat} {G : Nat → Nat → Nat} {F : Nat} (hb : cb φ = z) (hz : 353 ≤ z) (hG : lyM G) {J : Nat → Nat → Int} (n : Nat) (s : Int × MI) (e : MI) (h : iter (fun s : Int × MI => f_M_oneMore_L2 F s.1 s.2 J) n s = some e) (hs : inR s.1) (k : ((True) → Zt l g φ mu_M_oneMore 22 [some (vR g 296), none, none] [] (z, e, J, G))) : Zt l g φ mu_M_oneMore 2 [some (vR g 296), some (vI s.1), none] [] (z, s.2, J, G) := by
  refine iter_ind (Z := fun s : Int × MI => Zt l g φ mu_M_oneMore 2 [some (vR g 296), some (vI s.1), none] [] (z, s.2, J, G)) (ZE := fun e : MI => ((True) → Zt l g φ mu_M_oneMore 22 [some (vR g 296), none, none] [] (z, e, J, G))) (Rg := fun s : Int × MI => inR s.1) ?_ n s e h hs k
  intro s r hr hst kE kS
  exact t_M_oneMore_L2 hb hz hG hr hst kE kS
set_option maxHeartbeats 1000000 in
theorem t_M_oneMore_L29 {l : Launch} {g : GX} {φ : CX} {z : Nat} {G : Nat → Nat → Nat} {F : Nat} (hb : cb φ = z) (hz : 353 ≤ z) (hG : lyM G) {x1 : Int} {I J : Nat → Nat → Int} (hx1 : inR x1) {res : (MI) ⊕ (Int × MI)} (h : f_M_oneMore_L29 F x1 I J = some res) (kE : ∀ e : MI, res = .inl e → ((True) → Zt l g φ mu_M_oneMore 67 [some (vR g 296), none, none] [] (z, e, J, G))) (kS : ∀ s : Int × MI, res = .inr s → (inR s.1) → Zt l g φ mu_M_oneMore 29 [some (vR g 296), some (vI s.1), none] [] (z, s.2, J, G)) : Zt l g φ mu_M_oneMore 29 [some (vR g 296), some (vI x1), none] [] (z, I, J, G) := by
  refine z_iload_n dX11_oneMore_29 rfl ?_
  refine z_bipush dX11_oneMore_30 (by decide +kernel) ?_
  refine z_icmp_ge (tgt := 67) dX11_oneMore_32 (by decide) hx1 (inRd (x := 96) (by decide)) (fun hc6 => ?_) (fun hc6 => ?_)
  · replace h := ifT hc6 h
    refine z_weak (L' := [some (vR g 296), none, none]) (lsS (lsN (lsN ls0))) ?_
    exact kE _ (someE h).symm trivial
  replace h := ifF hc6 h
  refine z_aload_n dX11_oneMore_35 rfl ?_
  refine z_bipush dX11_oneMore_36 (by decide +kernel) ?_
  refine z_iload_n dX11_oneMore_38 rfl ?_
  obtain ⟨q7, hq8, h⟩ := bindE h
  refine z_callV (As := [vI 96, vI x1]) (rest := []) (s_M_leaps hz hG (inRd (x := 96) (by decide)) hx1 hq8) dX11_oneMore_39 mw_M_leaps cl11 sh_296 (by decide) (Nat.le_trans (by decide) hz) ml_M_404 im_M_leaps se_M_leaps rfl rfl rfl rfl (Nat.le_refl _) (Nat.le_of_eq hb.symm) (fun hp9 => ?_)
  show Zt _ _ _ _ 42 _ [vI q7] (z, I, J, G)
  refine z_if_eq (tgt := 61) dX11_oneMore_42 (by decide) (inR_bool hp9) (fun hc10 => ?_) (fun hc10 => ?_)
  · replace h := ifT hc10 h
    refine z_iinc (L' := [some (vR g 296), some (vI (w32 (x1 + 1))), none]) dX11_oneMore_61 rfl rfl rfl rfl ?_
    refine z_goto (tgt := 29) dX11_oneMore_64 (by decide) ?_
    exact kS _ (someE h).symm (inR_w32 _)
  replace h := ifF hc10 h
  refine z_aload_n dX11_oneMore_45 rfl ?_
  refine y_getR dX11_oneMore_46 cl11 sh_296 (by decide) (Nat.le_trans (by decide) hz) 69 rfl rfl (fl_M_161) (ly_296_69 hG) (by decide) ?_
  refine z_iload_n dX11_oneMore_49 rfl ?_
  obtain ⟨hg11, h⟩ := guardE h
  refine z_nm (fun hN12 => ?_)
  refine y_zald dX11_oneMore_50 sh_344 (by decide) (Nat.le_trans (by decide) hz) hx1 hg11 ?_
  refine z_if_ne (tgt := 61) dX11_oneMore_51 (by decide) (hN12.1 344 (x1).toNat) (fun hc13 => ?_) (fun hc13 => ?_)
  · replace h := ifT hc13 h
    refine z_iinc (L' := [some (vR g 296), some (vI (w32 (x1 + 1))), none]) dX11_oneMore_61 rfl rfl rfl rfl ?_
    refine z_goto (tgt := 29) dX11_oneMore_64 (by decide) ?_
    exact kS _ (someE h).symm (inR_w32 _)
  replace h := ifF (fun q => q hc13) h
  refine z_aload_n dX11_oneMore_54 rfl ?_
  refine z_iload_n dX11_oneMore_55 rfl ?_
  refine z_bipush dX11_oneMore_56 (by decide +kernel) ?_
  obtain ⟨q14, hq15, h⟩ := bindE h
  refine z_callV (As := [vI x1, vI (-2)]) (rest := []) (s_M_finds hz hG hx1 (inRd (x := (-2)) (by decide)) hq15) dX11_oneMore_58 mw_M_finds cl11 sh_296 (by decide) (Nat.le_trans (by decide) hz) ml_M_454 im_M_finds se_M_finds rfl rfl rfl rfl (Nat.le_refl _) (Nat.le_of_eq hb.symm) (fun hp16 => ?_)
  show Zt _ _ _ _ 61 _ [] (z, q14, J, G)
  refine z_iinc (L' := [some (vR g 296), some (vI (w32 (x1 + 1))), none]) dX11_oneMore_61 rfl rfl rfl rfl ?_
  refine z_goto (tgt := 29) dX11_oneMore_64 (by decide) ?_
  exact kS _ (someE h).symm (inR_w32 _)
theorem l_M_oneMore_L29 {l : Launch} {g : GX} {φ : CX} {z : Nat} {G : Nat → Nat → Nat} {F : Nat} (hb : cb φ = z) (hz : 353 ≤ z) (hG : lyM G) {J : Nat → Nat → Int} (n : Nat) (s : Int × MI) (e : MI) (h : iter (fun s : Int × MI => f_M_oneMore_L29 F s.1 s.2 J) n s = some e) (hs : inR s.1) (k : ((True) → Zt l g φ mu_M_oneMore 67 [some (vR g 296), none, none] [] (z, e, J, G))) : Zt l g φ mu_M_oneMore 29 [some (vR g 296), some (vI s.1), none] [] (z, s.2, J, G) := by
  refine iter_ind (Z := fun s : Int × MI => Zt l g φ mu_M_oneMore 29 [some (vR g 296), some (vI s.1), none] [] (z, s.2, J, G)) (ZE := fun e : MI => ((True) → Zt l g φ mu_M_oneMore 67 [some (vR g 296), none, none] [] (z, e, J, G))) (Rg := fun s : Int × MI => inR s.1) ?_ n s e h hs k
  intro s r hr hst kE kS
  exact t_M_oneMore_L29 hb hz hG hr hst kE kS
set_option maxHeartbeats 1000000 in
theorem t_M_oneMore_b142in69 {l : Launch} {g : GX} {φ : CX} {z : Nat} {G : Nat → Nat → Nat} {F : Nat} (hb : cb φ = z) (hz : 353 ≤ z) (hG : lyM G) {x1 : Int} {x2 : Int} {I J : Nat → Nat → Int} (hx1 : inR x1) (hx2 : inR x2) {res : ((Int × Int × MI) ⊕ (MI)) ⊕ (Int × MI)} (h : f_M_oneMore_b142in69 F x1 x2 I J = some res) (kE : ∀ e : (Int × Int × MI) ⊕ (MI), res = .inl e → ((fun w : (Int × Int × MI) ⊕ (MI) => (match w with | .inl e0 => ((inR e0.1 ∧ inR e0.2.1) → Zt l g φ mu_M_oneMore 123 [some (vR g 296), some (vI e0.1), some (vI e0.2.1)] [] (z, e0.2.2, J, G)) | .inr o0 => ((True) → Zt l g φ mu_M_oneMore 153 [none, none, none] [] (z, o0, J, G)))) e)) (kS : ∀ s : Int × MI, res = .inr s → (inR s.1) → Zt l g φ mu_M_oneMore 69 [some (vR g 296), some (vI s.1), none] [] (z, s.2, J, G)) : Zt l g φ mu_M_oneMore 142 [some (vR g 296), some (vI x1), some (vI x2)] [] (z, I, J, G) := by
  refine z_aload_n dX11_oneMore_142 rfl ?_
  refine z_iload_n dX11_oneMore_143 rfl ?_
  obtain ⟨q28, hq29, h⟩ := bindE h
  refine z_callV (As := [vI x2]) (rest := []) (s_M_findsOut hz hG hx2 hq29) dX11_oneMore_144 mw_M_findsOut cl11 sh_296 (by decide) (Nat.le_trans (by decide) hz) ml_M_463 im_M_findsOut se_M_findsOut rfl rfl rfl rfl (Nat.le_refl _) (Nat.le_of_eq hb.symm) (fun hp30 => ?_)
  show Zt _ _ _ _ 147 _ [] (z, q28, J, G)
  refine z_iinc (L' := [some (vR g 296), some (vI (w32 (x1 + 1))), some (vI x2)]) dX11_oneMore_147 rfl rfl rfl rfl ?_
  refine z_goto (tgt := 69) dX11_oneMore_150 (by decide) ?_
  refine z_weak (L' := [some (vR g 296), some (vI (w32 (x1 + 1))), none]) (lsS (lsS (lsN ls0))) ?_
  exact kS _ (someE h).symm (inR_w32 _)
set_option maxHeartbeats 1000000 in
theorem t_M_oneMore_L69 {l : Launch} {g : GX} {φ : CX} {z : Nat} {G : Nat → Nat → Nat} {F : Nat} (hb : cb φ = z) (hz : 353 ≤ z) (hG : lyM G) {x1 : Int} {I J : Nat → Nat → Int} (hx1 : inR x1) {res : ((Int × Int × MI) ⊕ (MI)) ⊕ (Int × MI)} (h : f_M_oneMore_L69 F x1 I J = some res) (kE : ∀ e : (Int × Int × MI) ⊕ (MI), res = .inl e → ((fun w : (Int × Int × MI) ⊕ (MI) => (match w with | .inl e0 => ((inR e0.1 ∧ inR e0.2.1) → Zt l g φ mu_M_oneMore 123 [some (vR g 296), some (vI e0.1), some (vI e0.2.1)] [] (z, e0.2.2, J, G)) | .inr o0 => ((True) → Zt l g φ mu_M_oneMore 153 [none, none, none] [] (z, o0, J, G)))) e)) (kS : ∀ s : Int × MI, res = .inr s → (inR s.1) → Zt l g φ mu_M_oneMore 69 [some (vR g 296), some (vI s.1), none] [] (z, s.2, J, G)) : Zt l g φ mu_M_oneMore 69 [some (vR g 296), some (vI x1), none] [] (z, I, J, G) := by
  refine z_iload_n dX11_oneMore_69 rfl ?_
  refine z_aload_n dX11_oneMore_70 rfl ?_
  refine z_nm (fun hN20 => ?_)
  refine y_getI dX11_oneMore_71 cl11 sh_296 (by decide) (Nat.le_trans (by decide) hz) 75 rfl rfl (fl_M_451) ?_
  refine z_icmp_ge (tgt := 153) dX11_oneMore_74 (by decide) hx1 (hN20.1 296 75) (fun hc21 => ?_) (fun hc21 => ?_)
  · replace h := ifT hc21 h
    refine z_weak (L' := [none, none, none]) (lsN (lsN (lsN ls0))) ?_
    exact kE _ (someE h).symm trivial
  replace h := ifF hc21 h
  refine z_aload_n dX11_oneMore_77 rfl ?_
  refine y_getR dX11_oneMore_78 cl11 sh_296 (by decide) (Nat.le_trans (by decide) hz) 74 rfl rfl (fl_M_176) (ly_296_74 hG) (by decide) ?_
  refine z_iload_n dX11_oneMore_81 rfl ?_
  obtain ⟨hg22, h⟩ := guardE h
  refine y_iald dX11_oneMore_82 sh_349 (by decide) (Nat.le_trans (by decide) hz) hx1 hg22 ?_
  refine z_bipush dX11_oneMore_83 (by decide +kernel) ?_
  refine z_irem dX11_oneMore_85 (inRd (x := 96) (by decide)) (by decide) ?_
  refine z_istore_n (L' := [some (vR g 296), some (vI x1), some (vI (rem32 (I 349 (x1).toNat) 96))]) dX11_oneMore_86 rfl rfl rfl ?_
  refine z_aload_n dX11_oneMore_87 rfl ?_
  refine y_getR dX11_oneMore_88 cl11 sh_296 (by decide) (Nat.le_trans (by decide) hz) 74 rfl rfl (fl_M_176) (ly_296_74 hG) (by decide) ?_
  refine z_iload_n dX11_oneMore_91 rfl ?_
  refine y_iald dX11_oneMore_92 sh_349 (by decide) (Nat.le_trans (by decide) hz) hx1 hg22 ?_
  refine z_bipush dX11_oneMore_93 (by decide +kernel) ?_
  refine z_icmp_ge (tgt := 106) dX11_oneMore_95 (by decide) (hN20.1 349 (x1).toNat) (inRd (x := 96) (by decide)) (fun hc23 => ?_) (fun hc23 => ?_)
  · replace h := ifT hc23 h
    refine z_aload_n dX11_oneMore_106 rfl ?_
    refine z_iload_n dX11_oneMore_107 rfl ?_
    obtain ⟨q24, hq25, h⟩ := bindE h
    refine z_callV (As := [vI (rem32 (I 349 (x1).toNat) 96)]) (rest := []) (s_M_ends hz hG inR_rem hq25) dX11_oneMore_108 mw_M_ends cl11 sh_296 (by decide) (Nat.le_trans (by decide) hz) ml_M_401 im_M_ends se_M_ends rfl rfl rfl rfl (Nat.le_refl _) (Nat.le_of_eq hb.symm) (fun hp26 => ?_)
    show Zt _ _ _ _ 111 _ [vI q24] (z, I, J, G)
    refine z_if_eq (tgt := 142) dX11_oneMore_111 (by decide) (inR_bool hp26) (fun hc27 => ?_) (fun hc27 => ?_)
    · replace h := ifT hc27 h
      exact t_M_oneMore_b142in69 hb hz hG hx1 inR_rem h kE kS
    replace h := ifF hc27 h
    refine z_aload_n dX11_oneMore_114 rfl ?_
    refine y_getR dX11_oneMore_115 cl11 sh_296 (by decide) (Nat.le_trans (by decide) hz) 72 rfl rfl (fl_M_170) (ly_296_72 hG) (by decide) ?_
    refine z_iload_n dX11_oneMore_118 rfl ?_
    obtain ⟨hg31, h⟩ := guardE h
    refine y_zald dX11_oneMore_119 sh_347 (by decide) (Nat.le_trans (by decide) hz) inR_rem hg31 ?_
    refine z_if_ne (tgt := 142) dX11_oneMore_120 (by decide) (hN20.1 347 ((rem32 (I 349 (x1).toNat) 96)).toNat) (fun hc32 => ?_) (fun hc32 => ?_)
    · replace h := ifT hc32 h
      exact t_M_oneMore_b142in69 hb hz hG hx1 inR_rem h kE kS
    replace h := ifF (fun q => q hc32) h
    exact kE _ (someE h).symm ⟨hx1, inR_rem⟩
  replace h := ifF hc23 h
  refine z_aload_n dX11_oneMore_98 rfl ?_
  refine z_iload_n dX11_oneMore_99 rfl ?_
  obtain ⟨q33, hq34, h⟩ := bindE h
  refine z_callV (As := [vI (rem32 (I 349 (x1).toNat) 96)]) (rest := []) (s_M_findsIn hz hG inR_rem hq34) dX11_oneMore_100 mw_M_findsIn cl11 sh_296 (by decide) (Nat.le_trans (by decide) hz) ml_M_457 im_M_findsIn se_M_findsIn rfl rfl rfl rfl (Nat.le_refl _) (Nat.le_of_eq hb.symm) (fun hp35 => ?_)
  show Zt _ _ _ _ 103 _ [] (z, q33, J, G)
  refine z_goto (tgt := 147) dX11_oneMore_103 (by decide) ?_
  refine z_iinc (L' := [some (vR g 296), some (vI (w32 (x1 + 1))), some (vI (rem32 (I 349 (x1).toNat) 96))]) dX11_oneMore_147 rfl rfl rfl rfl ?_
  refine z_goto (tgt := 69) dX11_oneMore_150 (by decide) ?_
  refine z_weak (L' := [some (vR g 296), some (vI (w32 (x1 + 1))), none]) (lsS (lsS (lsN ls0))) ?_
  exact kS _ (someE h).symm (inR_w32 _)
theorem l_M_oneMore_L69 {l : Launch} {g : GX} {φ : CX} {z : Nat} {G : Nat → Nat → Nat} {F : Nat} (hb : cb φ = z) (hz : 353 ≤ z) (hG : lyM G) {J : Nat → Nat → Int} (n : Nat) (s : Int × MI) (e : (Int × Int × MI) ⊕ (MI)) (h : iter (fun s : Int × MI => f_M_oneMore_L69 F s.1 s.2 J) n s = some e) (hs : inR s.1) (k : ((fun w : (Int × Int × MI) ⊕ (MI) => (match w with | .inl e0 => ((inR e0.1 ∧ inR e0.2.1) → Zt l g φ mu_M_oneMore 123 [some (vR g 296), some (vI e0.1), some (vI e0.2.1)] [] (z, e0.2.2, J, G)) | .inr o0 => ((True) → Zt l g φ mu_M_oneMore 153 [none, none, none] [] (z, o0, J, G)))) e)) : Zt l g φ mu_M_oneMore 69 [some (vR g 296), some (vI s.1), none] [] (z, s.2, J, G) := by
  refine iter_ind (Z := fun s : Int × MI => Zt l g φ mu_M_oneMore 69 [some (vR g 296), some (vI s.1), none] [] (z, s.2, J, G)) (ZE := fun e : (Int × Int × MI) ⊕ (MI) => ((fun w : (Int × Int × MI) ⊕ (MI) => (match w with | .inl e0 => ((inR e0.1 ∧ inR e0.2.1) → Zt l g φ mu_M_oneMore 123 [some (vR g 296), some (vI e0.1), some (vI e0.2.1)] [] (z, e0.2.2, J, G)) | .inr o0 => ((True) → Zt l g φ mu_M_oneMore 153 [none, none, none] [] (z, o0, J, G)))) e)) (Rg := fun s : Int × MI => inR s.1) ?_ n s e h hs k
  intro s r hr hst kE kS
  exact t_M_oneMore_L69 hb hz hG hr hst kE kS
set_option maxHeartbeats 1000000 in
theorem s_M_oneMore {l : Launch} {g : GX} {z : Nat} {G : Nat → Nat → Nat} {F : Nat} (hz : 353 ≤ z) (hG : lyM G) {I J : Nat → Nat → Int} {res : Int × MI} (h : f_M_oneMore F I J = some res) : Spec l g 2 yX11_oneMore cX11_oneMore 3 (some .boolean) [vR g 296] (z, I, J, G) (some (vI res.1)) (res.1 = 0 ∨ res.1 = 1) (z, res.2, J, G) := by
  refine spec_of (μ := mu_M_oneMore) (k := 2) (L0 := [some (vR g 296), none, none]) rfl mw_M_oneMore rfl rfl (Nat.le_refl _) (fun φ hb hE => ?_)
  refine z_iconst dX11_oneMore_0 ?_
  refine z_istore_n (L' := [some (vR g 296), some (vI 0), none]) dX11_oneMore_1 rfl rfl rfl ?_
  obtain ⟨e3, h4, h⟩ := bindE h
  refine l_M_oneMore_L2 hb hz hG  _ _ _ h4 (inRd (x := 0) (by decide)) ?_
  refine fun h5 => ?_
  refine z_aload_n dX11_oneMore_22 rfl ?_
  refine z_iconst dX11_oneMore_23 ?_
  refine y_putI dX11_oneMore_24 cl11 sh_296 (by decide) (Nat.le_trans (by decide) hz) 75 rfl rfl rfl (fl_M_451) rfl rfl (inRd (x := 0) (by decide)) ?_
  refine z_iconst dX11_oneMore_27 ?_
  refine z_istore_n (L' := [some (vR g 296), some (vI 0), none]) dX11_oneMore_28 rfl rfl rfl ?_
  obtain ⟨e17, h18, h⟩ := bindE h
  refine l_M_oneMore_L29 hb hz hG  _ _ _ h18 (inRd (x := 0) (by decide)) ?_
  refine fun h19 => ?_
  refine z_iconst dX11_oneMore_67 ?_
  refine z_istore_n (L' := [some (vR g 296), some (vI 0), none]) dX11_oneMore_68 rfl rfl rfl ?_
  obtain ⟨e36, h37, h⟩ := bindE h
  rcases e36 with e38 | o39
  · refine l_M_oneMore_L69 hb hz hG  _ _ _ h37 (inRd (x := 0) (by decide)) ?_
    refine fun h40 => ?_
    refine z_aload_n dX11_oneMore_123 rfl ?_
    refine y_getR dX11_oneMore_124 cl11 sh_296 (by decide) (Nat.le_trans (by decide) hz) 72 rfl rfl (fl_M_170) (ly_296_72 hG) (by decide) ?_
    refine z_iload_n dX11_oneMore_127 rfl ?_
    refine z_iconst dX11_oneMore_128 ?_
    obtain ⟨hg41, h⟩ := guardE h
    refine y_zast dX11_oneMore_129 sh_347 (by decide) (Nat.le_trans (by decide) hz) h40.2 hg41 b01_1 ?_
    refine z_aload_n dX11_oneMore_130 rfl ?_
    refine z_aload_n dX11_oneMore_131 rfl ?_
    refine y_getR dX11_oneMore_132 cl11 sh_296 (by decide) (Nat.le_trans (by decide) hz) 74 rfl rfl (fl_M_176) (ly_296_74 hG) (by decide) ?_
    refine z_iload_n dX11_oneMore_135 rfl ?_
    obtain ⟨hg42, h⟩ := guardE h
    refine z_nm (fun hN43 => ?_)
    refine y_iald dX11_oneMore_136 sh_349 (by decide) (Nat.le_trans (by decide) hz) h40.1 hg42 ?_
    obtain ⟨q44, hq45, h⟩ := bindE h
    refine z_callV (As := [vI ((up2 e38.2.2 347 (e38.2.1).toNat 1) 349 (e38.1).toNat)]) (rest := []) (s_M_turns hz hG (hN43.1 349 (e38.1).toNat) hq45) dX11_oneMore_137 mw_M_turns cl11 sh_296 (by decide) (Nat.le_trans (by decide) hz) ml_M_460 im_M_turns se_M_turns rfl rfl rfl rfl (Nat.le_refl _) (Nat.le_of_eq hb.symm) (fun hp46 => ?_)
    show Zt _ _ _ _ 140 _ [] (z, q44, J, G)
    refine z_iconst dX11_oneMore_140 ?_
    obtain rfl := someE h
    exact z_zret dX11_oneMore_141 hE b01_1 b01_1 rfl
  refine l_M_oneMore_L69 hb hz hG  _ _ _ h37 (inRd (x := 0) (by decide)) ?_
  refine fun h47 => ?_
  refine z_iconst dX11_oneMore_153 ?_
  obtain rfl := someE h
  exact z_zret dX11_oneMore_154 hE b01_0 b01_0 rfl
set_option maxHeartbeats 1000000 in
theorem t_M_fords_L26 {l : Launch} {g : GX} {φ : CX} {z : Nat} {G : Nat → Nat → Nat} {F : Nat} (hb : cb φ = z) (hz : 353 ≤ z) (hG : lyM G) {x1 : Int} {I J : Nat → Nat → Int} (hx1 : inR x1) {res : (MI) ⊕ (Int × MI)} (h : f_M_fords_L26 F x1 I J = some res) (kE : ∀ e : MI, res = .inl e → ((True) → Zt l g φ mu_M_fords 59 [some (vR g 296), none] [] (z, e, J, G))) (kS : ∀ s : Int × MI, res = .inr s → (inR s.1) → Zt l g φ mu_M_fords 26 [some (vR g 296), some (vI s.1)] [] (z, s.2, J, G)) : Zt l g φ mu_M_fords 26 [some (vR g 296), some (vI x1)] [] (z, I, J, G) := by
  refine z_iload_n dX11_fords_26 rfl ?_
  refine z_bipush dX11_fords_27 (by decide +kernel) ?_
  refine z_icmp_ge (tgt := 59) dX11_fords_29 (by decide) hx1 (inRd (x := 96) (by decide)) (fun hc9 => ?_) (fun hc9 => ?_)
  · replace h := ifT hc9 h
    refine z_weak (L' := [some (vR g 296), none]) (lsS (lsN ls0)) ?_
    exact kE _ (someE h).symm trivial
  replace h := ifF hc9 h
  refine z_aload_n dX11_fords_32 rfl ?_
  refine y_getR dX11_fords_33 cl11 sh_296 (by decide) (Nat.le_trans (by decide) hz) 69 rfl rfl (fl_M_161) (ly_296_69 hG) (by decide) ?_
  refine z_iload_n dX11_fords_36 rfl ?_
  refine z_iconst dX11_fords_37 ?_
  obtain ⟨hg10, h⟩ := guardE h
  refine y_zast dX11_fords_38 sh_344 (by decide) (Nat.le_trans (by decide) hz) hx1 hg10 b01_0 ?_
  refine z_aload_n dX11_fords_39 rfl ?_
  refine y_getR dX11_fords_40 cl11 sh_296 (by decide) (Nat.le_trans (by decide) hz) 70 rfl rfl (fl_M_164) (ly_296_70 hG) (by decide) ?_
  refine z_iload_n dX11_fords_43 rfl ?_
  refine z_iconst dX11_fords_44 ?_
  refine y_zast dX11_fords_45 sh_345 (by decide) (Nat.le_trans (by decide) hz) hx1 hg10 b01_0 ?_
  refine z_aload_n dX11_fords_46 rfl ?_
  refine y_getR dX11_fords_47 cl11 sh_296 (by decide) (Nat.le_trans (by decide) hz) 72 rfl rfl (fl_M_170) (ly_296_72 hG) (by decide) ?_
  refine z_iload_n dX11_fords_50 rfl ?_
  refine z_iconst dX11_fords_51 ?_
  refine y_zast dX11_fords_52 sh_347 (by decide) (Nat.le_trans (by decide) hz) hx1 hg10 b01_0 ?_
  refine z_iinc (L' := [some (vR g 296), some (vI (w32 (x1 + 1)))]) dX11_fords_53 rfl rfl rfl rfl ?_
  refine z_goto (tgt := 26) dX11_fords_56 (by decide) ?_
  exact kS _ (someE h).symm (inR_w32 _)
theorem l_M_fords_L26 {l : Launch} {g : GX} {φ : CX} {z : Nat} {G : Nat → Nat → Nat} {F : Nat} (hb : cb φ = z) (hz : 353 ≤ z) (hG : lyM G) {J : Nat → Nat → Int} (n : Nat) (s : Int × MI) (e : MI) (h : iter (fun s : Int × MI => f_M_fords_L26 F s.1 s.2 J) n s = some e) (hs : inR s.1) (k : ((True) → Zt l g φ mu_M_fords 59 [some (vR g 296), none] [] (z, e, J, G))) : Zt l g φ mu_M_fords 26 [some (vR g 296), some (vI s.1)] [] (z, s.2, J, G) := by
  refine iter_ind (Z := fun s : Int × MI => Zt l g φ mu_M_fords 26 [some (vR g 296), some (vI s.1)] [] (z, s.2, J, G)) (ZE := fun e : MI => ((True) → Zt l g φ mu_M_fords 59 [some (vR g 296), none] [] (z, e, J, G))) (Rg := fun s : Int × MI => inR s.1) ?_ n s e h hs k
  intro s r hr hst kE kS
  exact t_M_fords_L26 hb hz hG hr hst kE kS
set_option maxHeartbeats 1000000 in
theorem t_M_fords_L61 {l : Launch} {g : GX} {φ : CX} {z : Nat} {G : Nat → Nat → Nat} {F : Nat} (hb : cb φ = z) (hz : 353 ≤ z) (hG : lyM G) {x1 : Int} {I J : Nat → Nat → Int} (hx1 : inR x1) {res : (MI) ⊕ (Int × MI)} (h : f_M_fords_L61 F x1 I J = some res) (kE : ∀ e : MI, res = .inl e → ((True) → Zt l g φ mu_M_fords 81 [some (vR g 296), none] [] (z, e, J, G))) (kS : ∀ s : Int × MI, res = .inr s → (inR s.1) → Zt l g φ mu_M_fords 61 [some (vR g 296), some (vI s.1)] [] (z, s.2, J, G)) : Zt l g φ mu_M_fords 61 [some (vR g 296), some (vI x1)] [] (z, I, J, G) := by
  refine z_iload_n dX11_fords_61 rfl ?_
  refine z_sipush dX11_fords_62 (by decide +kernel) ?_
  refine z_icmp_ge (tgt := 81) dX11_fords_65 (by decide) hx1 (inRd (x := 9216) (by decide)) (fun hc14 => ?_) (fun hc14 => ?_)
  · replace h := ifT hc14 h
    refine z_weak (L' := [some (vR g 296), none]) (lsS (lsN ls0)) ?_
    exact kE _ (someE h).symm trivial
  replace h := ifF hc14 h
  refine z_aload_n dX11_fords_68 rfl ?_
  refine y_getR dX11_fords_69 cl11 sh_296 (by decide) (Nat.le_trans (by decide) hz) 71 rfl rfl (fl_M_167) (ly_296_71 hG) (by decide) ?_
  refine z_iload_n dX11_fords_72 rfl ?_
  refine z_iconst dX11_fords_73 ?_
  obtain ⟨hg15, h⟩ := guardE h
  refine y_zast dX11_fords_74 sh_346 (by decide) (Nat.le_trans (by decide) hz) hx1 hg15 b01_0 ?_
  refine z_iinc (L' := [some (vR g 296), some (vI (w32 (x1 + 1)))]) dX11_fords_75 rfl rfl rfl rfl ?_
  refine z_goto (tgt := 61) dX11_fords_78 (by decide) ?_
  exact kS _ (someE h).symm (inR_w32 _)
theorem l_M_fords_L61 {l : Launch} {g : GX} {φ : CX} {z : Nat} {G : Nat → Nat → Nat} {F : Nat} (hb : cb φ = z) (hz : 353 ≤ z) (hG : lyM G) {J : Nat → Nat → Int} (n : Nat) (s : Int × MI) (e : MI) (h : iter (fun s : Int × MI => f_M_fords_L61 F s.1 s.2 J) n s = some e) (hs : inR s.1) (k : ((True) → Zt l g φ mu_M_fords 81 [some (vR g 296), none] [] (z, e, J, G))) : Zt l g φ mu_M_fords 61 [some (vR g 296), some (vI s.1)] [] (z, s.2, J, G) := by
  refine iter_ind (Z := fun s : Int × MI => Zt l g φ mu_M_fords 61 [some (vR g 296), some (vI s.1)] [] (z, s.2, J, G)) (ZE := fun e : MI => ((True) → Zt l g φ mu_M_fords 81 [some (vR g 296), none] [] (z, e, J, G))) (Rg := fun s : Int × MI => inR s.1) ?_ n s e h hs k
  intro s r hr hst kE kS
  exact t_M_fords_L61 hb hz hG hr hst kE kS
set_option maxHeartbeats 1000000 in
theorem t_M_fords_L83 {l : Launch} {g : GX} {φ : CX} {z : Nat} {G : Nat → Nat → Nat} {F : Nat} (hb : cb φ = z) (hz : 353 ≤ z) (hG : lyM G) {x1 : Int} {I J : Nat → Nat → Int} (hx1 : inR x1) {res : (Int × MI) ⊕ (Int × MI)} (h : f_M_fords_L83 F x1 I J = some res) (kE : ∀ e : Int × MI, res = .inl e → ((inR e.1) → Zt l g φ mu_M_fords 96 [none, some (vI e.1)] [] (z, e.2, J, G))) (kS : ∀ s : Int × MI, res = .inr s → (inR s.1) → Zt l g φ mu_M_fords 83 [some (vR g 296), some (vI s.1)] [] (z, s.2, J, G)) : Zt l g φ mu_M_fords 83 [some (vR g 296), some (vI x1)] [] (z, I, J, G) := by
  refine z_aload_n dX11_fords_83 rfl ?_
  obtain ⟨q19, hq20, h⟩ := bindE h
  refine z_callV (As := []) (rest := []) (s_M_oneMore hz hG  hq20) dX11_fords_84 mw_M_oneMore cl11 sh_296 (by decide) (Nat.le_trans (by decide) hz) ml_M_466 im_M_oneMore se_M_oneMore rfl rfl rfl rfl (Nat.le_refl _) (Nat.le_of_eq hb.symm) (fun hp21 => ?_)
  show Zt _ _ _ _ 87 _ [vI q19.1] (z, q19.2, J, G)
  refine z_if_eq (tgt := 96) dX11_fords_87 (by decide) (inR_bool hp21) (fun hc22 => ?_) (fun hc22 => ?_)
  · replace h := ifT hc22 h
    refine z_weak (L' := [none, some (vI x1)]) (lsN (lsS ls0)) ?_
    exact kE _ (someE h).symm hx1
  replace h := ifF hc22 h
  refine z_iinc (L' := [some (vR g 296), some (vI (w32 (x1 + 1)))]) dX11_fords_90 rfl rfl rfl rfl ?_
  refine z_goto (tgt := 83) dX11_fords_93 (by decide) ?_
  exact kS _ (someE h).symm (inR_w32 _)
theorem l_M_fords_L83 {l : Launch} {g : GX} {φ : CX} {z : Nat} {G : Nat → Nat → Nat} {F : Nat} (hb : cb φ = z) (hz : 353 ≤ z) (hG : lyM G) {J : Nat → Nat → Int} (n : Nat) (s : Int × MI) (e : Int × MI) (h : iter (fun s : Int × MI => f_M_fords_L83 F s.1 s.2 J) n s = some e) (hs : inR s.1) (k : ((inR e.1) → Zt l g φ mu_M_fords 96 [none, some (vI e.1)] [] (z, e.2, J, G))) : Zt l g φ mu_M_fords 83 [some (vR g 296), some (vI s.1)] [] (z, s.2, J, G) := by
  refine iter_ind (Z := fun s : Int × MI => Zt l g φ mu_M_fords 83 [some (vR g 296), some (vI s.1)] [] (z, s.2, J, G)) (ZE := fun e : Int × MI => ((inR e.1) → Zt l g φ mu_M_fords 96 [none, some (vI e.1)] [] (z, e.2, J, G))) (Rg := fun s : Int × MI => inR s.1) ?_ n s e h hs k
  intro s r hr hst kE kS
  exact t_M_fords_L83 hb hz hG hr hst kE kS
set_option maxHeartbeats 1000000 in
theorem s_M_fords {l : Launch} {g : GX} {z : Nat} {G : Nat → Nat → Nat} {F : Nat} (hz : 353 ≤ z) (hG : lyM G) {I J : Nat → Nat → Int} {res : Int × MI} (h : f_M_fords F I J = some res) : Spec l g 4 yX11_fords cX11_fords 2 (some .int) [vR g 296] (z, I, J, G) (some (vI res.1)) (inR res.1) (z, res.2, J, G) := by
  refine spec_of (μ := mu_M_fords) (k := 1) (L0 := [some (vR g 296), none]) rfl mw_M_fords rfl rfl (Nat.le_refl _) (fun φ hb hE => ?_)
  refine z_aload_n dX11_fords_0 rfl ?_
  refine z_sipush dX11_fords_1 (by decide +kernel) ?_
  obtain ⟨q1, hq2, h⟩ := bindE h
  refine z_callV (As := [vI 255]) (rest := []) (s_M_isOverBy hz hG (inRd (x := 255) (by decide)) hq2) dX11_fords_4 mw_M_isOverBy cl11 sh_296 (by decide) (Nat.le_trans (by decide) hz) ml_M_448 im_M_isOverBy se_M_isOverBy rfl rfl rfl rfl (Nat.le_refl _) (Nat.le_of_eq hb.symm) (fun hp3 => ?_)
  show Zt _ _ _ _ 7 _ [vI q1.1] (z, q1.2, J, G)
  refine z_if_ne (tgt := 12) dX11_fords_7 (by decide) (inR_bool hp3) (fun hc4 => ?_) (fun hc4 => ?_)
  · replace h := ifT hc4 h
    refine z_aload_n dX11_fords_12 rfl ?_
    refine z_bipush dX11_fords_13 (by decide +kernel) ?_
    obtain ⟨q5, hq6, h⟩ := bindE h
    refine z_callV (As := [vI 96]) (rest := []) (s_M_ends hz hG (inRd (x := 96) (by decide)) hq6) dX11_fords_15 mw_M_ends cl11 sh_296 (by decide) (Nat.le_trans (by decide) hz) ml_M_401 im_M_ends se_M_ends rfl rfl rfl rfl (Nat.le_refl _) (Nat.le_of_eq hb.symm) (fun hp7 => ?_)
    show Zt _ _ _ _ 18 _ [vI q5] (z, q1.2, J, G)
    refine z_if_eq (tgt := 24) dX11_fords_18 (by decide) (inR_bool hp7) (fun hc8 => ?_) (fun hc8 => ?_)
    · replace h := ifT hc8 h
      refine z_iconst dX11_fords_24 ?_
      refine z_istore_n (L' := [some (vR g 296), some (vI 0)]) dX11_fords_25 rfl rfl rfl ?_
      obtain ⟨e11, h12, h⟩ := bindE h
      refine l_M_fords_L26 hb hz hG  _ _ _ h12 (inRd (x := 0) (by decide)) ?_
      refine fun h13 => ?_
      refine z_iconst dX11_fords_59 ?_
      refine z_istore_n (L' := [some (vR g 296), some (vI 0)]) dX11_fords_60 rfl rfl rfl ?_
      obtain ⟨e16, h17, h⟩ := bindE h
      refine l_M_fords_L61 hb hz hG  _ _ _ h17 (inRd (x := 0) (by decide)) ?_
      refine fun h18 => ?_
      refine z_iconst dX11_fords_81 ?_
      refine z_istore_n (L' := [some (vR g 296), some (vI 0)]) dX11_fords_82 rfl rfl rfl ?_
      obtain ⟨e23, h24, h⟩ := bindE h
      refine l_M_fords_L83 hb hz hG  _ _ _ h24 (inRd (x := 0) (by decide)) ?_
      refine fun h25 => ?_
      refine z_iload_n dX11_fords_96 rfl ?_
      obtain rfl := someE h
      exact z_iret dX11_fords_97 hE h25 rfl
    replace h := ifF hc8 h
    refine z_bipush dX11_fords_21 (by decide +kernel) ?_
    obtain rfl := someE h
    exact z_iret dX11_fords_23 hE (inRd (x := (-2)) (by decide)) rfl
  replace h := ifF (fun q => q hc4) h
  refine z_iconst dX11_fords_10 ?_
  obtain rfl := someE h
  exact z_iret dX11_fords_11 hE (inRd (x := 0) (by decide)) rfl
set_option maxHeartbeats 1000000 in
theorem s_M_tell_ {l : Launch} {g : GX} {z : Nat} {G : Nat → Nat → Nat} {F : Nat} (hz : 353 ≤ z) (hG : lyM G) {x1 : Int} {x2 : Int} {x3 : Int} {I J : Nat → Nat → Int} (hx1 : inR x1) (hx2 : inR x2) (hx3 : inR x3) {res : Int × MI} (h : f_M_tell_ F x1 x2 x3 I J = some res) : Spec l g 2 yX11_tell_ cX11_tell_ 4 (some .int) [vR g 296, vI x1, vI x2, vI x3] (z, I, J, G) (some (vI res.1)) (inR res.1) (z, res.2, J, G) := by
  refine spec_of (μ := mu_M_tell_) (k := 0) (L0 := [some (vR g 296), some (vI x1), some (vI x2), some (vI x3)]) rfl mw_M_tell_ rfl rfl (Nat.le_refl _) (fun φ hb hE => ?_)
  refine z_aload_n dX11_tell__0 rfl ?_
  refine z_nm (fun hN1 => ?_)
  refine y_getI dX11_tell__1 cl11 sh_296 (by decide) (Nat.le_trans (by decide) hz) 76 rfl rfl (fl_M_290) ?_
  refine z_bipush dX11_tell__4 (by decide +kernel) ?_
  refine z_icmp_eq (tgt := 28) dX11_tell__6 (by decide) (hN1.1 296 76) (inRd (x := 20) (by decide)) (fun hc2 => ?_) (fun hc2 => ?_)
  · replace h := ifT hc2 h
    refine z_iconst dX11_tell__28 ?_
    obtain rfl := someE h
    exact z_iret dX11_tell__29 hE (inRd (x := (-1)) (by decide)) rfl
  replace h := ifF hc2 h
  refine z_aload_n dX11_tell__9 rfl ?_
  refine z_iload_n dX11_tell__10 rfl ?_
  refine z_iload_n dX11_tell__11 rfl ?_
  obtain ⟨q3, hq4, h⟩ := bindE h
  refine z_callV (As := [vI x1, vI x2]) (rest := []) (s_M_isCell hz hG hx1 hx2 hq4) dX11_tell__12 mw_M_isCell cl11 sh_296 (by decide) (Nat.le_trans (by decide) hz) ml_M_369 im_M_isCell se_M_isCell rfl rfl rfl rfl (Nat.le_refl _) (Nat.le_of_eq hb.symm) (fun hp5 => ?_)
  show Zt _ _ _ _ 15 _ [vI q3] (z, I, J, G)
  refine z_if_eq (tgt := 28) dX11_tell__15 (by decide) (inR_bool hp5) (fun hc6 => ?_) (fun hc6 => ?_)
  · replace h := ifT hc6 h
    refine z_iconst dX11_tell__28 ?_
    obtain rfl := someE h
    exact z_iret dX11_tell__29 hE (inRd (x := (-1)) (by decide)) rfl
  replace h := ifF hc6 h
  refine z_iload_n dX11_tell__18 rfl ?_
  refine z_iconst dX11_tell__19 ?_
  refine z_bipush dX11_tell__20 (by decide +kernel) ?_
  obtain ⟨q7, hq8, h⟩ := bindE h
  refine z_callS (As := [vI x3, vI 0, vI 99]) (rest := []) (s_M_in hz hG hx3 (inRd (x := 0) (by decide)) (inRd (x := 99) (by decide)) hq8) dX11_tell__22 mw_M_in ml_M_345 st_M_in rfl rfl rfl rfl (Nat.le_refl _) (Nat.le_of_eq hb.symm) (fun hp9 => ?_)
  show Zt _ _ _ _ 25 _ [vI q7] (z, I, J, G)
  refine z_if_ne (tgt := 30) dX11_tell__25 (by decide) (inR_bool hp9) (fun hc10 => ?_) (fun hc10 => ?_)
  · replace h := ifT hc10 h
    refine z_aload_n dX11_tell__30 rfl ?_
    refine y_getR dX11_tell__31 cl11 sh_296 (by decide) (Nat.le_trans (by decide) hz) 77 rfl rfl (fl_M_179) (ly_296_77 hG) (by decide) ?_
    refine z_aload_n dX11_tell__34 rfl ?_
    refine y_getI dX11_tell__35 cl11 sh_296 (by decide) (Nat.le_trans (by decide) hz) 76 rfl rfl (fl_M_290) ?_
    refine z_bipush dX11_tell__38 (by decide +kernel) ?_
    refine z_iload_n dX11_tell__40 rfl ?_
    refine z_imul dX11_tell__41 ?_
    refine z_iload_n dX11_tell__42 rfl ?_
    refine z_iadd dX11_tell__43 ?_
    obtain ⟨hg11, h⟩ := guardE h
    refine y_iast dX11_tell__44 sh_350 (by decide) (Nat.le_trans (by decide) hz) (hN1.1 296 76) hg11 (inR_w32 _) ?_
    refine z_aload_n dX11_tell__45 rfl ?_
    refine y_getR dX11_tell__46 cl11 sh_296 (by decide) (Nat.le_trans (by decide) hz) 78 rfl rfl (fl_M_182) (ly_296_78 hG) (by decide) ?_
    refine z_aload_n dX11_tell__49 rfl ?_
    refine z_nm (fun hN12 => ?_)
    refine y_getI dX11_tell__50 cl11 sh_296 (by decide) (Nat.le_trans (by decide) hz) 76 rfl rfl (fl_M_290) ?_
    refine z_iload_n dX11_tell__53 rfl ?_
    obtain ⟨hg13, h⟩ := guardE h
    refine y_iast dX11_tell__54 sh_351 (by decide) (Nat.le_trans (by decide) hz) (hN12.1 296 76) hg13 hx3 ?_
    refine z_aload_n dX11_tell__55 rfl ?_
    refine z_dup dX11_tell__56 rfl ?_
    refine z_nm (fun hN14 => ?_)
    refine y_getI dX11_tell__57 cl11 sh_296 (by decide) (Nat.le_trans (by decide) hz) 76 rfl rfl (fl_M_290) ?_
    refine z_iconst dX11_tell__60 ?_
    refine z_iadd dX11_tell__61 ?_
    refine y_putI dX11_tell__62 cl11 sh_296 (by decide) (Nat.le_trans (by decide) hz) 76 rfl rfl rfl (fl_M_290) rfl rfl (inR_w32 _) ?_
    refine z_aload_n dX11_tell__65 rfl ?_
    refine z_nm (fun hN15 => ?_)
    refine y_getI dX11_tell__66 cl11 sh_296 (by decide) (Nat.le_trans (by decide) hz) 76 rfl rfl (fl_M_290) ?_
    refine z_iconst dX11_tell__69 ?_
    refine z_isub dX11_tell__70 ?_
    obtain rfl := someE h
    exact z_iret dX11_tell__71 hE (inR_w32 _) rfl
  replace h := ifF (fun q => q hc10) h
  refine z_iconst dX11_tell__28 ?_
  obtain rfl := someE h
  exact z_iret dX11_tell__29 hE (inRd (x := (-1)) (by decide)) rfl
set_option maxHeartbeats 1000000 in
theorem s_M_forget {l : Launch} {g : GX} {z : Nat} {G : Nat → Nat → Nat} {F : Nat} (hz : 353 ≤ z) (hG : lyM G) {I J : Nat → Nat → Int} {res : Int × MI} (h : f_M_forget F I J = some res) : Spec l g 0 yX11_forget cX11_forget 2 (some .int) [vR g 296] (z, I, J, G) (some (vI res.1)) (inR res.1) (z, res.2, J, G) := by
  refine spec_of (μ := mu_M_forget) (k := 1) (L0 := [some (vR g 296), none]) rfl mw_M_forget rfl rfl (Nat.le_refl _) (fun φ hb hE => ?_)
  refine z_aload_n dX11_forget_0 rfl ?_
  refine z_nm (fun hN1 => ?_)
  refine y_getI dX11_forget_1 cl11 sh_296 (by decide) (Nat.le_trans (by decide) hz) 76 rfl rfl (fl_M_290) ?_
  refine z_istore_n (L' := [some (vR g 296), some (vI (I 296 76))]) dX11_forget_4 rfl rfl rfl ?_
  refine z_aload_n dX11_forget_5 rfl ?_
  refine z_iconst dX11_forget_6 ?_
  refine y_putI dX11_forget_7 cl11 sh_296 (by decide) (Nat.le_trans (by decide) hz) 76 rfl rfl rfl (fl_M_290) rfl rfl (inRd (x := 0) (by decide)) ?_
  refine z_iload_n dX11_forget_10 rfl ?_
  obtain rfl := someE h
  exact z_iret dX11_forget_11 hE (hN1.1 296 76) rfl
set_option maxHeartbeats 1000000 in
theorem t_M_isSo_L15 {l : Launch} {g : GX} {φ : CX} {z : Nat} {G : Nat → Nat → Nat} {F : Nat} (hb : cb φ = z) (hz : 353 ≤ z) (hG : lyM G) {x4 : Int} {x5 : Int} {x6 : Int} {I J : Nat → Nat → Int} (hx4 : inR x4) (hx5 : inR x5) (hx6 : inR x6) {res : (MI) ⊕ (Int × MI)} (h : f_M_isSo_L15 F x4 x5 x6 I J = some res) (kE : ∀ e : MI, res = .inl e → ((True) → Zt l g φ mu_M_isSo 32 [some (vR g 296), none, none, none, some (vI x4), none, none] [] (z, e, J, G))) (kS : ∀ s : Int × MI, res = .inr s → (inR s.1) → Zt l g φ mu_M_isSo 15 [some (vR g 296), none, none, none, some (vI x4), some (vI x5), some (vI s.1)] [] (z, s.2, J, G)) : Zt l g φ mu_M_isSo 15 [some (vR g 296), none, none, none, some (vI x4), some (vI x5), some (vI x6)] [] (z, I, J, G) := by
  refine z_iload dX11_isSo_15 rfl ?_
  refine z_iload dX11_isSo_17 rfl ?_
  refine z_icmp_ge (tgt := 32) dX11_isSo_19 (by decide) hx6 hx5 (fun hc7 => ?_) (fun hc7 => ?_)
  · replace h := ifT hc7 h
    refine z_weak (L' := [some (vR g 296), none, none, none, some (vI x4), none, none]) (lsS (lsN (lsN (lsN (lsS (lsN (lsN ls0))))))) ?_
    exact kE _ (someE h).symm trivial
  replace h := ifF hc7 h
  refine z_aload_n dX11_isSo_22 rfl ?_
  obtain ⟨q8, hq9, h⟩ := bindE h
  refine z_callV (As := []) (rest := []) (s_M_dayGoes hz hG  hq9) dX11_isSo_23 mw_M_dayGoes cl11 sh_296 (by decide) (Nat.le_trans (by decide) hz) ml_M_397 im_M_dayGoes se_M_dayGoes rfl rfl rfl rfl (Nat.le_refl _) (Nat.le_of_eq hb.symm) (fun hp10 => ?_)
  show Zt _ _ _ _ 26 _ [] (z, q8, J, G)
  refine z_iinc (L' := [some (vR g 296), none, none, none, some (vI x4), some (vI x5), some (vI (w32 (x6 + 1)))]) dX11_isSo_26 rfl rfl rfl rfl ?_
  refine z_goto (tgt := 15) dX11_isSo_29 (by decide) ?_
  exact kS _ (someE h).symm (inR_w32 _)
theorem l_M_isSo_L15 {l : Launch} {g : GX} {φ : CX} {z : Nat} {G : Nat → Nat → Nat} {F : Nat} (hb : cb φ = z) (hz : 353 ≤ z) (hG : lyM G) {x4 : Int} {x5 : Int} {J : Nat → Nat → Int} (hx4 : inR x4) (hx5 : inR x5) (n : Nat) (s : Int × MI) (e : MI) (h : iter (fun s : Int × MI => f_M_isSo_L15 F x4 x5 s.1 s.2 J) n s = some e) (hs : inR s.1) (k : ((True) → Zt l g φ mu_M_isSo 32 [some (vR g 296), none, none, none, some (vI x4), none, none] [] (z, e, J, G))) : Zt l g φ mu_M_isSo 15 [some (vR g 296), none, none, none, some (vI x4), some (vI x5), some (vI s.1)] [] (z, s.2, J, G) := by
  refine iter_ind (Z := fun s : Int × MI => Zt l g φ mu_M_isSo 15 [some (vR g 296), none, none, none, some (vI x4), some (vI x5), some (vI s.1)] [] (z, s.2, J, G)) (ZE := fun e : MI => ((True) → Zt l g φ mu_M_isSo 32 [some (vR g 296), none, none, none, some (vI x4), none, none] [] (z, e, J, G))) (Rg := fun s : Int × MI => inR s.1) ?_ n s e h hs k
  intro s r hr hst kE kS
  exact t_M_isSo_L15 hb hz hG hx4 hx5 hr hst kE kS
set_option maxHeartbeats 1000000 in
theorem t_M_isSo_L35 {l : Launch} {g : GX} {φ : CX} {z : Nat} {G : Nat → Nat → Nat} {F : Nat} (hb : cb φ = z) (hz : 353 ≤ z) (hG : lyM G) {x4 : Int} {x6 : Int} {I J : Nat → Nat → Int} (hx4 : inR x4) (hx6 : inR x6) {res : ((Unit) ⊕ (Unit)) ⊕ (Int)} (h : f_M_isSo_L35 F x4 x6 I J = some res) (kE : ∀ e : (Unit) ⊕ (Unit), res = .inl e → ((fun w : (Unit) ⊕ (Unit) => (match w with | .inl e0 => ((True) → Zt l g φ mu_M_isSo 64 [none, none, none, none, none, none, none] [] (z, I, J, G)) | .inr o0 => ((True) → Zt l g φ mu_M_isSo 72 [none, none, none, none, none, none, none] [] (z, I, J, G)))) e)) (kS : ∀ s : Int, res = .inr s → (inR s) → Zt l g φ mu_M_isSo 35 [some (vR g 296), none, none, none, some (vI x4), none, some (vI s)] [] (z, I, J, G)) : Zt l g φ mu_M_isSo 35 [some (vR g 296), none, none, none, some (vI x4), none, some (vI x6)] [] (z, I, J, G) := by
  refine z_iload dX11_isSo_35 rfl ?_
  refine z_iload dX11_isSo_37 rfl ?_
  refine z_icmp_ge (tgt := 72) dX11_isSo_39 (by decide) hx6 hx4 (fun hc14 => ?_) (fun hc14 => ?_)
  · replace h := ifT hc14 h
    refine z_weak (L' := [none, none, none, none, none, none, none]) (lsN (lsN (lsN (lsN (lsN (lsN (lsN ls0))))))) ?_
    exact kE _ (someE h).symm trivial
  replace h := ifF hc14 h
  refine z_aload_n dX11_isSo_42 rfl ?_
  refine y_getR dX11_isSo_43 cl11 sh_296 (by decide) (Nat.le_trans (by decide) hz) 54 rfl rfl (fl_M_128) (ly_296_54 hG) (by decide) ?_
  refine z_aload_n dX11_isSo_46 rfl ?_
  refine y_getR dX11_isSo_47 cl11 sh_296 (by decide) (Nat.le_trans (by decide) hz) 77 rfl rfl (fl_M_179) (ly_296_77 hG) (by decide) ?_
  refine z_iload dX11_isSo_50 rfl ?_
  obtain ⟨hg15, h⟩ := guardE h
  refine z_nm (fun hN16 => ?_)
  refine y_iald dX11_isSo_52 sh_350 (by decide) (Nat.le_trans (by decide) hz) hx6 hg15 ?_
  obtain ⟨hg17, h⟩ := guardE h
  refine y_iald dX11_isSo_53 sh_333 (by decide) (Nat.le_trans (by decide) hz) (hN16.1 350 (x6).toNat) hg17 ?_
  refine z_aload_n dX11_isSo_54 rfl ?_
  refine y_getR dX11_isSo_55 cl11 sh_296 (by decide) (Nat.le_trans (by decide) hz) 78 rfl rfl (fl_M_182) (ly_296_78 hG) (by decide) ?_
  refine z_iload dX11_isSo_58 rfl ?_
  refine y_iald dX11_isSo_60 sh_351 (by decide) (Nat.le_trans (by decide) hz) hx6 hg15 ?_
  refine z_icmp_eq (tgt := 66) dX11_isSo_61 (by decide) (hN16.1 333 ((I 350 (x6).toNat)).toNat) (hN16.1 351 (x6).toNat) (fun hc18 => ?_) (fun hc18 => ?_)
  · replace h := ifT hc18 h
    refine z_iinc (L' := [some (vR g 296), none, none, none, some (vI x4), none, some (vI (w32 (x6 + 1)))]) dX11_isSo_66 rfl rfl rfl rfl ?_
    refine z_goto (tgt := 35) dX11_isSo_69 (by decide) ?_
    exact kS _ (someE h).symm (inR_w32 _)
  replace h := ifF hc18 h
  refine z_weak (L' := [none, none, none, none, none, none, none]) (lsN (lsN (lsN (lsN (lsN (lsN (lsN ls0))))))) ?_
  exact kE _ (someE h).symm trivial
theorem l_M_isSo_L35 {l : Launch} {g : GX} {φ : CX} {z : Nat} {G : Nat → Nat → Nat} {F : Nat} (hb : cb φ = z) (hz : 353 ≤ z) (hG : lyM G) {x4 : Int} {I : Nat → Nat → Int} {J : Nat → Nat → Int} (hx4 : inR x4) (n : Nat) (s : Int) (e : (Unit) ⊕ (Unit)) (h : iter (fun s : Int => f_M_isSo_L35 F x4 s I J) n s = some e) (hs : inR s) (k : ((fun w : (Unit) ⊕ (Unit) => (match w with | .inl e0 => ((True) → Zt l g φ mu_M_isSo 64 [none, none, none, none, none, none, none] [] (z, I, J, G)) | .inr o0 => ((True) → Zt l g φ mu_M_isSo 72 [none, none, none, none, none, none, none] [] (z, I, J, G)))) e)) : Zt l g φ mu_M_isSo 35 [some (vR g 296), none, none, none, some (vI x4), none, some (vI s)] [] (z, I, J, G) := by
  refine iter_ind (Z := fun s : Int => Zt l g φ mu_M_isSo 35 [some (vR g 296), none, none, none, some (vI x4), none, some (vI s)] [] (z, I, J, G)) (ZE := fun e : (Unit) ⊕ (Unit) => ((fun w : (Unit) ⊕ (Unit) => (match w with | .inl e0 => ((True) → Zt l g φ mu_M_isSo 64 [none, none, none, none, none, none, none] [] (z, I, J, G)) | .inr o0 => ((True) → Zt l g φ mu_M_isSo 72 [none, none, none, none, none, none, none] [] (z, I, J, G)))) e)) (Rg := fun s : Int => inR s) ?_ n s e h hs k
  intro s r hr hst kE kS
  exact t_M_isSo_L35 hb hz hG hx4 hr hst kE kS
set_option maxHeartbeats 1000000 in
theorem s_M_isSo {l : Launch} {g : GX} {z : Nat} {G : Nat → Nat → Nat} {F : Nat} (hz : 353 ≤ z) (hG : lyM G) {x1 : Int} {x2 : Int} {x3 : Int} {x4 : Int} {x5 : Int} {I J : Nat → Nat → Int} (hx1 : inR x1) (hx2 : inR x2) (hx3 : inR x3) (hx4 : inR x4) (hx5 : inR x5) {res : Int × MI} (h : f_M_isSo F x1 x2 x3 x4 x5 I J = some res) : Spec l g 3 yX11_isSo cX11_isSo 7 (some .boolean) [vR g 296, vI x1, vI x2, vI x3, vI x4, vI x5] (z, I, J, G) (some (vI res.1)) (res.1 = 0 ∨ res.1 = 1) (z, res.2, J, G) := by
  refine spec_of (μ := mu_M_isSo) (k := 1) (L0 := [some (vR g 296), some (vI x1), some (vI x2), some (vI x3), some (vI x4), some (vI x5), none]) rfl mw_M_isSo rfl rfl (Nat.le_refl _) (fun φ hb hE => ?_)
  refine z_aload_n dX11_isSo_0 rfl ?_
  obtain ⟨q1, hq2, h⟩ := bindE h
  refine z_callV (As := []) (rest := []) (s_M_copies hz hG  hq2) dX11_isSo_1 mw_M_copies cl11 sh_296 (by decide) (Nat.le_trans (by decide) hz) ml_M_373 im_M_copies se_M_copies rfl rfl rfl rfl (Nat.le_refl _) (Nat.le_of_eq hb.symm) (fun hp3 => ?_)
  show Zt _ _ _ _ 4 _ [] (z, q1, J, G)
  refine z_aload_n dX11_isSo_4 rfl ?_
  refine z_iload_n dX11_isSo_5 rfl ?_
  refine z_iload_n dX11_isSo_6 rfl ?_
  refine z_iload_n dX11_isSo_7 rfl ?_
  obtain ⟨q4, hq5, h⟩ := bindE h
  refine z_callV (As := [vI x1, vI x2, vI x3]) (rest := []) (s_M_throwsAt hz hG hx1 hx2 hx3 hq5) dX11_isSo_8 mw_M_throwsAt cl11 sh_296 (by decide) (Nat.le_trans (by decide) hz) ml_M_391 im_M_throwsAt se_M_throwsAt rfl rfl rfl rfl (Nat.le_refl _) (Nat.le_of_eq hb.symm) (fun hp6 => ?_)
  show Zt _ _ _ _ 11 _ [vI q4.1] (z, q4.2, J, G)
  refine z_pop dX11_isSo_11 rfl ?_
  refine z_iconst dX11_isSo_12 ?_
  refine z_istore (L' := [some (vR g 296), some (vI x1), some (vI x2), some (vI x3), some (vI x4), some (vI x5), some (vI 0)]) dX11_isSo_13 rfl rfl rfl ?_
  refine z_weak (L' := [some (vR g 296), none, none, none, some (vI x4), some (vI x5), some (vI 0)]) (lsS (lsN (lsN (lsN (lsS (lsS (lsS ls0))))))) ?_
  obtain ⟨e11, h12, h⟩ := bindE h
  refine l_M_isSo_L15 hb hz hG hx4 hx5 _ _ _ h12 (inRd (x := 0) (by decide)) ?_
  refine fun h13 => ?_
  refine z_iconst dX11_isSo_32 ?_
  refine z_istore (L' := [some (vR g 296), none, none, none, some (vI x4), none, some (vI 0)]) dX11_isSo_33 rfl rfl rfl ?_
  obtain ⟨e19, h20, h⟩ := bindE h
  rcases e19 with e21 | o22
  · refine l_M_isSo_L35 hb hz hG hx4 _ _ _ h20 (inRd (x := 0) (by decide)) ?_
    refine fun h23 => ?_
    refine z_iconst dX11_isSo_64 ?_
    obtain rfl := someE h
    exact z_zret dX11_isSo_65 hE b01_0 b01_0 rfl
  refine l_M_isSo_L35 hb hz hG hx4 _ _ _ h20 (inRd (x := 0) (by decide)) ?_
  refine fun h24 => ?_
  refine z_iconst dX11_isSo_72 ?_
  obtain rfl := someE h
  exact z_zret dX11_isSo_73 hE b01_1 b01_1 rfl
set_option maxHeartbeats 1000000 in
theorem t_M_fits_L61 {l : Launch} {g : GX} {φ : CX} {z : Nat} {G : Nat → Nat → Nat} {F : Nat} (hb : cb φ = z) (hz : 353 ≤ z) (hG : lyM G) {x1 : Int} {x2 : Int} {x3 : Int} {x4 : Int} {x5 : Int} {x6 : Int} {x7 : Int} {I J : Nat → Nat → Int} (hx1 : inR x1) (hx2 : inR x2) (hx3 : inR x3) (hx4 : inR x4) (hx5 : inR x5) (hx6 : inR x6) (hx7 : inR x7) {res : ((Int × MI) ⊕ (Int × MI)) ⊕ (Int × Int × MI)} (h : f_M_fits_L61 F x1 x2 x3 x4 x5 x6 x7 I J = some res) (kE : ∀ e : (Int × MI) ⊕ (Int × MI), res = .inl e → ((fun w : (Int × MI) ⊕ (Int × MI) => (match w with | .inl e0 => ((inR e0.1) → Zt l g φ mu_M_fits 99 [none, none, none, none, none, none, some (vI x6), some (vI e0.1)] [] (z, e0.2, J, G)) | .inr o0 => ((inR o0.1) → Zt l g φ mu_M_fits 117 [some (vR g 296), some (vI x1), some (vI x2), some (vI x3), some (vI x4), some (vI o0.1), some (vI x6), none] [] (z, o0.2, J, G)))) e)) (kS : ∀ s : Int × Int × MI, res = .inr s → (inR s.1 ∧ inR s.2.1) → Zt l g φ mu_M_fits 61 [some (vR g 296), some (vI x1), some (vI x2), some (vI x3), some (vI x4), some (vI s.1), some (vI x6), some (vI s.2.1)] [] (z, s.2.2, J, G)) : Zt l g φ mu_M_fits 61 [some (vR g 296), some (vI x1), some (vI x2), some (vI x3), some (vI x4), some (vI x5), some (vI x6), some (vI x7)] [] (z, I, J, G) := by
  refine z_iload dX11_fits_61 rfl ?_
  refine z_aload_n dX11_fits_63 rfl ?_
  refine y_getR dX11_fits_64 cl11 sh_296 (by decide) (Nat.le_trans (by decide) hz) 22 rfl rfl (fl_M_43) (ly_296_22 hG) (by decide) ?_
  refine z_aload_n dX11_fits_67 rfl ?_
  refine z_nm (fun hN18 => ?_)
  refine y_getI dX11_fits_68 cl11 sh_296 (by decide) (Nat.le_trans (by decide) hz) 18 rfl rfl (fl_M_269) ?_
  obtain ⟨hg19, h⟩ := guardE h
  refine y_iald dX11_fits_71 sh_305 (by decide) (Nat.le_trans (by decide) hz) (hN18.1 296 18) hg19 ?_
  refine z_icmp_ge (tgt := 117) dX11_fits_72 (by decide) hx7 (hN18.1 305 ((I 296 18)).toNat) (fun hc20 => ?_) (fun hc20 => ?_)
  · replace h := ifT hc20 h
    refine z_weak (L' := [some (vR g 296), some (vI x1), some (vI x2), some (vI x3), some (vI x4), some (vI x5), some (vI x6), none]) (lsS (lsS (lsS (lsS (lsS (lsS (lsS (lsN ls0)))))))) ?_
    exact kE _ (someE h).symm hx5
  replace h := ifF hc20 h
  refine z_aload_n dX11_fits_75 rfl ?_
  refine z_iload_n dX11_fits_76 rfl ?_
  refine z_iload dX11_fits_77 rfl ?_
  refine z_iload dX11_fits_79 rfl ?_
  refine z_iload_n dX11_fits_81 rfl ?_
  refine z_iload_n dX11_fits_82 rfl ?_
  obtain ⟨q21, hq22, h⟩ := bindE h
  refine z_callV (As := [vI x1, vI x7, vI x6, vI x2, vI x3]) (rest := []) (s_M_isSo hz hG hx1 hx7 hx6 hx2 hx3 hq22) dX11_fits_83 mw_M_isSo cl11 sh_296 (by decide) (Nat.le_trans (by decide) hz) ml_M_469 im_M_isSo se_M_isSo rfl rfl rfl rfl (Nat.le_refl _) (Nat.le_of_eq hb.symm) (fun hp23 => ?_)
  show Zt _ _ _ _ 86 _ [vI q21.1] (z, q21.2, J, G)
  refine z_if_ne (tgt := 92) dX11_fits_86 (by decide) (inR_bool hp23) (fun hc24 => ?_) (fun hc24 => ?_)
  · replace h := ifT hc24 h
    refine z_iload dX11_fits_92 rfl ?_
    refine z_iload dX11_fits_94 rfl ?_
    refine z_icmp_ne (tgt := 108) dX11_fits_96 (by decide) hx5 hx4 (fun hc25 => ?_) (fun hc25 => ?_)
    · replace h := ifT hc25 h
      refine z_iinc (L' := [some (vR g 296), some (vI x1), some (vI x2), some (vI x3), some (vI x4), some (vI (w32 (x5 + 1))), some (vI x6), some (vI x7)]) dX11_fits_108 rfl rfl rfl rfl ?_
      refine z_iinc (L' := [some (vR g 296), some (vI x1), some (vI x2), some (vI x3), some (vI x4), some (vI (w32 (x5 + 1))), some (vI x6), some (vI (w32 (x7 + 1)))]) dX11_fits_111 rfl rfl rfl rfl ?_
      refine z_goto (tgt := 61) dX11_fits_114 (by decide) ?_
      exact kS _ (someE h).symm ⟨(inR_w32 _), (inR_w32 _)⟩
    replace h := ifF (fun q => q hc25) h
    refine z_weak (L' := [none, none, none, none, none, none, some (vI x6), some (vI x7)]) (lsN (lsN (lsN (lsN (lsN (lsN (lsS (lsS ls0)))))))) ?_
    exact kE _ (someE h).symm hx7
  replace h := ifF (fun q => q hc24) h
  refine z_goto (tgt := 111) dX11_fits_89 (by decide) ?_
  refine z_iinc (L' := [some (vR g 296), some (vI x1), some (vI x2), some (vI x3), some (vI x4), some (vI x5), some (vI x6), some (vI (w32 (x7 + 1)))]) dX11_fits_111 rfl rfl rfl rfl ?_
  refine z_goto (tgt := 61) dX11_fits_114 (by decide) ?_
  exact kS _ (someE h).symm ⟨hx5, (inR_w32 _)⟩
theorem l_M_fits_L61 {l : Launch} {g : GX} {φ : CX} {z : Nat} {G : Nat → Nat → Nat} {F : Nat} (hb : cb φ = z) (hz : 353 ≤ z) (hG : lyM G) {x1 : Int} {x2 : Int} {x3 : Int} {x4 : Int} {x6 : Int} {J : Nat → Nat → Int} (hx1 : inR x1) (hx2 : inR x2) (hx3 : inR x3) (hx4 : inR x4) (hx6 : inR x6) (n : Nat) (s : Int × Int × MI) (e : (Int × MI) ⊕ (Int × MI)) (h : iter (fun s : Int × Int × MI => f_M_fits_L61 F x1 x2 x3 x4 s.1 x6 s.2.1 s.2.2 J) n s = some e) (hs : inR s.1 ∧ inR s.2.1) (k : ((fun w : (Int × MI) ⊕ (Int × MI) => (match w with | .inl e0 => ((inR e0.1) → Zt l g φ mu_M_fits 99 [none, none, none, none, none, none, some (vI x6), some (vI e0.1)] [] (z, e0.2, J, G)) | .inr o0 => ((inR o0.1) → Zt l g φ mu_M_fits 117 [some (vR g 296), some (vI x1), some (vI x2), some (vI x3), some (vI x4), some (vI o0.1), some (vI x6), none] [] (z, o0.2, J, G)))) e)) : Zt l g φ mu_M_fits 61 [some (vR g 296), some (vI x1), some (vI x2), some (vI x3), some (vI x4), some (vI s.1), some (vI x6), some (vI s.2.1)] [] (z, s.2.2, J, G) := by
  refine iter_ind (Z := fun s : Int × Int × MI => Zt l g φ mu_M_fits 61 [some (vR g 296), some (vI x1), some (vI x2), some (vI x3), some (vI x4), some (vI s.1), some (vI x6), some (vI s.2.1)] [] (z, s.2.2, J, G)) (ZE := fun e : (Int × MI) ⊕ (Int × MI) => ((fun w : (Int × MI) ⊕ (Int × MI) => (match w with | .inl e0 => ((inR e0.1) → Zt l g φ mu_M_fits 99 [none, none, none, none, none, none, some (vI x6), some (vI e0.1)] [] (z, e0.2, J, G)) | .inr o0 => ((inR o0.1) → Zt l g φ mu_M_fits 117 [some (vR g 296), some (vI x1), some (vI x2), some (vI x3), some (vI x4), some (vI o0.1), some (vI x6), none] [] (z, o0.2, J, G)))) e)) (Rg := fun s : Int × Int × MI => inR s.1 ∧ inR s.2.1) ?_ n s e h hs k
  intro s r hr hst kE kS
  exact t_M_fits_L61 hb hz hG hx1 hx2 hx3 hx4 hr.1 hx6 hr.2 hst kE kS
set_option maxHeartbeats 1000000 in
theorem t_M_fits_L44 {l : Launch} {g : GX} {φ : CX} {z : Nat} {G : Nat → Nat → Nat} {F : Nat} (hb : cb φ = z) (hz : 353 ≤ z) (hG : lyM G) {x1 : Int} {x2 : Int} {x3 : Int} {x4 : Int} {x5 : Int} {x6 : Int} {I J : Nat → Nat → Int} (hx1 : inR x1) (hx2 : inR x2) (hx3 : inR x3) (hx4 : inR x4) (hx5 : inR x5) (hx6 : inR x6) {res : ((Int × Int × MI) ⊕ (Int × MI)) ⊕ (Int × Int × MI)} (h : f_M_fits_L44 F x1 x2 x3 x4 x5 x6 I J = some res) (kE : ∀ e : (Int × Int × MI) ⊕ (Int × MI), res = .inl e → ((fun w : (Int × Int × MI) ⊕ (Int × MI) => (match w with | .inl e0 => ((inR e0.1 ∧ inR e0.2.1) → Zt l g φ mu_M_fits 99 [none, none, none, none, none, none, some (vI e0.1), some (vI e0.2.1)] [] (z, e0.2.2, J, G)) | .inr o0 => ((inR o0.1) → Zt l g φ mu_M_fits 123 [none, none, none, none, some (vI x4), some (vI o0.1), none, none] [] (z, o0.2, J, G)))) e)) (kS : ∀ s : Int × Int × MI, res = .inr s → (inR s.1 ∧ inR s.2.1) → Zt l g φ mu_M_fits 44 [some (vR g 296), some (vI x1), some (vI x2), some (vI x3), some (vI x4), some (vI s.1), some (vI s.2.1), none] [] (z, s.2.2, J, G)) : Zt l g φ mu_M_fits 44 [some (vR g 296), some (vI x1), some (vI x2), some (vI x3), some (vI x4), some (vI x5), some (vI x6), none] [] (z, I, J, G) := by
  refine z_iload dX11_fits_44 rfl ?_
  refine z_aload_n dX11_fits_46 rfl ?_
  refine y_getR dX11_fits_47 cl11 sh_296 (by decide) (Nat.le_trans (by decide) hz) 23 rfl rfl (fl_M_46) (ly_296_23 hG) (by decide) ?_
  refine z_aload_n dX11_fits_50 rfl ?_
  refine z_nm (fun hN15 => ?_)
  refine y_getI dX11_fits_51 cl11 sh_296 (by decide) (Nat.le_trans (by decide) hz) 18 rfl rfl (fl_M_269) ?_
  obtain ⟨hg16, h⟩ := guardE h
  refine y_iald dX11_fits_54 sh_306 (by decide) (Nat.le_trans (by decide) hz) (hN15.1 296 18) hg16 ?_
  refine z_icmp_ge (tgt := 123) dX11_fits_55 (by decide) hx6 (hN15.1 306 ((I 296 18)).toNat) (fun hc17 => ?_) (fun hc17 => ?_)
  · replace h := ifT hc17 h
    refine z_weak (L' := [none, none, none, none, some (vI x4), some (vI x5), none, none]) (lsN (lsN (lsN (lsN (lsS (lsS (lsN (lsN ls0)))))))) ?_
    exact kE _ (someE h).symm hx5
  replace h := ifF hc17 h
  refine z_iconst dX11_fits_58 ?_
  refine z_istore (L' := [some (vR g 296), some (vI x1), some (vI x2), some (vI x3), some (vI x4), some (vI x5), some (vI x6), some (vI 0)]) dX11_fits_59 rfl rfl rfl ?_
  obtain ⟨e26, h27, h⟩ := bindE h
  rcases e26 with e28 | o29
  · refine l_M_fits_L61 hb hz hG hx1 hx2 hx3 hx4 hx6 _ _ _ h27 ⟨hx5, (inRd (x := 0) (by decide))⟩ ?_
    refine fun h30 => ?_
    exact kE _ (someE h).symm ⟨hx6, h30⟩
  refine l_M_fits_L61 hb hz hG hx1 hx2 hx3 hx4 hx6 _ _ _ h27 ⟨hx5, (inRd (x := 0) (by decide))⟩ ?_
  refine fun h31 => ?_
  refine z_iinc (L' := [some (vR g 296), some (vI x1), some (vI x2), some (vI x3), some (vI x4), some (vI o29.1), some (vI (w32 (x6 + 1))), none]) dX11_fits_117 rfl rfl rfl rfl ?_
  refine z_goto (tgt := 44) dX11_fits_120 (by decide) ?_
  exact kS _ (someE h).symm ⟨h31, (inR_w32 _)⟩
theorem l_M_fits_L44 {l : Launch} {g : GX} {φ : CX} {z : Nat} {G : Nat → Nat → Nat} {F : Nat} (hb : cb φ = z) (hz : 353 ≤ z) (hG : lyM G) {x1 : Int} {x2 : Int} {x3 : Int} {x4 : Int} {J : Nat → Nat → Int} (hx1 : inR x1) (hx2 : inR x2) (hx3 : inR x3) (hx4 : inR x4) (n : Nat) (s : Int × Int × MI) (e : (Int × Int × MI) ⊕ (Int × MI)) (h : iter (fun s : Int × Int × MI => f_M_fits_L44 F x1 x2 x3 x4 s.1 s.2.1 s.2.2 J) n s = some e) (hs : inR s.1 ∧ inR s.2.1) (k : ((fun w : (Int × Int × MI) ⊕ (Int × MI) => (match w with | .inl e0 => ((inR e0.1 ∧ inR e0.2.1) → Zt l g φ mu_M_fits 99 [none, none, none, none, none, none, some (vI e0.1), some (vI e0.2.1)] [] (z, e0.2.2, J, G)) | .inr o0 => ((inR o0.1) → Zt l g φ mu_M_fits 123 [none, none, none, none, some (vI x4), some (vI o0.1), none, none] [] (z, o0.2, J, G)))) e)) : Zt l g φ mu_M_fits 44 [some (vR g 296), some (vI x1), some (vI x2), some (vI x3), some (vI x4), some (vI s.1), some (vI s.2.1), none] [] (z, s.2.2, J, G) := by
  refine iter_ind (Z := fun s : Int × Int × MI => Zt l g φ mu_M_fits 44 [some (vR g 296), some (vI x1), some (vI x2), some (vI x3), some (vI x4), some (vI s.1), some (vI s.2.1), none] [] (z, s.2.2, J, G)) (ZE := fun e : (Int × Int × MI) ⊕ (Int × MI) => ((fun w : (Int × Int × MI) ⊕ (Int × MI) => (match w with | .inl e0 => ((inR e0.1 ∧ inR e0.2.1) → Zt l g φ mu_M_fits 99 [none, none, none, none, none, none, some (vI e0.1), some (vI e0.2.1)] [] (z, e0.2.2, J, G)) | .inr o0 => ((inR o0.1) → Zt l g φ mu_M_fits 123 [none, none, none, none, some (vI x4), some (vI o0.1), none, none] [] (z, o0.2, J, G)))) e)) (Rg := fun s : Int × Int × MI => inR s.1 ∧ inR s.2.1) ?_ n s e h hs k
  intro s r hr hst kE kS
  exact t_M_fits_L44 hb hz hG hx1 hx2 hx3 hx4 hr.1 hr.2 hst kE kS
set_option maxHeartbeats 1000000 in
theorem s_M_fits {l : Launch} {g : GX} {z : Nat} {G : Nat → Nat → Nat} {F : Nat} (hz : 353 ≤ z) (hG : lyM G) {x1 : Int} {x2 : Int} {x3 : Int} {x4 : Int} {I J : Nat → Nat → Int} (hx1 : inR x1) (hx2 : inR x2) (hx3 : inR x3) (hx4 : inR x4) {res : Int × MI} (h : f_M_fits F x1 x2 x3 x4 I J = some res) : Spec l g 4 yX11_fits cX11_fits 8 (some .int) [vR g 296, vI x1, vI x2, vI x3, vI x4] (z, I, J, G) (some (vI res.1)) (inR res.1) (z, res.2, J, G) := by
  refine spec_of (μ := mu_M_fits) (k := 3) (L0 := [some (vR g 296), some (vI x1), some (vI x2), some (vI x3), some (vI x4), none, none, none]) rfl mw_M_fits rfl rfl (Nat.le_refl _) (fun φ hb hE => ?_)
  refine z_aload_n dX11_fits_0 rfl ?_
  refine z_iload_n dX11_fits_1 rfl ?_
  obtain ⟨q1, hq2, h⟩ := bindE h
  refine z_callV (As := [vI x1]) (rest := []) (s_M_canThrow hz hG hx1 hq2) dX11_fits_2 mw_M_canThrow cl11 sh_296 (by decide) (Nat.le_trans (by decide) hz) ml_M_388 im_M_canThrow se_M_canThrow rfl rfl rfl rfl (Nat.le_refl _) (Nat.le_of_eq hb.symm) (fun hp3 => ?_)
  show Zt _ _ _ _ 5 _ [vI q1.1] (z, q1.2, J, G)
  refine z_if_eq (tgt := 36) dX11_fits_5 (by decide) (inR_bool hp3) (fun hc4 => ?_) (fun hc4 => ?_)
  · replace h := ifT hc4 h
    refine z_iconst dX11_fits_36 ?_
    obtain rfl := someE h
    exact z_iret dX11_fits_37 hE (inRd (x := (-1)) (by decide)) rfl
  replace h := ifF hc4 h
  refine z_iload_n dX11_fits_8 rfl ?_
  refine z_iconst dX11_fits_9 ?_
  refine z_aload_n dX11_fits_10 rfl ?_
  refine z_nm (fun hN5 => ?_)
  refine y_getI dX11_fits_11 cl11 sh_296 (by decide) (Nat.le_trans (by decide) hz) 76 rfl rfl (fl_M_290) ?_
  obtain ⟨q6, hq7, h⟩ := bindE h
  refine z_callS (As := [vI x2, vI 0, vI (q1.2 296 76)]) (rest := []) (s_M_in hz hG hx2 (inRd (x := 0) (by decide)) (hN5.1 296 76) hq7) dX11_fits_14 mw_M_in ml_M_345 st_M_in rfl rfl rfl rfl (Nat.le_refl _) (Nat.le_of_eq hb.symm) (fun hp8 => ?_)
  show Zt _ _ _ _ 17 _ [vI q6] (z, q1.2, J, G)
  refine z_if_eq (tgt := 36) dX11_fits_17 (by decide) (inR_bool hp8) (fun hc9 => ?_) (fun hc9 => ?_)
  · replace h := ifT hc9 h
    refine z_iconst dX11_fits_36 ?_
    obtain rfl := someE h
    exact z_iret dX11_fits_37 hE (inRd (x := (-1)) (by decide)) rfl
  replace h := ifF hc9 h
  refine z_iload_n dX11_fits_20 rfl ?_
  refine z_iconst dX11_fits_21 ?_
  refine z_bipush dX11_fits_22 (by decide +kernel) ?_
  obtain ⟨q10, hq11, h⟩ := bindE h
  refine z_callS (As := [vI x3, vI 0, vI 60]) (rest := []) (s_M_in hz hG hx3 (inRd (x := 0) (by decide)) (inRd (x := 60) (by decide)) hq11) dX11_fits_24 mw_M_in ml_M_345 st_M_in rfl rfl rfl rfl (Nat.le_refl _) (Nat.le_of_eq hb.symm) (fun hp12 => ?_)
  show Zt _ _ _ _ 27 _ [vI q10] (z, q1.2, J, G)
  refine z_if_eq (tgt := 36) dX11_fits_27 (by decide) (inR_bool hp12) (fun hc13 => ?_) (fun hc13 => ?_)
  · replace h := ifT hc13 h
    refine z_iconst dX11_fits_36 ?_
    obtain rfl := someE h
    exact z_iret dX11_fits_37 hE (inRd (x := (-1)) (by decide)) rfl
  replace h := ifF hc13 h
  refine z_iload dX11_fits_30 rfl ?_
  refine z_iconst dX11_fits_32 ?_
  refine z_icmp_ge (tgt := 38) dX11_fits_33 (by decide) hx4 (inRd (x := (-1)) (by decide)) (fun hc14 => ?_) (fun hc14 => ?_)
  · replace h := ifT hc14 h
    refine z_iconst dX11_fits_38 ?_
    refine z_istore (L' := [some (vR g 296), some (vI x1), some (vI x2), some (vI x3), some (vI x4), some (vI 0), none, none]) dX11_fits_39 rfl rfl rfl ?_
    refine z_iconst dX11_fits_41 ?_
    refine z_istore (L' := [some (vR g 296), some (vI x1), some (vI x2), some (vI x3), some (vI x4), some (vI 0), some (vI 0), none]) dX11_fits_42 rfl rfl rfl ?_
    obtain ⟨e32, h33, h⟩ := bindE h
    rcases e32 with e34 | o35
    · refine l_M_fits_L44 hb hz hG hx1 hx2 hx3 hx4 _ _ _ h33 ⟨(inRd (x := 0) (by decide)), (inRd (x := 0) (by decide))⟩ ?_
      refine fun h36 => ?_
      refine z_bipush dX11_fits_99 (by decide +kernel) ?_
      refine z_iload dX11_fits_101 rfl ?_
      refine z_imul dX11_fits_103 ?_
      refine z_iload dX11_fits_104 rfl ?_
      refine z_iadd dX11_fits_106 ?_
      obtain rfl := someE h
      exact z_iret dX11_fits_107 hE (inR_w32 _) rfl
    refine l_M_fits_L44 hb hz hG hx1 hx2 hx3 hx4 _ _ _ h33 ⟨(inRd (x := 0) (by decide)), (inRd (x := 0) (by decide))⟩ ?_
    refine fun h37 => ?_
    refine z_iload dX11_fits_123 rfl ?_
    refine z_iconst dX11_fits_125 ?_
    refine z_icmp_ne (tgt := 134) dX11_fits_126 (by decide) hx4 (inRd (x := (-1)) (by decide)) (fun hc38 => ?_) (fun hc38 => ?_)
    · replace h := ifT hc38 h
      refine z_iconst dX11_fits_134 ?_
      obtain rfl := someE h
      exact z_iret dX11_fits_135 hE (inRd (x := (-1)) (by decide)) rfl
    replace h := ifF (fun q => q hc38) h
    refine z_iload dX11_fits_129 rfl ?_
    refine z_goto (tgt := 135) dX11_fits_131 (by decide) ?_
    obtain rfl := someE h
    exact z_iret dX11_fits_135 hE h37 rfl
  replace h := ifF hc14 h
  refine z_iconst dX11_fits_36 ?_
  obtain rfl := someE h
  exact z_iret dX11_fits_37 hE (inRd (x := (-1)) (by decide)) rfl
set_option maxHeartbeats 1000000 in
theorem t_M_hold_L20 {l : Launch} {g : GX} {φ : CX} {z : Nat} {G : Nat → Nat → Nat} {F : Nat} (hb : cb φ = z) (hz : 353 ≤ z) (hG : lyM G) {x1 : Int} {x2 : Int} {I J : Nat → Nat → Int} (hx1 : inR x1) (hx2 : inR x2) {res : (MI) ⊕ (Int × MI)} (h : f_M_hold_L20 F x1 x2 I J = some res) (kE : ∀ e : MI, res = .inl e → ((True) → Zt l g φ mu_M_hold 51 [none, none, none] [] (z, e, J, G))) (kS : ∀ s : Int × MI, res = .inr s → (inR s.1) → Zt l g φ mu_M_hold 20 [some (vR g 296), some (vI x1), some (vI s.1)] [] (z, s.2, J, G)) : Zt l g φ mu_M_hold 20 [some (vR g 296), some (vI x1), some (vI x2)] [] (z, I, J, G) := by
  refine z_iload_n dX11_hold_20 rfl ?_
  refine z_sipush dX11_hold_21 (by decide +kernel) ?_
  refine z_icmp_ge (tgt := 51) dX11_hold_24 (by decide) hx2 (inRd (x := 250) (by decide)) (fun hc6 => ?_) (fun hc6 => ?_)
  · replace h := ifT hc6 h
    refine z_weak (L' := [none, none, none]) (lsN (lsN (lsN ls0))) ?_
    exact kE _ (someE h).symm trivial
  replace h := ifF hc6 h
  refine z_aload_n dX11_hold_27 rfl ?_
  refine y_getR dX11_hold_28 cl11 sh_296 (by decide) (Nat.le_trans (by decide) hz) 80 rfl rfl (fl_M_188) (ly_296_80 hG) (by decide) ?_
  refine z_sipush dX11_hold_31 (by decide +kernel) ?_
  refine z_iload_n dX11_hold_34 rfl ?_
  refine z_imul dX11_hold_35 ?_
  refine z_iload_n dX11_hold_36 rfl ?_
  refine z_iadd dX11_hold_37 ?_
  refine z_aload_n dX11_hold_38 rfl ?_
  refine y_getR dX11_hold_39 cl11 sh_296 (by decide) (Nat.le_trans (by decide) hz) 52 rfl rfl (fl_M_122) (ly_296_52 hG) (by decide) ?_
  refine z_iload_n dX11_hold_42 rfl ?_
  obtain ⟨hg7, h⟩ := guardE h
  refine z_nm (fun hN8 => ?_)
  refine y_iald dX11_hold_43 sh_331 (by decide) (Nat.le_trans (by decide) hz) hx2 hg7 ?_
  obtain ⟨hg9, h⟩ := guardE h
  refine y_iast dX11_hold_44 sh_353 (by decide) (Nat.le_trans (by decide) hz) (inR_w32 _) hg9 (hN8.1 331 (x2).toNat) ?_
  refine z_iinc (L' := [some (vR g 296), some (vI x1), some (vI (w32 (x2 + 1)))]) dX11_hold_45 rfl rfl rfl rfl ?_
  refine z_goto (tgt := 20) dX11_hold_48 (by decide) ?_
  exact kS _ (someE h).symm (inR_w32 _)
theorem l_M_hold_L20 {l : Launch} {g : GX} {φ : CX} {z : Nat} {G : Nat → Nat → Nat} {F : Nat} (hb : cb φ = z) (hz : 353 ≤ z) (hG : lyM G) {x1 : Int} {J : Nat → Nat → Int} (hx1 : inR x1) (n : Nat) (s : Int × MI) (e : MI) (h : iter (fun s : Int × MI => f_M_hold_L20 F x1 s.1 s.2 J) n s = some e) (hs : inR s.1) (k : ((True) → Zt l g φ mu_M_hold 51 [none, none, none] [] (z, e, J, G))) : Zt l g φ mu_M_hold 20 [some (vR g 296), some (vI x1), some (vI s.1)] [] (z, s.2, J, G) := by
  refine iter_ind (Z := fun s : Int × MI => Zt l g φ mu_M_hold 20 [some (vR g 296), some (vI x1), some (vI s.1)] [] (z, s.2, J, G)) (ZE := fun e : MI => ((True) → Zt l g φ mu_M_hold 51 [none, none, none] [] (z, e, J, G))) (Rg := fun s : Int × MI => inR s.1) ?_ n s e h hs k
  intro s r hr hst kE kS
  exact t_M_hold_L20 hb hz hG hx1 hr hst kE kS
set_option maxHeartbeats 1000000 in
theorem s_M_hold {l : Launch} {g : GX} {z : Nat} {G : Nat → Nat → Nat} {F : Nat} (hz : 353 ≤ z) (hG : lyM G) {x1 : Int} {I J : Nat → Nat → Int} (hx1 : inR x1) {res : Int × MI} (h : f_M_hold F x1 I J = some res) : Spec l g 1 yX11_hold cX11_hold 3 (some .boolean) [vR g 296, vI x1] (z, I, J, G) (some (vI res.1)) (res.1 = 0 ∨ res.1 = 1) (z, res.2, J, G) := by
  refine spec_of (μ := mu_M_hold) (k := 1) (L0 := [some (vR g 296), some (vI x1), none]) rfl mw_M_hold rfl rfl (Nat.le_refl _) (fun φ hb hE => ?_)
  refine z_iload_n dX11_hold_0 rfl ?_
  refine z_iconst dX11_hold_1 ?_
  refine z_iconst dX11_hold_2 ?_
  obtain ⟨q1, hq2, h⟩ := bindE h
  refine z_callS (As := [vI x1, vI 0, vI 2]) (rest := []) (s_M_in hz hG hx1 (inRd (x := 0) (by decide)) (inRd (x := 2) (by decide)) hq2) dX11_hold_3 mw_M_in ml_M_345 st_M_in rfl rfl rfl rfl (Nat.le_refl _) (Nat.le_of_eq hb.symm) (fun hp3 => ?_)
  show Zt _ _ _ _ 6 _ [vI q1] (z, I, J, G)
  refine z_if_ne (tgt := 11) dX11_hold_6 (by decide) (inR_bool hp3) (fun hc4 => ?_) (fun hc4 => ?_)
  · replace h := ifT hc4 h
    refine z_aload_n dX11_hold_11 rfl ?_
    refine y_getR dX11_hold_12 cl11 sh_296 (by decide) (Nat.le_trans (by decide) hz) 79 rfl rfl (fl_M_185) (ly_296_79 hG) (by decide) ?_
    refine z_iload_n dX11_hold_15 rfl ?_
    refine z_iconst dX11_hold_16 ?_
    obtain ⟨hg5, h⟩ := guardE h
    refine y_zast dX11_hold_17 sh_352 (by decide) (Nat.le_trans (by decide) hz) hx1 hg5 b01_1 ?_
    refine z_iconst dX11_hold_18 ?_
    refine z_istore_n (L' := [some (vR g 296), some (vI x1), some (vI 0)]) dX11_hold_19 rfl rfl rfl ?_
    obtain ⟨e10, h11, h⟩ := bindE h
    refine l_M_hold_L20 hb hz hG hx1 _ _ _ h11 (inRd (x := 0) (by decide)) ?_
    refine fun h12 => ?_
    refine z_iconst dX11_hold_51 ?_
    obtain rfl := someE h
    exact z_zret dX11_hold_52 hE b01_1 b01_1 rfl
  replace h := ifF (fun q => q hc4) h
  refine z_iconst dX11_hold_9 ?_
  obtain rfl := someE h
  exact z_zret dX11_hold_10 hE b01_0 b01_0 rfl
set_option maxHeartbeats 1000000 in
theorem t_M_restore_L22 {l : Launch} {g : GX} {φ : CX} {z : Nat} {G : Nat → Nat → Nat} {F : Nat} (hb : cb φ = z) (hz : 353 ≤ z) (hG : lyM G) {x1 : Int} {x2 : Int} {I J : Nat → Nat → Int} (hx1 : inR x1) (hx2 : inR x2) {res : (MI) ⊕ (Int × MI)} (h : f_M_restore_L22 F x1 x2 I J = some res) (kE : ∀ e : MI, res = .inl e → ((True) → Zt l g φ mu_M_restore 53 [some (vR g 296), none, none] [] (z, e, J, G))) (kS : ∀ s : Int × MI, res = .inr s → (inR s.1) → Zt l g φ mu_M_restore 22 [some (vR g 296), some (vI x1), some (vI s.1)] [] (z, s.2, J, G)) : Zt l g φ mu_M_restore 22 [some (vR g 296), some (vI x1), some (vI x2)] [] (z, I, J, G) := by
  refine z_iload_n dX11_restore_22 rfl ?_
  refine z_sipush dX11_restore_23 (by decide +kernel) ?_
  refine z_icmp_ge (tgt := 53) dX11_restore_26 (by decide) hx2 (inRd (x := 250) (by decide)) (fun hc8 => ?_) (fun hc8 => ?_)
  · replace h := ifT hc8 h
    refine z_weak (L' := [some (vR g 296), none, none]) (lsS (lsN (lsN ls0))) ?_
    exact kE _ (someE h).symm trivial
  replace h := ifF hc8 h
  refine z_aload_n dX11_restore_29 rfl ?_
  refine y_getR dX11_restore_30 cl11 sh_296 (by decide) (Nat.le_trans (by decide) hz) 52 rfl rfl (fl_M_122) (ly_296_52 hG) (by decide) ?_
  refine z_iload_n dX11_restore_33 rfl ?_
  refine z_aload_n dX11_restore_34 rfl ?_
  refine y_getR dX11_restore_35 cl11 sh_296 (by decide) (Nat.le_trans (by decide) hz) 80 rfl rfl (fl_M_188) (ly_296_80 hG) (by decide) ?_
  refine z_sipush dX11_restore_38 (by decide +kernel) ?_
  refine z_iload_n dX11_restore_41 rfl ?_
  refine z_imul dX11_restore_42 ?_
  refine z_iload_n dX11_restore_43 rfl ?_
  refine z_iadd dX11_restore_44 ?_
  obtain ⟨hg9, h⟩ := guardE h
  refine z_nm (fun hN10 => ?_)
  refine y_iald dX11_restore_45 sh_353 (by decide) (Nat.le_trans (by decide) hz) (inR_w32 _) hg9 ?_
  obtain ⟨hg11, h⟩ := guardE h
  refine y_iast dX11_restore_46 sh_331 (by decide) (Nat.le_trans (by decide) hz) hx2 hg11 (hN10.1 353 ((w32 ((w32 (250 * x1)) + x2))).toNat) ?_
  refine z_iinc (L' := [some (vR g 296), some (vI x1), some (vI (w32 (x2 + 1)))]) dX11_restore_47 rfl rfl rfl rfl ?_
  refine z_goto (tgt := 22) dX11_restore_50 (by decide) ?_
  exact kS _ (someE h).symm (inR_w32 _)
theorem l_M_restore_L22 {l : Launch} {g : GX} {φ : CX} {z : Nat} {G : Nat → Nat → Nat} {F : Nat} (hb : cb φ = z) (hz : 353 ≤ z) (hG : lyM G) {x1 : Int} {J : Nat → Nat → Int} (hx1 : inR x1) (n : Nat) (s : Int × MI) (e : MI) (h : iter (fun s : Int × MI => f_M_restore_L22 F x1 s.1 s.2 J) n s = some e) (hs : inR s.1) (k : ((True) → Zt l g φ mu_M_restore 53 [some (vR g 296), none, none] [] (z, e, J, G))) : Zt l g φ mu_M_restore 22 [some (vR g 296), some (vI x1), some (vI s.1)] [] (z, s.2, J, G) := by
  refine iter_ind (Z := fun s : Int × MI => Zt l g φ mu_M_restore 22 [some (vR g 296), some (vI x1), some (vI s.1)] [] (z, s.2, J, G)) (ZE := fun e : MI => ((True) → Zt l g φ mu_M_restore 53 [some (vR g 296), none, none] [] (z, e, J, G))) (Rg := fun s : Int × MI => inR s.1) ?_ n s e h hs k
  intro s r hr hst kE kS
  exact t_M_restore_L22 hb hz hG hx1 hr hst kE kS
set_option maxHeartbeats 1000000 in
theorem s_M_restore {l : Launch} {g : GX} {z : Nat} {G : Nat → Nat → Nat} {F : Nat} (hz : 353 ≤ z) (hG : lyM G) {x1 : Int} {I J : Nat → Nat → Int} (hx1 : inR x1) {res : Int × MI} (h : f_M_restore F x1 I J = some res) : Spec l g 1 yX11_restore cX11_restore 3 (some .boolean) [vR g 296, vI x1] (z, I, J, G) (some (vI res.1)) (res.1 = 0 ∨ res.1 = 1) (z, res.2, J, G) := by
  refine spec_of (μ := mu_M_restore) (k := 1) (L0 := [some (vR g 296), some (vI x1), none]) rfl mw_M_restore rfl rfl (Nat.le_refl _) (fun φ hb hE => ?_)
  refine z_iload_n dX11_restore_0 rfl ?_
  refine z_iconst dX11_restore_1 ?_
  refine z_iconst dX11_restore_2 ?_
  obtain ⟨q1, hq2, h⟩ := bindE h
  refine z_callS (As := [vI x1, vI 0, vI 2]) (rest := []) (s_M_in hz hG hx1 (inRd (x := 0) (by decide)) (inRd (x := 2) (by decide)) hq2) dX11_restore_3 mw_M_in ml_M_345 st_M_in rfl rfl rfl rfl (Nat.le_refl _) (Nat.le_of_eq hb.symm) (fun hp3 => ?_)
  show Zt _ _ _ _ 6 _ [vI q1] (z, I, J, G)
  refine z_if_eq (tgt := 18) dX11_restore_6 (by decide) (inR_bool hp3) (fun hc4 => ?_) (fun hc4 => ?_)
  · replace h := ifT hc4 h
    refine z_iconst dX11_restore_18 ?_
    obtain rfl := someE h
    exact z_zret dX11_restore_19 hE b01_0 b01_0 rfl
  replace h := ifF hc4 h
  refine z_aload_n dX11_restore_9 rfl ?_
  refine y_getR dX11_restore_10 cl11 sh_296 (by decide) (Nat.le_trans (by decide) hz) 79 rfl rfl (fl_M_185) (ly_296_79 hG) (by decide) ?_
  refine z_iload_n dX11_restore_13 rfl ?_
  obtain ⟨hg5, h⟩ := guardE h
  refine z_nm (fun hN6 => ?_)
  refine y_zald dX11_restore_14 sh_352 (by decide) (Nat.le_trans (by decide) hz) hx1 hg5 ?_
  refine z_if_ne (tgt := 20) dX11_restore_15 (by decide) (hN6.1 352 (x1).toNat) (fun hc7 => ?_) (fun hc7 => ?_)
  · replace h := ifT hc7 h
    refine z_iconst dX11_restore_20 ?_
    refine z_istore_n (L' := [some (vR g 296), some (vI x1), some (vI 0)]) dX11_restore_21 rfl rfl rfl ?_
    obtain ⟨e12, h13, h⟩ := bindE h
    refine l_M_restore_L22 hb hz hG hx1 _ _ _ h13 (inRd (x := 0) (by decide)) ?_
    refine fun h14 => ?_
    refine z_aload_n dX11_restore_53 rfl ?_
    refine z_iconst dX11_restore_54 ?_
    refine y_putI dX11_restore_55 cl11 sh_296 (by decide) (Nat.le_trans (by decide) hz) 55 rfl rfl rfl (fl_M_287) rfl rfl (inRd (x := 0) (by decide)) ?_
    refine z_iconst dX11_restore_58 ?_
    obtain rfl := someE h
    exact z_zret dX11_restore_59 hE b01_1 b01_1 rfl
  replace h := ifF (fun q => q hc7) h
  refine z_iconst dX11_restore_18 ?_
  obtain rfl := someE h
  exact z_zret dX11_restore_19 hE b01_0 b01_0 rfl
set_option maxHeartbeats 1000000 in
theorem t_M_count_b31in11 {l : Launch} {g : GX} {φ : CX} {z : Nat} {G : Nat → Nat → Nat} {F : Nat} (hb : cb φ = z) (hz : 353 ≤ z) (hG : lyM G) {x1 : Int} {x2 : Int} {x3 : Int} {x4 : Int} {I J : Nat → Nat → Int} (hx1 : inR x1) (hx2 : inR x2) (hx3 : inR x3) (hx4 : inR x4) {res : (Int × Int) ⊕ (Int × Int × Int)} (h : f_M_count_b31in11 F x1 x2 x3 x4 I J = some res) (kE : ∀ e : Int × Int, res = .inl e → ((inR e.1 ∧ inR e.2) → Zt l g φ mu_M_count 52 [some (vR g 296), some (vI x1), some (vI e.1), some (vI e.2), none, none] [] (z, I, J, G))) (kS : ∀ s : Int × Int × Int, res = .inr s → (inR s.1 ∧ inR s.2.1 ∧ inR s.2.2) → Zt l g φ mu_M_count 11 [some (vR g 296), some (vI x1), some (vI s.1), some (vI s.2.1), some (vI s.2.2), none] [] (z, I, J, G)) : Zt l g φ mu_M_count 31 [some (vR g 296), some (vI x1), some (vI x2), some (vI x3), some (vI x4), none] [] (z, I, J, G) := by
  refine z_aload_n dX11_count_31 rfl ?_
  refine y_getR dX11_count_32 cl11 sh_296 (by decide) (Nat.le_trans (by decide) hz) 53 rfl rfl (fl_M_125) (ly_296_53 hG) (by decide) ?_
  refine z_iload dX11_count_35 rfl ?_
  obtain ⟨hg8, h⟩ := guardE h
  refine z_nm (fun hN9 => ?_)
  refine y_iald dX11_count_37 sh_332 (by decide) (Nat.le_trans (by decide) hz) hx4 hg8 ?_
  refine z_bipush dX11_count_38 (by decide +kernel) ?_
  refine z_icmp_ne (tgt := 46) dX11_count_40 (by decide) (hN9.1 332 (x4).toNat) (inRd (x := (-2)) (by decide)) (fun hc10 => ?_) (fun hc10 => ?_)
  · replace h := ifT hc10 h
    refine z_iinc (L' := [some (vR g 296), some (vI x1), some (vI x2), some (vI x3), some (vI (w32 (x4 + 1))), none]) dX11_count_46 rfl rfl rfl rfl ?_
    refine z_goto (tgt := 11) dX11_count_49 (by decide) ?_
    exact kS _ (someE h).symm ⟨hx2, hx3, (inR_w32 _)⟩
  replace h := ifF (fun q => q hc10) h
  refine z_iinc (L' := [some (vR g 296), some (vI x1), some (vI x2), some (vI (w32 (x3 + 1))), some (vI x4), none]) dX11_count_43 rfl rfl rfl rfl ?_
  refine z_iinc (L' := [some (vR g 296), some (vI x1), some (vI x2), some (vI (w32 (x3 + 1))), some (vI (w32 (x4 + 1))), none]) dX11_count_46 rfl rfl rfl rfl ?_
  refine z_goto (tgt := 11) dX11_count_49 (by decide) ?_
  exact kS _ (someE h).symm ⟨hx2, (inR_w32 _), (inR_w32 _)⟩
set_option maxHeartbeats 1000000 in
theorem t_M_count_L11 {l : Launch} {g : GX} {φ : CX} {z : Nat} {G : Nat → Nat → Nat} {F : Nat} (hb : cb φ = z) (hz : 353 ≤ z) (hG : lyM G) {x1 : Int} {x2 : Int} {x3 : Int} {x4 : Int} {I J : Nat → Nat → Int} (hx1 : inR x1) (hx2 : inR x2) (hx3 : inR x3) (hx4 : inR x4) {res : (Int × Int) ⊕ (Int × Int × Int)} (h : f_M_count_L11 F x1 x2 x3 x4 I J = some res) (kE : ∀ e : Int × Int, res = .inl e → ((inR e.1 ∧ inR e.2) → Zt l g φ mu_M_count 52 [some (vR g 296), some (vI x1), some (vI e.1), some (vI e.2), none, none] [] (z, I, J, G))) (kS : ∀ s : Int × Int × Int, res = .inr s → (inR s.1 ∧ inR s.2.1 ∧ inR s.2.2) → Zt l g φ mu_M_count 11 [some (vR g 296), some (vI x1), some (vI s.1), some (vI s.2.1), some (vI s.2.2), none] [] (z, I, J, G)) : Zt l g φ mu_M_count 11 [some (vR g 296), some (vI x1), some (vI x2), some (vI x3), some (vI x4), none] [] (z, I, J, G) := by
  refine z_iload dX11_count_11 rfl ?_
  refine z_bipush dX11_count_13 (by decide +kernel) ?_
  refine z_icmp_ge (tgt := 52) dX11_count_15 (by decide) hx4 (inRd (x := 72) (by decide)) (fun hc4 => ?_) (fun hc4 => ?_)
  · replace h := ifT hc4 h
    refine z_weak (L' := [some (vR g 296), some (vI x1), some (vI x2), some (vI x3), none, none]) (lsS (lsS (lsS (lsS (lsN (lsN ls0)))))) ?_
    exact kE _ (someE h).symm ⟨hx2, hx3⟩
  replace h := ifF hc4 h
  refine z_aload_n dX11_count_18 rfl ?_
  refine y_getR dX11_count_19 cl11 sh_296 (by decide) (Nat.le_trans (by decide) hz) 53 rfl rfl (fl_M_125) (ly_296_53 hG) (by decide) ?_
  refine z_iload dX11_count_22 rfl ?_
  obtain ⟨hg5, h⟩ := guardE h
  refine z_nm (fun hN6 => ?_)
  refine y_iald dX11_count_24 sh_332 (by decide) (Nat.le_trans (by decide) hz) hx4 hg5 ?_
  refine z_if_lt (tgt := 31) dX11_count_25 (by decide) (hN6.1 332 (x4).toNat) (fun hc7 => ?_) (fun hc7 => ?_)
  · replace h := ifT hc7 h
    exact t_M_count_b31in11 hb hz hG hx1 hx2 hx3 hx4 h kE kS
  replace h := ifF hc7 h
  refine z_iinc (L' := [some (vR g 296), some (vI x1), some (vI (w32 (x2 + 1))), some (vI x3), some (vI x4), none]) dX11_count_28 rfl rfl rfl rfl ?_
  exact t_M_count_b31in11 hb hz hG hx1 (inR_w32 _) hx3 hx4 h kE kS
theorem l_M_count_L11 {l : Launch} {g : GX} {φ : CX} {z : Nat} {G : Nat → Nat → Nat} {F : Nat} (hb : cb φ = z) (hz : 353 ≤ z) (hG : lyM G) {x1 : Int} {I : Nat → Nat → Int} {J : Nat → Nat → Int} (hx1 : inR x1) (n : Nat) (s : Int × Int × Int) (e : Int × Int) (h : iter (fun s : Int × Int × Int => f_M_count_L11 F x1 s.1 s.2.1 s.2.2 I J) n s = some e) (hs : inR s.1 ∧ inR s.2.1 ∧ inR s.2.2) (k : ((inR e.1 ∧ inR e.2) → Zt l g φ mu_M_count 52 [some (vR g 296), some (vI x1), some (vI e.1), some (vI e.2), none, none] [] (z, I, J, G))) : Zt l g φ mu_M_count 11 [some (vR g 296), some (vI x1), some (vI s.1), some (vI s.2.1), some (vI s.2.2), none] [] (z, I, J, G) := by
  refine iter_ind (Z := fun s : Int × Int × Int => Zt l g φ mu_M_count 11 [some (vR g 296), some (vI x1), some (vI s.1), some (vI s.2.1), some (vI s.2.2), none] [] (z, I, J, G)) (ZE := fun e : Int × Int => ((inR e.1 ∧ inR e.2) → Zt l g φ mu_M_count 52 [some (vR g 296), some (vI x1), some (vI e.1), some (vI e.2), none, none] [] (z, I, J, G))) (Rg := fun s : Int × Int × Int => inR s.1 ∧ inR s.2.1 ∧ inR s.2.2) ?_ n s e h hs k
  intro s r hr hst kE kS
  exact t_M_count_L11 hb hz hG hx1 hr.1 hr.2.1 hr.2.2 hst kE kS
set_option maxHeartbeats 1000000 in
theorem t_M_count_L189 {l : Launch} {g : GX} {φ : CX} {z : Nat} {G : Nat → Nat → Nat} {F : Nat} (hb : cb φ = z) (hz : 353 ≤ z) (hG : lyM G) {x4 : Int} {x5 : Int} {I J : Nat → Nat → Int} (hx4 : inR x4) (hx5 : inR x5) {res : (Int) ⊕ (Int × Int)} (h : f_M_count_L189 F x4 x5 I J = some res) (kE : ∀ e : Int, res = .inl e → ((inR e) → Zt l g φ mu_M_count 231 [none, none, none, none, some (vI e), none] [] (z, I, J, G))) (kS : ∀ s : Int × Int, res = .inr s → (inR s.1 ∧ inR s.2) → Zt l g φ mu_M_count 189 [some (vR g 296), none, none, none, some (vI s.1), some (vI s.2)] [] (z, I, J, G)) : Zt l g φ mu_M_count 189 [some (vR g 296), none, none, none, some (vI x4), some (vI x5)] [] (z, I, J, G) := by
  refine z_iload dX11_count_189 rfl ?_
  refine z_bipush dX11_count_191 (by decide +kernel) ?_
  refine z_icmp_ge (tgt := 231) dX11_count_193 (by decide) hx5 (inRd (x := 96) (by decide)) (fun hc34 => ?_) (fun hc34 => ?_)
  · replace h := ifT hc34 h
    refine z_weak (L' := [none, none, none, none, some (vI x4), none]) (lsN (lsN (lsN (lsN (lsS (lsN ls0)))))) ?_
    exact kE _ (someE h).symm hx4
  replace h := ifF hc34 h
  refine z_aload_n dX11_count_196 rfl ?_
  refine z_iload dX11_count_197 rfl ?_
  refine z_bipush dX11_count_199 (by decide +kernel) ?_
  refine z_irem dX11_count_201 (inRd (x := 12) (by decide)) (by decide) ?_
  refine z_iload dX11_count_202 rfl ?_
  refine z_bipush dX11_count_204 (by decide +kernel) ?_
  refine z_idiv dX11_count_206 (inRd (x := 12) (by decide)) (by decide) ?_
  obtain ⟨q35, hq36, h⟩ := bindE h
  refine z_callV (As := [vI (rem32 x5 12), vI (div32 x5 12)]) (rest := []) (s_M_isCell hz hG inR_rem inR_div hq36) dX11_count_207 mw_M_isCell cl11 sh_296 (by decide) (Nat.le_trans (by decide) hz) ml_M_369 im_M_isCell se_M_isCell rfl rfl rfl rfl (Nat.le_refl _) (Nat.le_of_eq hb.symm) (fun hp37 => ?_)
  show Zt _ _ _ _ 210 _ [vI q35] (z, I, J, G)
  refine z_if_eq (tgt := 225) dX11_count_210 (by decide) (inR_bool hp37) (fun hc38 => ?_) (fun hc38 => ?_)
  · replace h := ifT hc38 h
    refine z_iinc (L' := [some (vR g 296), none, none, none, some (vI x4), some (vI (w32 (x5 + 1)))]) dX11_count_225 rfl rfl rfl rfl ?_
    refine z_goto (tgt := 189) dX11_count_228 (by decide) ?_
    exact kS _ (someE h).symm ⟨hx4, (inR_w32 _)⟩
  replace h := ifF hc38 h
  refine z_aload_n dX11_count_213 rfl ?_
  refine z_iload dX11_count_214 rfl ?_
  obtain ⟨q39, hq40, h⟩ := bindE h
  refine z_callV (As := [vI x5]) (rest := []) (s_M_isStep hz hG hx5 hq40) dX11_count_216 mw_M_isStep cl11 sh_296 (by decide) (Nat.le_trans (by decide) hz) ml_M_376 im_M_isStep se_M_isStep rfl rfl rfl rfl (Nat.le_refl _) (Nat.le_of_eq hb.symm) (fun hp41 => ?_)
  show Zt _ _ _ _ 219 _ [vI q39] (z, I, J, G)
  refine z_if_eq (tgt := 225) dX11_count_219 (by decide) (inR_bool hp41) (fun hc42 => ?_) (fun hc42 => ?_)
  · replace h := ifT hc42 h
    refine z_iinc (L' := [some (vR g 296), none, none, none, some (vI x4), some (vI (w32 (x5 + 1)))]) dX11_count_225 rfl rfl rfl rfl ?_
    refine z_goto (tgt := 189) dX11_count_228 (by decide) ?_
    exact kS _ (someE h).symm ⟨hx4, (inR_w32 _)⟩
  replace h := ifF hc42 h
  refine z_iinc (L' := [some (vR g 296), none, none, none, some (vI (w32 (x4 + 1))), some (vI x5)]) dX11_count_222 rfl rfl rfl rfl ?_
  refine z_iinc (L' := [some (vR g 296), none, none, none, some (vI (w32 (x4 + 1))), some (vI (w32 (x5 + 1)))]) dX11_count_225 rfl rfl rfl rfl ?_
  refine z_goto (tgt := 189) dX11_count_228 (by decide) ?_
  exact kS _ (someE h).symm ⟨(inR_w32 _), (inR_w32 _)⟩
theorem l_M_count_L189 {l : Launch} {g : GX} {φ : CX} {z : Nat} {G : Nat → Nat → Nat} {F : Nat} (hb : cb φ = z) (hz : 353 ≤ z) (hG : lyM G) {I : Nat → Nat → Int} {J : Nat → Nat → Int} (n : Nat) (s : Int × Int) (e : Int) (h : iter (fun s : Int × Int => f_M_count_L189 F s.1 s.2 I J) n s = some e) (hs : inR s.1 ∧ inR s.2) (k : ((inR e) → Zt l g φ mu_M_count 231 [none, none, none, none, some (vI e), none] [] (z, I, J, G))) : Zt l g φ mu_M_count 189 [some (vR g 296), none, none, none, some (vI s.1), some (vI s.2)] [] (z, I, J, G) := by
  refine iter_ind (Z := fun s : Int × Int => Zt l g φ mu_M_count 189 [some (vR g 296), none, none, none, some (vI s.1), some (vI s.2)] [] (z, I, J, G)) (ZE := fun e : Int => ((inR e) → Zt l g φ mu_M_count 231 [none, none, none, none, some (vI e), none] [] (z, I, J, G))) (Rg := fun s : Int × Int => inR s.1 ∧ inR s.2) ?_ n s e h hs k
  intro s r hr hst kE kS
  exact t_M_count_L189 hb hz hG hr.1 hr.2 hst kE kS
set_option maxHeartbeats 1000000 in
theorem t_M_count_b277 {l : Launch} {g : GX} {φ : CX} {z : Nat} {G : Nat → Nat → Nat} {F : Nat} (hb : cb φ = z) (hz : 353 ≤ z) (hG : lyM G) {s0 : Int} {s1 : Int} {I J : Nat → Nat → Int} (hs0 : inR s0) (hb0 : s0 = 0 ∨ s0 = 1) (hs1 : inR s1) (hb1 : s1 = 0 ∨ s1 = 1) {res : Int × MI} (h : f_M_count_b277 F s0 s1 I J = some res) (hE : ends g φ (some .int) (some (vI res.1)) (inR res.1) (z, res.2, J, G)) : Zt l g φ mu_M_count 277 [some (vR g 296), none, none, none, none, none] [vI s1, vI s0] (z, I, J, G) := by
  refine z_iadd dX11_count_277 ?_
  refine z_aload_n dX11_count_278 rfl ?_
  refine y_getR dX11_count_279 cl11 sh_296 (by decide) (Nat.le_trans (by decide) hz) 79 rfl rfl (fl_M_185) (ly_296_79 hG) (by decide) ?_
  refine z_iconst dX11_count_282 ?_
  refine z_nm (fun hN57 => ?_)
  refine y_zald dX11_count_283 sh_352 (by decide) (Nat.le_trans (by decide) hz) (inRd (x := 2) (by decide)) (by decide) ?_
  refine z_if_eq (tgt := 291) dX11_count_284 (by decide) (hN57.1 352 2) (fun hc58 => ?_) (fun hc58 => ?_)
  · replace h := ifT hc58 h
    refine z_iconst dX11_count_291 ?_
    refine z_iadd dX11_count_292 ?_
    obtain rfl := someE h
    exact z_iret dX11_count_293 hE (inR_w32 _) rfl
  replace h := ifF hc58 h
  refine z_iconst dX11_count_287 ?_
  refine z_goto (tgt := 292) dX11_count_288 (by decide) ?_
  refine z_iadd dX11_count_292 ?_
  obtain rfl := someE h
  exact z_iret dX11_count_293 hE (inR_w32 _) rfl
set_option maxHeartbeats 1000000 in
theorem t_M_count_b263 {l : Launch} {g : GX} {φ : CX} {z : Nat} {G : Nat → Nat → Nat} {F : Nat} (hb : cb φ = z) (hz : 353 ≤ z) (hG : lyM G) {s0 : Int} {I J : Nat → Nat → Int} (hs0 : inR s0) (hb0 : s0 = 0 ∨ s0 = 1) {res : Int × MI} (h : f_M_count_b263 F s0 I J = some res) (hE : ends g φ (some .int) (some (vI res.1)) (inR res.1) (z, res.2, J, G)) : Zt l g φ mu_M_count 263 [some (vR g 296), none, none, none, none, none] [vI s0] (z, I, J, G) := by
  refine z_aload_n dX11_count_263 rfl ?_
  refine y_getR dX11_count_264 cl11 sh_296 (by decide) (Nat.le_trans (by decide) hz) 79 rfl rfl (fl_M_185) (ly_296_79 hG) (by decide) ?_
  refine z_iconst dX11_count_267 ?_
  refine z_nm (fun hN55 => ?_)
  refine y_zald dX11_count_268 sh_352 (by decide) (Nat.le_trans (by decide) hz) (inRd (x := 1) (by decide)) (by decide) ?_
  refine z_if_eq (tgt := 276) dX11_count_269 (by decide) (hN55.1 352 1) (fun hc56 => ?_) (fun hc56 => ?_)
  · replace h := ifT hc56 h
    refine z_iconst dX11_count_276 ?_
    exact t_M_count_b277 hb hz hG hs0 hb0 (inRd (x := 0) (by decide)) b01_0 h hE
  replace h := ifF hc56 h
  refine z_iconst dX11_count_272 ?_
  refine z_goto (tgt := 277) dX11_count_273 (by decide) ?_
  exact t_M_count_b277 hb hz hG hs0 hb0 (inRd (x := 1) (by decide)) b01_1 h hE
set_option maxHeartbeats 1000000 in
theorem s_M_count {l : Launch} {g : GX} {z : Nat} {G : Nat → Nat → Nat} {F : Nat} (hz : 353 ≤ z) (hG : lyM G) {x1 : Int} {I J : Nat → Nat → Int} (hx1 : inR x1) {res : Int × MI} (h : f_M_count F x1 I J = some res) : Spec l g 2 yX11_count cX11_count 6 (some .int) [vR g 296, vI x1] (z, I, J, G) (some (vI res.1)) (inR res.1) (z, res.2, J, G) := by
  refine spec_of (μ := mu_M_count) (k := 4) (L0 := [some (vR g 296), some (vI x1), none, none, none, none]) rfl mw_M_count rfl rfl (Nat.le_refl _) (fun φ hb hE => ?_)
  refine z_aload_n dX11_count_0 rfl ?_
  obtain ⟨q1, hq2, h⟩ := bindE h
  refine z_callV (As := []) (rest := []) (s_M_copies hz hG  hq2) dX11_count_1 mw_M_copies cl11 sh_296 (by decide) (Nat.le_trans (by decide) hz) ml_M_373 im_M_copies se_M_copies rfl rfl rfl rfl (Nat.le_refl _) (Nat.le_of_eq hb.symm) (fun hp3 => ?_)
  show Zt _ _ _ _ 4 _ [] (z, q1, J, G)
  refine z_iconst dX11_count_4 ?_
  refine z_istore_n (L' := [some (vR g 296), some (vI x1), some (vI 0), none, none, none]) dX11_count_5 rfl rfl rfl ?_
  refine z_iconst dX11_count_6 ?_
  refine z_istore_n (L' := [some (vR g 296), some (vI x1), some (vI 0), some (vI 0), none, none]) dX11_count_7 rfl rfl rfl ?_
  refine z_iconst dX11_count_8 ?_
  refine z_istore (L' := [some (vR g 296), some (vI x1), some (vI 0), some (vI 0), some (vI 0), none]) dX11_count_9 rfl rfl rfl ?_
  obtain ⟨e11, h12, h⟩ := bindE h
  refine l_M_count_L11 hb hz hG hx1 _ _ _ h12 ⟨(inRd (x := 0) (by decide)), (inRd (x := 0) (by decide)), (inRd (x := 0) (by decide))⟩ ?_
  refine fun h13 => ?_
  refine z_iload_n dX11_count_52 rfl ?_
  by_cases hc14 : x1 = 0
  · replace h := ifT hc14 h
    refine z_tabIn (tgt := 120) dX11_count_53 0 hc14 hx1 (by decide) rfl (by decide) ?_
    refine z_aload_n dX11_count_120 rfl ?_
    refine y_getR dX11_count_121 cl11 sh_296 (by decide) (Nat.le_trans (by decide) hz) 22 rfl rfl (fl_M_43) (ly_296_22 hG) (by decide) ?_
    refine z_aload_n dX11_count_124 rfl ?_
    refine z_nm (fun hN15 => ?_)
    refine y_getI dX11_count_125 cl11 sh_296 (by decide) (Nat.le_trans (by decide) hz) 18 rfl rfl (fl_M_269) ?_
    obtain ⟨hg16, h⟩ := guardE h
    refine y_iald dX11_count_128 sh_305 (by decide) (Nat.le_trans (by decide) hz) (hN15.1 296 18) hg16 ?_
    obtain rfl := someE h
    exact z_iret dX11_count_129 hE (hN15.1 305 ((q1 296 18)).toNat) rfl
  replace h := ifF hc14 h
  by_cases hc17 : x1 = 1
  · replace h := ifT hc17 h
    refine z_tabIn (tgt := 130) dX11_count_53 1 hc17 hx1 (by decide) rfl (by decide) ?_
    refine z_aload_n dX11_count_130 rfl ?_
    refine y_getR dX11_count_131 cl11 sh_296 (by decide) (Nat.le_trans (by decide) hz) 23 rfl rfl (fl_M_46) (ly_296_23 hG) (by decide) ?_
    refine z_aload_n dX11_count_134 rfl ?_
    refine z_nm (fun hN18 => ?_)
    refine y_getI dX11_count_135 cl11 sh_296 (by decide) (Nat.le_trans (by decide) hz) 18 rfl rfl (fl_M_269) ?_
    obtain ⟨hg19, h⟩ := guardE h
    refine y_iald dX11_count_138 sh_306 (by decide) (Nat.le_trans (by decide) hz) (hN18.1 296 18) hg19 ?_
    obtain rfl := someE h
    exact z_iret dX11_count_139 hE (hN18.1 306 ((q1 296 18)).toNat) rfl
  replace h := ifF hc17 h
  by_cases hc20 : x1 = 2
  · replace h := ifT hc20 h
    refine z_tabIn (tgt := 140) dX11_count_53 2 hc20 hx1 (by decide) rfl (by decide) ?_
    refine z_aload_n dX11_count_140 rfl ?_
    refine y_getR dX11_count_141 cl11 sh_296 (by decide) (Nat.le_trans (by decide) hz) 27 rfl rfl (fl_M_58) (ly_296_27 hG) (by decide) ?_
    refine z_aload_n dX11_count_144 rfl ?_
    refine z_nm (fun hN21 => ?_)
    refine y_getI dX11_count_145 cl11 sh_296 (by decide) (Nat.le_trans (by decide) hz) 18 rfl rfl (fl_M_269) ?_
    obtain ⟨hg22, h⟩ := guardE h
    refine y_iald dX11_count_148 sh_310 (by decide) (Nat.le_trans (by decide) hz) (hN21.1 296 18) hg22 ?_
    obtain rfl := someE h
    exact z_iret dX11_count_149 hE (hN21.1 310 ((q1 296 18)).toNat) rfl
  replace h := ifF hc20 h
  by_cases hc23 : x1 = 3
  · replace h := ifT hc23 h
    refine z_tabIn (tgt := 150) dX11_count_53 3 hc23 hx1 (by decide) rfl (by decide) ?_
    refine z_aload_n dX11_count_150 rfl ?_
    refine y_getR dX11_count_151 cl11 sh_296 (by decide) (Nat.le_trans (by decide) hz) 28 rfl rfl (fl_M_61) (ly_296_28 hG) (by decide) ?_
    refine z_aload_n dX11_count_154 rfl ?_
    refine z_nm (fun hN24 => ?_)
    refine y_getI dX11_count_155 cl11 sh_296 (by decide) (Nat.le_trans (by decide) hz) 18 rfl rfl (fl_M_269) ?_
    obtain ⟨hg25, h⟩ := guardE h
    refine y_iald dX11_count_158 sh_311 (by decide) (Nat.le_trans (by decide) hz) (hN24.1 296 18) hg25 ?_
    obtain rfl := someE h
    exact z_iret dX11_count_159 hE (hN24.1 311 ((q1 296 18)).toNat) rfl
  replace h := ifF hc23 h
  by_cases hc26 : x1 = 4
  · replace h := ifT hc26 h
    refine z_tabIn (tgt := 160) dX11_count_53 4 hc26 hx1 (by decide) rfl (by decide) ?_
    refine z_aload_n dX11_count_160 rfl ?_
    refine y_getR dX11_count_161 cl11 sh_296 (by decide) (Nat.le_trans (by decide) hz) 33 rfl rfl (fl_M_76) (ly_296_33 hG) (by decide) ?_
    refine z_aload_n dX11_count_164 rfl ?_
    refine z_nm (fun hN27 => ?_)
    refine y_getI dX11_count_165 cl11 sh_296 (by decide) (Nat.le_trans (by decide) hz) 18 rfl rfl (fl_M_269) ?_
    obtain ⟨hg28, h⟩ := guardE h
    refine y_iald dX11_count_168 sh_316 (by decide) (Nat.le_trans (by decide) hz) (hN27.1 296 18) hg28 ?_
    obtain rfl := someE h
    exact z_iret dX11_count_169 hE (hN27.1 316 ((q1 296 18)).toNat) rfl
  replace h := ifF hc26 h
  by_cases hc29 : x1 = 5
  · replace h := ifT hc29 h
    refine z_tabIn (tgt := 170) dX11_count_53 5 hc29 hx1 (by decide) rfl (by decide) ?_
    refine z_aload_n dX11_count_170 rfl ?_
    refine y_getR dX11_count_171 cl11 sh_296 (by decide) (Nat.le_trans (by decide) hz) 53 rfl rfl (fl_M_125) (ly_296_53 hG) (by decide) ?_
    refine z_sipush dX11_count_174 (by decide +kernel) ?_
    refine z_nm (fun hN30 => ?_)
    refine y_iald dX11_count_177 sh_332 (by decide) (Nat.le_trans (by decide) hz) (inRd (x := 240) (by decide)) (by decide) ?_
    obtain rfl := someE h
    exact z_iret dX11_count_178 hE (hN30.1 332 240) rfl
  replace h := ifF hc29 h
  by_cases hc31 : x1 = 6
  · replace h := ifT hc31 h
    refine z_tabIn (tgt := 179) dX11_count_53 6 hc31 hx1 (by decide) rfl (by decide) ?_
    refine z_iload_n dX11_count_179 rfl ?_
    obtain rfl := someE h
    exact z_iret dX11_count_180 hE h13.1 rfl
  replace h := ifF hc31 h
  by_cases hc32 : x1 = 7
  · replace h := ifT hc32 h
    refine z_tabIn (tgt := 181) dX11_count_53 7 hc32 hx1 (by decide) rfl (by decide) ?_
    refine z_iload_n dX11_count_181 rfl ?_
    obtain rfl := someE h
    exact z_iret dX11_count_182 hE h13.2 rfl
  replace h := ifF hc32 h
  by_cases hc33 : x1 = 8
  · replace h := ifT hc33 h
    refine z_tabIn (tgt := 183) dX11_count_53 8 hc33 hx1 (by decide) rfl (by decide) ?_
    refine z_iconst dX11_count_183 ?_
    refine z_istore (L' := [some (vR g 296), some (vI x1), some (vI e11.1), some (vI e11.2), some (vI 0), none]) dX11_count_184 rfl rfl rfl ?_
    refine z_iconst dX11_count_186 ?_
    refine z_istore (L' := [some (vR g 296), some (vI x1), some (vI e11.1), some (vI e11.2), some (vI 0), some (vI 0)]) dX11_count_187 rfl rfl rfl ?_
    refine z_weak (L' := [some (vR g 296), none, none, none, some (vI 0), some (vI 0)]) (lsS (lsN (lsN (lsN (lsS (lsS ls0)))))) ?_
    obtain ⟨e43, h44, h⟩ := bindE h
    refine l_M_count_L189 hb hz hG  _ _ _ h44 ⟨(inRd (x := 0) (by decide)), (inRd (x := 0) (by decide))⟩ ?_
    refine fun h45 => ?_
    refine z_iload dX11_count_231 rfl ?_
    obtain rfl := someE h
    exact z_iret dX11_count_233 hE h45 rfl
  replace h := ifF hc33 h
  by_cases hc46 : x1 = 9
  · replace h := ifT hc46 h
    refine z_tabIn (tgt := 234) dX11_count_53 9 hc46 hx1 (by decide) rfl (by decide) ?_
    refine z_aload_n dX11_count_234 rfl ?_
    refine z_nm (fun hN47 => ?_)
    refine y_getI dX11_count_235 cl11 sh_296 (by decide) (Nat.le_trans (by decide) hz) 2 rfl rfl (fl_M_202) ?_
    obtain rfl := someE h
    exact z_iret dX11_count_238 hE (hN47.1 296 2) rfl
  replace h := ifF hc46 h
  by_cases hc48 : x1 = 10
  · replace h := ifT hc48 h
    refine z_tabIn (tgt := 239) dX11_count_53 10 hc48 hx1 (by decide) rfl (by decide) ?_
    refine z_aload_n dX11_count_239 rfl ?_
    refine z_nm (fun hN49 => ?_)
    refine y_getI dX11_count_240 cl11 sh_296 (by decide) (Nat.le_trans (by decide) hz) 55 rfl rfl (fl_M_287) ?_
    obtain rfl := someE h
    exact z_iret dX11_count_243 hE (hN49.1 296 55) rfl
  replace h := ifF hc48 h
  by_cases hc50 : x1 = 11
  · replace h := ifT hc50 h
    refine z_tabIn (tgt := 244) dX11_count_53 11 hc50 hx1 (by decide) rfl (by decide) ?_
    refine z_aload_n dX11_count_244 rfl ?_
    refine z_nm (fun hN51 => ?_)
    refine y_getI dX11_count_245 cl11 sh_296 (by decide) (Nat.le_trans (by decide) hz) 76 rfl rfl (fl_M_290) ?_
    obtain rfl := someE h
    exact z_iret dX11_count_248 hE (hN51.1 296 76) rfl
  replace h := ifF hc50 h
  by_cases hc52 : x1 = 12
  · replace h := ifT hc52 h
    refine z_tabIn (tgt := 249) dX11_count_53 12 hc52 hx1 (by decide) rfl (by decide) ?_
    refine z_aload_n dX11_count_249 rfl ?_
    refine y_getR dX11_count_250 cl11 sh_296 (by decide) (Nat.le_trans (by decide) hz) 79 rfl rfl (fl_M_185) (ly_296_79 hG) (by decide) ?_
    refine z_iconst dX11_count_253 ?_
    refine z_nm (fun hN53 => ?_)
    refine y_zald dX11_count_254 sh_352 (by decide) (Nat.le_trans (by decide) hz) (inRd (x := 0) (by decide)) (by decide) ?_
    refine z_if_eq (tgt := 262) dX11_count_255 (by decide) (hN53.1 352 0) (fun hc54 => ?_) (fun hc54 => ?_)
    · replace h := ifT hc54 h
      refine z_iconst dX11_count_262 ?_
      refine z_weak (L' := [some (vR g 296), none, none, none, none, none]) (lsS (lsN (lsN (lsN (lsN (lsN ls0)))))) ?_
      exact t_M_count_b263 hb hz hG (inRd (x := 0) (by decide)) b01_0 h hE
    replace h := ifF hc54 h
    refine z_iconst dX11_count_258 ?_
    refine z_goto (tgt := 263) dX11_count_259 (by decide) ?_
    refine z_weak (L' := [some (vR g 296), none, none, none, none, none]) (lsS (lsN (lsN (lsN (lsN (lsN ls0)))))) ?_
    exact t_M_count_b263 hb hz hG (inRd (x := 1) (by decide)) b01_1 h hE
  replace h := ifF hc52 h
  refine z_tabOut (tgt := 294) dX11_count_53 hx1 (by omega) (by decide) ?_
  refine z_iconst dX11_count_294 ?_
  obtain rfl := someE h
  exact z_iret dX11_count_295 hE (inRd (x := (-1)) (by decide)) rfl
