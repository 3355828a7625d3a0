def GL (rv sp : Nat) : Nat → Nat → Nat := up2 (up2 gmz 1 3 rv) 1 4 sp
theorem lyX_gmz : lyX gmz := by
  have h : ∀ e ∈ LYX, gmz e.1 e.2.1 = e.2.2 := by decide +kernel
  exact h
theorem lyM_up {G : Nat → Nat → Nat} {k v : Nat} (h : lyM G) : lyM (up2 G 1 k v) := fun e he => by
  have h3 : ∀ e ∈ LYM, e.1 ≠ 1 := by decide +kernel
  exact (up2_ne (Or.inl (h3 e he))).trans (h e he)
theorem lyM_gmz : lyM gmz := lyM_new
theorem lyX_GL {rv sp : Nat} : lyX (GL rv sp) := lyX_put4 (lyX_put3 lyX_gmz)
theorem lyM_GL {rv sp : Nat} : lyM (GL rv sp) := lyM_up (lyM_up lyM_gmz)
theorem GL_3 {rv sp : Nat} : GL rv sp 1 3 = rv := (up2_ne (Or.inr (by decide))).trans up2_same
theorem GL_4 {rv sp : Nat} : GL rv sp 1 4 = sp := up2_same
theorem GL_GL {rv sp r s : Nat} : up2 (up2 (GL rv sp) 1 3 r) 1 4 s = GL r s := by
  funext x y
  unfold GL up2
  by_cases h4 : x = 1 ∧ y = 4
  · simp only [if_pos h4]
  · simp only [if_neg h4]
    by_cases h3 : x = 1 ∧ y = 3
    · simp only [if_pos h3]
    · simp only [if_neg h3]
def FU : Nat := 1000000000000000
theorem w_ix {i : Int} {n k : Nat} (hi : 0 ≤ i ∧ i + 6 ≤ (n : Int)) (hn : n ≤ 3072) (hk : k ≤ 5) : 0 ≤ w32 (i + (k : Int)) ∧ w32 (i + (k : Int)) < (n : Int) := by
  rw [w32_eq (by unfold inR; omega)]
  omega
def ag_0 (Inv Inv2 : MI → MI → Nat → Nat → Prop) : Prop := ∀ (I J : MI) (rv sp : Nat) (x1 : Int) (x2 : Int) (x3 : Int) (x4 : Int) (x5 : Int), isRiv rv → isRiv sp → Inv I J rv sp → inR x1 → inR x2 → inR x3 → inR x4 → inR x5 → ∃ rx rm, f_X_feed FU x1 x2 x3 x4 x5 I = some rx ∧ f_M_feed FU x1 x2 x3 x4 x5 rx.2 J = some rm ∧ rx.1 = rm.1 ∧ Inv2 rm.2 J rv sp ∧ isRiv rv ∧ isRiv sp
set_option maxHeartbeats 1000000 in
theorem lc_0 {l : Launch} {g : GX} {φ : CX} {b n : Nat} {xs : Nat → Int32} {i : Int} {Inv Inv2 : MI → MI → Nat → Nat → Prop} (ag : ag_0 Inv Inv2) (hX : va_X b n xs φ.2.2.1 φ.2.2.1.heap) (hbl : b < φ.2.2.1.heap.size) (hbA : b ≤ g.2.2.1) (hn : n ≤ 3072) (hcb : cb φ = 353) (hb : 0 ≤ i ∧ i + 6 ≤ (n : Int)) {I J : MI} {rv sp : Nat} (hrr : isRiv rv) (hss : isRiv sp) (hv : Inv I J rv sp) (kk : ∀ (I J : MI) (rv sp : Nat), Inv2 I J rv sp → isRiv rv → isRiv sp → Zt l g φ (lawN φ) 840 [some (.ref b), some (vR g 1), some (vR g 296), some (vI i)] [] (353, I, J, GL rv sp)) : Zt l g φ (lawN φ) 152 [some (.ref b), some (vR g 1), some (vR g 296), some (vI i)] [] (353, I, J, GL rv sp) := by
  obtain ⟨rx, rm, hx, hm, he, hI, hr2, hs2⟩ := ag I J rv sp (xs (w32 (i + 1)).toNat).toInt (xs (w32 (i + 2)).toNat).toInt (xs (w32 (i + 3)).toNat).toInt (xs (w32 (i + 4)).toNat).toInt (xs (w32 (i + 5)).toNat).toInt hrr hss hv (inR_toInt _) (inR_toInt _) (inR_toInt _) (inR_toInt _) (inR_toInt _)
  refine z_aload_n dL_law_152 rfl ?_
  refine z_aload_n dL_law_153 rfl ?_
  refine z_iload_n dL_law_154 rfl ?_
  refine z_iconst dL_law_155 ?_
  refine z_iadd dL_law_156 ?_
  refine z_sld hX hbl hbA dL_law_157 (inR_w32 _) (w_ix (k := 1) hb hn (by decide)) ?_
  refine z_aload_n dL_law_158 rfl ?_
  refine z_iload_n dL_law_159 rfl ?_
  refine z_iconst dL_law_160 ?_
  refine z_iadd dL_law_161 ?_
  refine z_sld hX hbl hbA dL_law_162 (inR_w32 _) (w_ix (k := 2) hb hn (by decide)) ?_
  refine z_aload_n dL_law_163 rfl ?_
  refine z_iload_n dL_law_164 rfl ?_
  refine z_iconst dL_law_165 ?_
  refine z_iadd dL_law_166 ?_
  refine z_sld hX hbl hbA dL_law_167 (inR_w32 _) (w_ix (k := 3) hb hn (by decide)) ?_
  refine z_aload_n dL_law_168 rfl ?_
  refine z_iload_n dL_law_169 rfl ?_
  refine z_iconst dL_law_170 ?_
  refine z_iadd dL_law_171 ?_
  refine z_sld hX hbl hbA dL_law_172 (inR_w32 _) (w_ix (k := 4) hb hn (by decide)) ?_
  refine z_aload_n dL_law_173 rfl ?_
  refine z_iload_n dL_law_174 rfl ?_
  refine z_iconst dL_law_175 ?_
  refine z_iadd dL_law_176 ?_
  refine z_sld hX hbl hbA dL_law_177 (inR_w32 _) (w_ix (k := 5) hb hn (by decide)) ?_
  refine z_callV (As := [vI (xs (w32 (i + 1)).toNat).toInt, vI (xs (w32 (i + 2)).toNat).toInt, vI (xs (w32 (i + 3)).toNat).toInt, vI (xs (w32 (i + 4)).toNat).toInt, vI (xs (w32 (i + 5)).toNat).toInt]) (rest := []) (s_X_feed (NL rfl) lyX_GL GL_3 hrr GL_4 hss (inR_toInt _) (inR_toInt _) (inR_toInt _) (inR_toInt _) (inR_toInt _) hx) dL_law_178 mw_X_feed cl10 (by decide +kernel) (by decide) (NL rfl) (tin2 195 (by rfl) rfl) im_X_feed se_X_feed rfl rfl rfl rfl (Nat.le_refl _) (Nat.le_of_eq hcb.symm) (fun hpx => ?_)
  show Zt _ _ _ _ 181 _ [vI rx.1] (353, rx.2, J, GL rv sp)
  refine z_aload_n dL_law_181 rfl ?_
  refine z_aload_n dL_law_182 rfl ?_
  refine z_iload_n dL_law_183 rfl ?_
  refine z_iconst dL_law_184 ?_
  refine z_iadd dL_law_185 ?_
  refine z_sld hX hbl hbA dL_law_186 (inR_w32 _) (w_ix (k := 1) hb hn (by decide)) ?_
  refine z_aload_n dL_law_187 rfl ?_
  refine z_iload_n dL_law_188 rfl ?_
  refine z_iconst dL_law_189 ?_
  refine z_iadd dL_law_190 ?_
  refine z_sld hX hbl hbA dL_law_191 (inR_w32 _) (w_ix (k := 2) hb hn (by decide)) ?_
  refine z_aload_n dL_law_192 rfl ?_
  refine z_iload_n dL_law_193 rfl ?_
  refine z_iconst dL_law_194 ?_
  refine z_iadd dL_law_195 ?_
  refine z_sld hX hbl hbA dL_law_196 (inR_w32 _) (w_ix (k := 3) hb hn (by decide)) ?_
  refine z_aload_n dL_law_197 rfl ?_
  refine z_iload_n dL_law_198 rfl ?_
  refine z_iconst dL_law_199 ?_
  refine z_iadd dL_law_200 ?_
  refine z_sld hX hbl hbA dL_law_201 (inR_w32 _) (w_ix (k := 4) hb hn (by decide)) ?_
  refine z_aload_n dL_law_202 rfl ?_
  refine z_iload_n dL_law_203 rfl ?_
  refine z_iconst dL_law_204 ?_
  refine z_iadd dL_law_205 ?_
  refine z_sld hX hbl hbA dL_law_206 (inR_w32 _) (w_ix (k := 5) hb hn (by decide)) ?_
  refine z_callV (As := [vI (xs (w32 (i + 1)).toNat).toInt, vI (xs (w32 (i + 2)).toNat).toInt, vI (xs (w32 (i + 3)).toNat).toInt, vI (xs (w32 (i + 4)).toNat).toInt, vI (xs (w32 (i + 5)).toNat).toInt]) (rest := [vI rx.1]) (s_M_feed (NL rfl) lyM_GL (inR_toInt _) (inR_toInt _) (inR_toInt _) (inR_toInt _) (inR_toInt _) hm) dL_law_207 mw_M_feed cl11 (by decide +kernel) (by decide) (NL rfl) (tin6 181 (by rfl) rfl) im_M_feed se_M_feed rfl rfl rfl rfl (Nat.le_refl _) (Nat.le_of_eq hcb.symm) (fun hpm => ?_)
  show Zt _ _ _ _ 210 _ [vI rm.1, vI rx.1] (353, rm.2, J, GL rv sp)
  exact z_icmp_eq (tgt := 840) dL_law_210 (by decide) (hpx) (hpm) (fun _ => kk _ _ _ _ hI hr2 hs2) (fun hc => absurd he hc)
def ag_1 (Inv Inv2 : MI → MI → Nat → Nat → Prop) : Prop := ∀ (I J : MI) (rv sp : Nat) (x1 : Int), isRiv rv → isRiv sp → Inv I J rv sp → inR x1 → ∃ rx rm, f_X_back FU x1 I = some rx ∧ f_M_back FU x1 rx.2 J = some rm ∧ rx.1 = rm.1 ∧ Inv2 rm.2 J rv sp ∧ isRiv rv ∧ isRiv sp
set_option maxHeartbeats 1000000 in
theorem lc_1 {l : Launch} {g : GX} {φ : CX} {b n : Nat} {xs : Nat → Int32} {i : Int} {Inv Inv2 : MI → MI → Nat → Nat → Prop} (ag : ag_1 Inv Inv2) (hX : va_X b n xs φ.2.2.1 φ.2.2.1.heap) (hbl : b < φ.2.2.1.heap.size) (hbA : b ≤ g.2.2.1) (hn : n ≤ 3072) (hcb : cb φ = 353) (hb : 0 ≤ i ∧ i + 6 ≤ (n : Int)) {I J : MI} {rv sp : Nat} (hrr : isRiv rv) (hss : isRiv sp) (hv : Inv I J rv sp) (kk : ∀ (I J : MI) (rv sp : Nat), Inv2 I J rv sp → isRiv rv → isRiv sp → Zt l g φ (lawN φ) 840 [some (.ref b), some (vR g 1), some (vR g 296), some (vI i)] [] (353, I, J, GL rv sp)) : Zt l g φ (lawN φ) 215 [some (.ref b), some (vR g 1), some (vR g 296), some (vI i)] [] (353, I, J, GL rv sp) := by
  obtain ⟨rx, rm, hx, hm, he, hI, hr2, hs2⟩ := ag I J rv sp (xs (w32 (i + 1)).toNat).toInt hrr hss hv (inR_toInt _)
  refine z_aload_n dL_law_215 rfl ?_
  refine z_aload_n dL_law_216 rfl ?_
  refine z_iload_n dL_law_217 rfl ?_
  refine z_iconst dL_law_218 ?_
  refine z_iadd dL_law_219 ?_
  refine z_sld hX hbl hbA dL_law_220 (inR_w32 _) (w_ix (k := 1) hb hn (by decide)) ?_
  refine z_callV (As := [vI (xs (w32 (i + 1)).toNat).toInt]) (rest := []) (s_X_back (NL rfl) lyX_GL GL_3 hrr GL_4 hss (inR_toInt _) hx) dL_law_221 mw_X_back cl10 (by decide +kernel) (by decide) (NL rfl) (tin2 203 (by rfl) rfl) im_X_back se_X_back rfl rfl rfl rfl (Nat.le_refl _) (Nat.le_of_eq hcb.symm) (fun hpx => ?_)
  show Zt _ _ _ _ 224 _ [vI rx.1] (353, rx.2, J, GL rv sp)
  refine z_aload_n dL_law_224 rfl ?_
  refine z_aload_n dL_law_225 rfl ?_
  refine z_iload_n dL_law_226 rfl ?_
  refine z_iconst dL_law_227 ?_
  refine z_iadd dL_law_228 ?_
  refine z_sld hX hbl hbA dL_law_229 (inR_w32 _) (w_ix (k := 1) hb hn (by decide)) ?_
  refine z_callV (As := [vI (xs (w32 (i + 1)).toNat).toInt]) (rest := [vI rx.1]) (s_M_back (NL rfl) lyM_GL (inR_toInt _) hm) dL_law_230 mw_M_back cl11 (by decide +kernel) (by decide) (NL rfl) (tin6 189 (by rfl) rfl) im_M_back se_M_back rfl rfl rfl rfl (Nat.le_refl _) (Nat.le_of_eq hcb.symm) (fun hpm => ?_)
  show Zt _ _ _ _ 233 _ [vI rm.1, vI rx.1] (353, rm.2, J, GL rv sp)
  exact z_icmp_eq (tgt := 840) dL_law_233 (by decide) (hpx) (hpm) (fun _ => kk _ _ _ _ hI hr2 hs2) (fun hc => absurd he hc)
def ag_2 (Inv Inv2 : MI → MI → Nat → Nat → Prop) : Prop := ∀ (I J : MI) (rv sp : Nat), isRiv rv → isRiv sp → Inv I J rv sp → ∃ rx rm, f_X_read FU rv sp I = some rx ∧ f_M_read FU rx.2.1 J = some rm ∧ rx.1 = rm.1 ∧ Inv2 rm.2.1 rm.2.2 rx.2.2.1 rx.2.2.2 ∧ isRiv rx.2.2.1 ∧ isRiv rx.2.2.2
set_option maxHeartbeats 1000000 in
theorem lc_2 {l : Launch} {g : GX} {φ : CX} {b n : Nat} {xs : Nat → Int32} {i : Int} {Inv Inv2 : MI → MI → Nat → Nat → Prop} (ag : ag_2 Inv Inv2) (hX : va_X b n xs φ.2.2.1 φ.2.2.1.heap) (hbl : b < φ.2.2.1.heap.size) (hbA : b ≤ g.2.2.1) (hn : n ≤ 3072) (hcb : cb φ = 353) (hb : 0 ≤ i ∧ i + 6 ≤ (n : Int)) {I J : MI} {rv sp : Nat} (hrr : isRiv rv) (hss : isRiv sp) (hv : Inv I J rv sp) (kk : ∀ (I J : MI) (rv sp : Nat), Inv2 I J rv sp → isRiv rv → isRiv sp → Zt l g φ (lawN φ) 840 [some (.ref b), some (vR g 1), some (vR g 296), some (vI i)] [] (353, I, J, GL rv sp)) : Zt l g φ (lawN φ) 238 [some (.ref b), some (vR g 1), some (vR g 296), some (vI i)] [] (353, I, J, GL rv sp) := by
  obtain ⟨rx, rm, hx, hm, he, hI, hr2, hs2⟩ := ag I J rv sp  hrr hss hv 
  refine z_aload_n dL_law_238 rfl ?_
  refine z_callV (As := []) (rest := []) (s_X_read (NL rfl) lyX_GL GL_3 hrr GL_4 hss  hx) dL_law_239 mw_X_read cl10 (by decide +kernel) (by decide) (NL rfl) (tin2 207 (by rfl) rfl) im_X_read se_X_read rfl rfl rfl rfl (Nat.le_refl _) (Nat.le_of_eq hcb.symm) (fun hpx => ?_)
  rw [GL_GL]
  show Zt _ _ _ _ 242 _ [vI rx.1] (353, rx.2.1, J, GL rx.2.2.1 rx.2.2.2)
  refine z_aload_n dL_law_242 rfl ?_
  refine z_callV (As := []) (rest := [vI rx.1]) (s_M_read (NL rfl) lyM_GL  hm) dL_law_243 mw_M_read cl11 (by decide +kernel) (by decide) (NL rfl) (tin6 193 (by rfl) rfl) im_M_read se_M_read rfl rfl rfl rfl (Nat.le_refl _) (Nat.le_of_eq hcb.symm) (fun hpm => ?_)
  show Zt _ _ _ _ 246 _ [vI rm.1, vI rx.1] (353, rm.2.1, rm.2.2, GL rx.2.2.1 rx.2.2.2)
  exact z_icmp_eq (tgt := 840) dL_law_246 (by decide) (hpx) (hpm) (fun _ => kk _ _ _ _ hI hr2 hs2) (fun hc => absurd he hc)
def ag_3 (Inv Inv2 : MI → MI → Nat → Nat → Prop) : Prop := ∀ (I J : MI) (rv sp : Nat), isRiv rv → isRiv sp → Inv I J rv sp → ∃ rx rm, f_X_place FU I = some rx ∧ f_M_place FU I J = some rm ∧ rx = rm ∧ Inv2 I J rv sp ∧ isRiv rv ∧ isRiv sp
set_option maxHeartbeats 1000000 in
theorem lc_3 {l : Launch} {g : GX} {φ : CX} {b n : Nat} {xs : Nat → Int32} {i : Int} {Inv Inv2 : MI → MI → Nat → Nat → Prop} (ag : ag_3 Inv Inv2) (hX : va_X b n xs φ.2.2.1 φ.2.2.1.heap) (hbl : b < φ.2.2.1.heap.size) (hbA : b ≤ g.2.2.1) (hn : n ≤ 3072) (hcb : cb φ = 353) (hb : 0 ≤ i ∧ i + 6 ≤ (n : Int)) {I J : MI} {rv sp : Nat} (hrr : isRiv rv) (hss : isRiv sp) (hv : Inv I J rv sp) (kk : ∀ (I J : MI) (rv sp : Nat), Inv2 I J rv sp → isRiv rv → isRiv sp → Zt l g φ (lawN φ) 840 [some (.ref b), some (vR g 1), some (vR g 296), some (vI i)] [] (353, I, J, GL rv sp)) : Zt l g φ (lawN φ) 251 [some (.ref b), some (vR g 1), some (vR g 296), some (vI i)] [] (353, I, J, GL rv sp) := by
  obtain ⟨rx, rm, hx, hm, he, hI, hr2, hs2⟩ := ag I J rv sp  hrr hss hv 
  refine z_aload_n dL_law_251 rfl ?_
  refine z_callV (As := []) (rest := []) (s_X_place (NL rfl) lyX_GL GL_3 hrr GL_4 hss  hx) dL_law_252 mw_X_place cl10 (by decide +kernel) (by decide) (NL rfl) (tin3 202 (by rfl) rfl) im_X_place se_X_place rfl rfl rfl rfl (Nat.le_refl _) (Nat.le_of_eq hcb.symm) (fun hpx => ?_)
  show Zt _ _ _ _ 255 _ [vI rx] (353, I, J, GL rv sp)
  refine z_aload_n dL_law_255 rfl ?_
  refine z_callV (As := []) (rest := [vI rx]) (s_M_place (NL rfl) lyM_GL  hm) dL_law_256 mw_M_place cl11 (by decide +kernel) (by decide) (NL rfl) (tin7 47 (by rfl) rfl) im_M_place se_M_place rfl rfl rfl rfl (Nat.le_refl _) (Nat.le_of_eq hcb.symm) (fun hpm => ?_)
  show Zt _ _ _ _ 259 _ [vI rm, vI rx] (353, I, J, GL rv sp)
  exact z_icmp_eq (tgt := 840) dL_law_259 (by decide) (hpx) (hpm) (fun _ => kk _ _ _ _ hI hr2 hs2) (fun hc => absurd he hc)
def ag_4 (Inv Inv2 : MI → MI → Nat → Nat → Prop) : Prop := ∀ (I J : MI) (rv sp : Nat) (x1 : Int) (x2 : Int) (x3 : Int), isRiv rv → isRiv sp → Inv I J rv sp → inR x1 → inR x2 → inR x3 → ∃ rx rm, f_X_cell FU x1 x2 x3 rv I = some rx ∧ f_M_cell FU x1 x2 x3 rx.2 J = some rm ∧ rx.1 = rm.1 ∧ Inv2 rm.2 J rv sp ∧ isRiv rv ∧ isRiv sp
set_option maxHeartbeats 1000000 in
theorem lc_4 {l : Launch} {g : GX} {φ : CX} {b n : Nat} {xs : Nat → Int32} {i : Int} {Inv Inv2 : MI → MI → Nat → Nat → Prop} (ag : ag_4 Inv Inv2) (hX : va_X b n xs φ.2.2.1 φ.2.2.1.heap) (hbl : b < φ.2.2.1.heap.size) (hbA : b ≤ g.2.2.1) (hn : n ≤ 3072) (hcb : cb φ = 353) (hb : 0 ≤ i ∧ i + 6 ≤ (n : Int)) {I J : MI} {rv sp : Nat} (hrr : isRiv rv) (hss : isRiv sp) (hv : Inv I J rv sp) (kk : ∀ (I J : MI) (rv sp : Nat), Inv2 I J rv sp → isRiv rv → isRiv sp → Zt l g φ (lawN φ) 840 [some (.ref b), some (vR g 1), some (vR g 296), some (vI i)] [] (353, I, J, GL rv sp)) : Zt l g φ (lawN φ) 264 [some (.ref b), some (vR g 1), some (vR g 296), some (vI i)] [] (353, I, J, GL rv sp) := by
  obtain ⟨rx, rm, hx, hm, he, hI, hr2, hs2⟩ := ag I J rv sp (xs (w32 (i + 1)).toNat).toInt (xs (w32 (i + 2)).toNat).toInt (xs (w32 (i + 3)).toNat).toInt hrr hss hv (inR_toInt _) (inR_toInt _) (inR_toInt _)
  refine z_aload_n dL_law_264 rfl ?_
  refine z_aload_n dL_law_265 rfl ?_
  refine z_iload_n dL_law_266 rfl ?_
  refine z_iconst dL_law_267 ?_
  refine z_iadd dL_law_268 ?_
  refine z_sld hX hbl hbA dL_law_269 (inR_w32 _) (w_ix (k := 1) hb hn (by decide)) ?_
  refine z_aload_n dL_law_270 rfl ?_
  refine z_iload_n dL_law_271 rfl ?_
  refine z_iconst dL_law_272 ?_
  refine z_iadd dL_law_273 ?_
  refine z_sld hX hbl hbA dL_law_274 (inR_w32 _) (w_ix (k := 2) hb hn (by decide)) ?_
  refine z_aload_n dL_law_275 rfl ?_
  refine z_iload_n dL_law_276 rfl ?_
  refine z_iconst dL_law_277 ?_
  refine z_iadd dL_law_278 ?_
  refine z_sld hX hbl hbA dL_law_279 (inR_w32 _) (w_ix (k := 3) hb hn (by decide)) ?_
  refine z_callV (As := [vI (xs (w32 (i + 1)).toNat).toInt, vI (xs (w32 (i + 2)).toNat).toInt, vI (xs (w32 (i + 3)).toNat).toInt]) (rest := []) (s_X_cell (NL rfl) lyX_GL GL_3 hrr GL_4 hss (inR_toInt _) (inR_toInt _) (inR_toInt _) hx) dL_law_280 mw_X_cell cl10 (by decide +kernel) (by decide) (NL rfl) (tin3 206 (by rfl) rfl) im_X_cell se_X_cell rfl rfl rfl rfl (Nat.le_refl _) (Nat.le_of_eq hcb.symm) (fun hpx => ?_)
  show Zt _ _ _ _ 283 _ [vI rx.1] (353, rx.2, J, GL rv sp)
  refine z_aload_n dL_law_283 rfl ?_
  refine z_aload_n dL_law_284 rfl ?_
  refine z_iload_n dL_law_285 rfl ?_
  refine z_iconst dL_law_286 ?_
  refine z_iadd dL_law_287 ?_
  refine z_sld hX hbl hbA dL_law_288 (inR_w32 _) (w_ix (k := 1) hb hn (by decide)) ?_
  refine z_aload_n dL_law_289 rfl ?_
  refine z_iload_n dL_law_290 rfl ?_
  refine z_iconst dL_law_291 ?_
  refine z_iadd dL_law_292 ?_
  refine z_sld hX hbl hbA dL_law_293 (inR_w32 _) (w_ix (k := 2) hb hn (by decide)) ?_
  refine z_aload_n dL_law_294 rfl ?_
  refine z_iload_n dL_law_295 rfl ?_
  refine z_iconst dL_law_296 ?_
  refine z_iadd dL_law_297 ?_
  refine z_sld hX hbl hbA dL_law_298 (inR_w32 _) (w_ix (k := 3) hb hn (by decide)) ?_
  refine z_callV (As := [vI (xs (w32 (i + 1)).toNat).toInt, vI (xs (w32 (i + 2)).toNat).toInt, vI (xs (w32 (i + 3)).toNat).toInt]) (rest := [vI rx.1]) (s_M_cell (NL rfl) lyM_GL (inR_toInt _) (inR_toInt _) (inR_toInt _) hm) dL_law_299 mw_M_cell cl11 (by decide +kernel) (by decide) (NL rfl) (tin7 51 (by rfl) rfl) im_M_cell se_M_cell rfl rfl rfl rfl (Nat.le_refl _) (Nat.le_of_eq hcb.symm) (fun hpm => ?_)
  show Zt _ _ _ _ 302 _ [vI rm.1, vI rx.1] (353, rm.2, J, GL rv sp)
  exact z_icmp_eq (tgt := 840) dL_law_302 (by decide) (hpx) (hpm) (fun _ => kk _ _ _ _ hI hr2 hs2) (fun hc => absurd he hc)
def ag_5 (Inv Inv2 : MI → MI → Nat → Nat → Prop) : Prop := ∀ (I J : MI) (rv sp : Nat) (x1 : Int) (x2 : Int) (x3 : Int), isRiv rv → isRiv sp → Inv I J rv sp → inR x1 → inR x2 → inR x3 → ∃ rx rm, f_X_stone FU x1 x2 x3 rv I = some rx ∧ f_M_stone FU x1 x2 x3 I J = some rm ∧ rx = rm.1 ∧ Inv2 rm.2 J rv sp ∧ isRiv rv ∧ isRiv sp
set_option maxHeartbeats 1000000 in
theorem lc_5 {l : Launch} {g : GX} {φ : CX} {b n : Nat} {xs : Nat → Int32} {i : Int} {Inv Inv2 : MI → MI → Nat → Nat → Prop} (ag : ag_5 Inv Inv2) (hX : va_X b n xs φ.2.2.1 φ.2.2.1.heap) (hbl : b < φ.2.2.1.heap.size) (hbA : b ≤ g.2.2.1) (hn : n ≤ 3072) (hcb : cb φ = 353) (hb : 0 ≤ i ∧ i + 6 ≤ (n : Int)) {I J : MI} {rv sp : Nat} (hrr : isRiv rv) (hss : isRiv sp) (hv : Inv I J rv sp) (kk : ∀ (I J : MI) (rv sp : Nat), Inv2 I J rv sp → isRiv rv → isRiv sp → Zt l g φ (lawN φ) 840 [some (.ref b), some (vR g 1), some (vR g 296), some (vI i)] [] (353, I, J, GL rv sp)) : Zt l g φ (lawN φ) 307 [some (.ref b), some (vR g 1), some (vR g 296), some (vI i)] [] (353, I, J, GL rv sp) := by
  obtain ⟨rx, rm, hx, hm, he, hI, hr2, hs2⟩ := ag I J rv sp (xs (w32 (i + 1)).toNat).toInt (xs (w32 (i + 2)).toNat).toInt (xs (w32 (i + 3)).toNat).toInt hrr hss hv (inR_toInt _) (inR_toInt _) (inR_toInt _)
  refine z_aload_n dL_law_307 rfl ?_
  refine z_aload_n dL_law_308 rfl ?_
  refine z_iload_n dL_law_309 rfl ?_
  refine z_iconst dL_law_310 ?_
  refine z_iadd dL_law_311 ?_
  refine z_sld hX hbl hbA dL_law_312 (inR_w32 _) (w_ix (k := 1) hb hn (by decide)) ?_
  refine z_aload_n dL_law_313 rfl ?_
  refine z_iload_n dL_law_314 rfl ?_
  refine z_iconst dL_law_315 ?_
  refine z_iadd dL_law_316 ?_
  refine z_sld hX hbl hbA dL_law_317 (inR_w32 _) (w_ix (k := 2) hb hn (by decide)) ?_
  refine z_aload_n dL_law_318 rfl ?_
  refine z_iload_n dL_law_319 rfl ?_
  refine z_iconst dL_law_320 ?_
  refine z_iadd dL_law_321 ?_
  refine z_sld hX hbl hbA dL_law_322 (inR_w32 _) (w_ix (k := 3) hb hn (by decide)) ?_
  refine z_callV (As := [vI (xs (w32 (i + 1)).toNat).toInt, vI (xs (w32 (i + 2)).toNat).toInt, vI (xs (w32 (i + 3)).toNat).toInt]) (rest := []) (s_X_stone (NL rfl) lyX_GL GL_3 hrr GL_4 hss (inR_toInt _) (inR_toInt _) (inR_toInt _) hx) dL_law_323 mw_X_stone cl10 (by decide +kernel) (by decide) (NL rfl) (tin4 9 (by rfl) rfl) im_X_stone se_X_stone rfl rfl rfl rfl (Nat.le_refl _) (Nat.le_of_eq hcb.symm) (fun hpx => ?_)
  show Zt _ _ _ _ 326 _ [vI rx] (353, I, J, GL rv sp)
  refine z_aload_n dL_law_326 rfl ?_
  refine z_aload_n dL_law_327 rfl ?_
  refine z_iload_n dL_law_328 rfl ?_
  refine z_iconst dL_law_329 ?_
  refine z_iadd dL_law_330 ?_
  refine z_sld hX hbl hbA dL_law_331 (inR_w32 _) (w_ix (k := 1) hb hn (by decide)) ?_
  refine z_aload_n dL_law_332 rfl ?_
  refine z_iload_n dL_law_333 rfl ?_
  refine z_iconst dL_law_334 ?_
  refine z_iadd dL_law_335 ?_
  refine z_sld hX hbl hbA dL_law_336 (inR_w32 _) (w_ix (k := 2) hb hn (by decide)) ?_
  refine z_aload_n dL_law_337 rfl ?_
  refine z_iload_n dL_law_338 rfl ?_
  refine z_iconst dL_law_339 ?_
  refine z_iadd dL_law_340 ?_
  refine z_sld hX hbl hbA dL_law_341 (inR_w32 _) (w_ix (k := 3) hb hn (by decide)) ?_
  refine z_callV (As := [vI (xs (w32 (i + 1)).toNat).toInt, vI (xs (w32 (i + 2)).toNat).toInt, vI (xs (w32 (i + 3)).toNat).toInt]) (rest := [vI rx]) (s_M_stone (NL rfl) lyM_GL (inR_toInt _) (inR_toInt _) (inR_toInt _) hm) dL_law_342 mw_M_stone cl11 (by decide +kernel) (by decide) (NL rfl) (tin7 90 (by rfl) rfl) im_M_stone se_M_stone rfl rfl rfl rfl (Nat.le_refl _) (Nat.le_of_eq hcb.symm) (fun hpm => ?_)
  show Zt _ _ _ _ 345 _ [vI rm.1, vI rx] (353, rm.2, J, GL rv sp)
  exact z_icmp_eq (tgt := 840) dL_law_345 (by decide) (hpx) (hpm) (fun _ => kk _ _ _ _ hI hr2 hs2) (fun hc => absurd he hc)
def ag_6 (Inv Inv2 : MI → MI → Nat → Nat → Prop) : Prop := ∀ (I J : MI) (rv sp : Nat) (x1 : Int) (x2 : Int), isRiv rv → isRiv sp → Inv I J rv sp → inR x1 → inR x2 → ∃ rx rm, f_X_leaver FU x1 x2 rv I = some rx ∧ f_M_leaver FU x1 x2 I J = some rm ∧ rx = rm.1 ∧ Inv2 rm.2 J rv sp ∧ isRiv rv ∧ isRiv sp
set_option maxHeartbeats 1000000 in
theorem lc_6 {l : Launch} {g : GX} {φ : CX} {b n : Nat} {xs : Nat → Int32} {i : Int} {Inv Inv2 : MI → MI → Nat → Nat → Prop} (ag : ag_6 Inv Inv2) (hX : va_X b n xs φ.2.2.1 φ.2.2.1.heap) (hbl : b < φ.2.2.1.heap.size) (hbA : b ≤ g.2.2.1) (hn : n ≤ 3072) (hcb : cb φ = 353) (hb : 0 ≤ i ∧ i + 6 ≤ (n : Int)) {I J : MI} {rv sp : Nat} (hrr : isRiv rv) (hss : isRiv sp) (hv : Inv I J rv sp) (kk : ∀ (I J : MI) (rv sp : Nat), Inv2 I J rv sp → isRiv rv → isRiv sp → Zt l g φ (lawN φ) 840 [some (.ref b), some (vR g 1), some (vR g 296), some (vI i)] [] (353, I, J, GL rv sp)) : Zt l g φ (lawN φ) 350 [some (.ref b), some (vR g 1), some (vR g 296), some (vI i)] [] (353, I, J, GL rv sp) := by
  obtain ⟨rx, rm, hx, hm, he, hI, hr2, hs2⟩ := ag I J rv sp (xs (w32 (i + 1)).toNat).toInt (xs (w32 (i + 2)).toNat).toInt hrr hss hv (inR_toInt _) (inR_toInt _)
  refine z_aload_n dL_law_350 rfl ?_
  refine z_aload_n dL_law_351 rfl ?_
  refine z_iload_n dL_law_352 rfl ?_
  refine z_iconst dL_law_353 ?_
  refine z_iadd dL_law_354 ?_
  refine z_sld hX hbl hbA dL_law_355 (inR_w32 _) (w_ix (k := 1) hb hn (by decide)) ?_
  refine z_aload_n dL_law_356 rfl ?_
  refine z_iload_n dL_law_357 rfl ?_
  refine z_iconst dL_law_358 ?_
  refine z_iadd dL_law_359 ?_
  refine z_sld hX hbl hbA dL_law_360 (inR_w32 _) (w_ix (k := 2) hb hn (by decide)) ?_
  refine z_callV (As := [vI (xs (w32 (i + 1)).toNat).toInt, vI (xs (w32 (i + 2)).toNat).toInt]) (rest := []) (s_X_leaver (NL rfl) lyX_GL GL_3 hrr GL_4 hss (inR_toInt _) (inR_toInt _) hx) dL_law_361 mw_X_leaver cl10 (by decide +kernel) (by decide) (NL rfl) (tin4 13 (by rfl) rfl) im_X_leaver se_X_leaver rfl rfl rfl rfl (Nat.le_refl _) (Nat.le_of_eq hcb.symm) (fun hpx => ?_)
  show Zt _ _ _ _ 364 _ [vI rx] (353, I, J, GL rv sp)
  refine z_aload_n dL_law_364 rfl ?_
  refine z_aload_n dL_law_365 rfl ?_
  refine z_iload_n dL_law_366 rfl ?_
  refine z_iconst dL_law_367 ?_
  refine z_iadd dL_law_368 ?_
  refine z_sld hX hbl hbA dL_law_369 (inR_w32 _) (w_ix (k := 1) hb hn (by decide)) ?_
  refine z_aload_n dL_law_370 rfl ?_
  refine z_iload_n dL_law_371 rfl ?_
  refine z_iconst dL_law_372 ?_
  refine z_iadd dL_law_373 ?_
  refine z_sld hX hbl hbA dL_law_374 (inR_w32 _) (w_ix (k := 2) hb hn (by decide)) ?_
  refine z_callV (As := [vI (xs (w32 (i + 1)).toNat).toInt, vI (xs (w32 (i + 2)).toNat).toInt]) (rest := [vI rx]) (s_M_leaver (NL rfl) lyM_GL (inR_toInt _) (inR_toInt _) hm) dL_law_375 mw_M_leaver cl11 (by decide +kernel) (by decide) (NL rfl) (tin7 94 (by rfl) rfl) im_M_leaver se_M_leaver rfl rfl rfl rfl (Nat.le_refl _) (Nat.le_of_eq hcb.symm) (fun hpm => ?_)
  show Zt _ _ _ _ 378 _ [vI rm.1, vI rx] (353, rm.2, J, GL rv sp)
  exact z_icmp_eq (tgt := 840) dL_law_378 (by decide) (hpx) (hpm) (fun _ => kk _ _ _ _ hI hr2 hs2) (fun hc => absurd he hc)
def ag_7 (Inv Inv2 : MI → MI → Nat → Nat → Prop) : Prop := ∀ (I J : MI) (rv sp : Nat) (x1 : Int) (x2 : Int) (x3 : Int), isRiv rv → isRiv sp → Inv I J rv sp → inR x1 → inR x2 → inR x3 → ∃ rx rm, f_X_hurl FU x1 x2 x3 rv I = some rx ∧ f_M_hurl FU x1 x2 x3 rx.2 J = some rm ∧ rx.1 = rm.1 ∧ Inv2 rm.2 J rv sp ∧ isRiv rv ∧ isRiv sp
set_option maxHeartbeats 1000000 in
theorem lc_7 {l : Launch} {g : GX} {φ : CX} {b n : Nat} {xs : Nat → Int32} {i : Int} {Inv Inv2 : MI → MI → Nat → Nat → Prop} (ag : ag_7 Inv Inv2) (hX : va_X b n xs φ.2.2.1 φ.2.2.1.heap) (hbl : b < φ.2.2.1.heap.size) (hbA : b ≤ g.2.2.1) (hn : n ≤ 3072) (hcb : cb φ = 353) (hb : 0 ≤ i ∧ i + 6 ≤ (n : Int)) {I J : MI} {rv sp : Nat} (hrr : isRiv rv) (hss : isRiv sp) (hv : Inv I J rv sp) (kk : ∀ (I J : MI) (rv sp : Nat), Inv2 I J rv sp → isRiv rv → isRiv sp → Zt l g φ (lawN φ) 840 [some (.ref b), some (vR g 1), some (vR g 296), some (vI i)] [] (353, I, J, GL rv sp)) : Zt l g φ (lawN φ) 383 [some (.ref b), some (vR g 1), some (vR g 296), some (vI i)] [] (353, I, J, GL rv sp) := by
  obtain ⟨rx, rm, hx, hm, he, hI, hr2, hs2⟩ := ag I J rv sp (xs (w32 (i + 1)).toNat).toInt (xs (w32 (i + 2)).toNat).toInt (xs (w32 (i + 3)).toNat).toInt hrr hss hv (inR_toInt _) (inR_toInt _) (inR_toInt _)
  refine z_aload_n dL_law_383 rfl ?_
  refine z_aload_n dL_law_384 rfl ?_
  refine z_iload_n dL_law_385 rfl ?_
  refine z_iconst dL_law_386 ?_
  refine z_iadd dL_law_387 ?_
  refine z_sld hX hbl hbA dL_law_388 (inR_w32 _) (w_ix (k := 1) hb hn (by decide)) ?_
  refine z_aload_n dL_law_389 rfl ?_
  refine z_iload_n dL_law_390 rfl ?_
  refine z_iconst dL_law_391 ?_
  refine z_iadd dL_law_392 ?_
  refine z_sld hX hbl hbA dL_law_393 (inR_w32 _) (w_ix (k := 2) hb hn (by decide)) ?_
  refine z_aload_n dL_law_394 rfl ?_
  refine z_iload_n dL_law_395 rfl ?_
  refine z_iconst dL_law_396 ?_
  refine z_iadd dL_law_397 ?_
  refine z_sld hX hbl hbA dL_law_398 (inR_w32 _) (w_ix (k := 3) hb hn (by decide)) ?_
  refine z_callV (As := [vI (xs (w32 (i + 1)).toNat).toInt, vI (xs (w32 (i + 2)).toNat).toInt, vI (xs (w32 (i + 3)).toNat).toInt]) (rest := []) (s_X_hurl (NL rfl) lyX_GL GL_3 hrr GL_4 hss (inR_toInt _) (inR_toInt _) (inR_toInt _) hx) dL_law_399 mw_X_hurl cl10 (by decide +kernel) (by decide) (NL rfl) (tin4 52 (by rfl) rfl) im_X_hurl se_X_hurl rfl rfl rfl rfl (Nat.le_refl _) (Nat.le_of_eq hcb.symm) (fun hpx => ?_)
  show Zt _ _ _ _ 402 _ [vI rx.1] (353, rx.2, J, GL rv sp)
  refine z_aload_n dL_law_402 rfl ?_
  refine z_aload_n dL_law_403 rfl ?_
  refine z_iload_n dL_law_404 rfl ?_
  refine z_iconst dL_law_405 ?_
  refine z_iadd dL_law_406 ?_
  refine z_sld hX hbl hbA dL_law_407 (inR_w32 _) (w_ix (k := 1) hb hn (by decide)) ?_
  refine z_aload_n dL_law_408 rfl ?_
  refine z_iload_n dL_law_409 rfl ?_
  refine z_iconst dL_law_410 ?_
  refine z_iadd dL_law_411 ?_
  refine z_sld hX hbl hbA dL_law_412 (inR_w32 _) (w_ix (k := 2) hb hn (by decide)) ?_
  refine z_aload_n dL_law_413 rfl ?_
  refine z_iload_n dL_law_414 rfl ?_
  refine z_iconst dL_law_415 ?_
  refine z_iadd dL_law_416 ?_
  refine z_sld hX hbl hbA dL_law_417 (inR_w32 _) (w_ix (k := 3) hb hn (by decide)) ?_
  refine z_callV (As := [vI (xs (w32 (i + 1)).toNat).toInt, vI (xs (w32 (i + 2)).toNat).toInt, vI (xs (w32 (i + 3)).toNat).toInt]) (rest := [vI rx.1]) (s_M_hurl (NL rfl) lyM_GL (inR_toInt _) (inR_toInt _) (inR_toInt _) hm) dL_law_418 mw_M_hurl cl11 (by decide +kernel) (by decide) (NL rfl) (tin7 110 (by rfl) rfl) im_M_hurl se_M_hurl rfl rfl rfl rfl (Nat.le_refl _) (Nat.le_of_eq hcb.symm) (fun hpm => ?_)
  show Zt _ _ _ _ 421 _ [vI rm.1, vI rx.1] (353, rm.2, J, GL rv sp)
  exact z_icmp_eq (tgt := 840) dL_law_421 (by decide) (hpx) (hpm) (fun _ => kk _ _ _ _ hI hr2 hs2) (fun hc => absurd he hc)
def ag_8 (Inv Inv2 : MI → MI → Nat → Nat → Prop) : Prop := ∀ (I J : MI) (rv sp : Nat) (x1 : Int), isRiv rv → isRiv sp → Inv I J rv sp → inR x1 → ∃ rx rm, f_X_days FU x1 rv I = some rx ∧ f_M_days FU x1 rx.2 J = some rm ∧ rx.1 = rm.1 ∧ Inv2 rm.2 J rv sp ∧ isRiv rv ∧ isRiv sp
set_option maxHeartbeats 1000000 in
theorem lc_8 {l : Launch} {g : GX} {φ : CX} {b n : Nat} {xs : Nat → Int32} {i : Int} {Inv Inv2 : MI → MI → Nat → Nat → Prop} (ag : ag_8 Inv Inv2) (hX : va_X b n xs φ.2.2.1 φ.2.2.1.heap) (hbl : b < φ.2.2.1.heap.size) (hbA : b ≤ g.2.2.1) (hn : n ≤ 3072) (hcb : cb φ = 353) (hb : 0 ≤ i ∧ i + 6 ≤ (n : Int)) {I J : MI} {rv sp : Nat} (hrr : isRiv rv) (hss : isRiv sp) (hv : Inv I J rv sp) (kk : ∀ (I J : MI) (rv sp : Nat), Inv2 I J rv sp → isRiv rv → isRiv sp → Zt l g φ (lawN φ) 840 [some (.ref b), some (vR g 1), some (vR g 296), some (vI i)] [] (353, I, J, GL rv sp)) : Zt l g φ (lawN φ) 426 [some (.ref b), some (vR g 1), some (vR g 296), some (vI i)] [] (353, I, J, GL rv sp) := by
  obtain ⟨rx, rm, hx, hm, he, hI, hr2, hs2⟩ := ag I J rv sp (xs (w32 (i + 1)).toNat).toInt hrr hss hv (inR_toInt _)
  refine z_aload_n dL_law_426 rfl ?_
  refine z_aload_n dL_law_427 rfl ?_
  refine z_iload_n dL_law_428 rfl ?_
  refine z_iconst dL_law_429 ?_
  refine z_iadd dL_law_430 ?_
  refine z_sld hX hbl hbA dL_law_431 (inR_w32 _) (w_ix (k := 1) hb hn (by decide)) ?_
  refine z_callV (As := [vI (xs (w32 (i + 1)).toNat).toInt]) (rest := []) (s_X_days (NL rfl) lyX_GL GL_3 hrr GL_4 hss (inR_toInt _) hx) dL_law_432 mw_X_days cl10 (by decide +kernel) (by decide) (NL rfl) (tin4 83 (by rfl) rfl) im_X_days se_X_days rfl rfl rfl rfl (Nat.le_refl _) (Nat.le_of_eq hcb.symm) (fun hpx => ?_)
  show Zt _ _ _ _ 435 _ [vI rx.1] (353, rx.2, J, GL rv sp)
  refine z_aload_n dL_law_435 rfl ?_
  refine z_aload_n dL_law_436 rfl ?_
  refine z_iload_n dL_law_437 rfl ?_
  refine z_iconst dL_law_438 ?_
  refine z_iadd dL_law_439 ?_
  refine z_sld hX hbl hbA dL_law_440 (inR_w32 _) (w_ix (k := 1) hb hn (by decide)) ?_
  refine z_callV (As := [vI (xs (w32 (i + 1)).toNat).toInt]) (rest := [vI rx.1]) (s_M_days (NL rfl) lyM_GL (inR_toInt _) hm) dL_law_441 mw_M_days cl11 (by decide +kernel) (by decide) (NL rfl) (tin7 130 (by rfl) rfl) im_M_days se_M_days rfl rfl rfl rfl (Nat.le_refl _) (Nat.le_of_eq hcb.symm) (fun hpm => ?_)
  show Zt _ _ _ _ 444 _ [vI rm.1, vI rx.1] (353, rm.2, J, GL rv sp)
  exact z_icmp_eq (tgt := 840) dL_law_444 (by decide) (hpx) (hpm) (fun _ => kk _ _ _ _ hI hr2 hs2) (fun hc => absurd he hc)
def ag_9 (Inv Inv2 : MI → MI → Nat → Nat → Prop) : Prop := ∀ (I J : MI) (rv sp : Nat), isRiv rv → isRiv sp → Inv I J rv sp → ∃ rx rm, f_X_undo FU I = some rx ∧ f_M_undo FU rx.2 J = some rm ∧ rx.1 = rm.1 ∧ Inv2 rm.2 J rv sp ∧ isRiv rv ∧ isRiv sp
set_option maxHeartbeats 1000000 in
theorem lc_9 {l : Launch} {g : GX} {φ : CX} {b n : Nat} {xs : Nat → Int32} {i : Int} {Inv Inv2 : MI → MI → Nat → Nat → Prop} (ag : ag_9 Inv Inv2) (hX : va_X b n xs φ.2.2.1 φ.2.2.1.heap) (hbl : b < φ.2.2.1.heap.size) (hbA : b ≤ g.2.2.1) (hn : n ≤ 3072) (hcb : cb φ = 353) (hb : 0 ≤ i ∧ i + 6 ≤ (n : Int)) {I J : MI} {rv sp : Nat} (hrr : isRiv rv) (hss : isRiv sp) (hv : Inv I J rv sp) (kk : ∀ (I J : MI) (rv sp : Nat), Inv2 I J rv sp → isRiv rv → isRiv sp → Zt l g φ (lawN φ) 840 [some (.ref b), some (vR g 1), some (vR g 296), some (vI i)] [] (353, I, J, GL rv sp)) : Zt l g φ (lawN φ) 449 [some (.ref b), some (vR g 1), some (vR g 296), some (vI i)] [] (353, I, J, GL rv sp) := by
  obtain ⟨rx, rm, hx, hm, he, hI, hr2, hs2⟩ := ag I J rv sp  hrr hss hv 
  refine z_aload_n dL_law_449 rfl ?_
  refine z_callV (As := []) (rest := []) (s_X_undo (NL rfl) lyX_GL GL_3 hrr GL_4 hss  hx) dL_law_450 mw_X_undo cl10 (by decide +kernel) (by decide) (NL rfl) (tin4 107 (by rfl) rfl) im_X_undo se_X_undo rfl rfl rfl rfl (Nat.le_refl _) (Nat.le_of_eq hcb.symm) (fun hpx => ?_)
  show Zt _ _ _ _ 453 _ [vI rx.1] (353, rx.2, J, GL rv sp)
  refine z_aload_n dL_law_453 rfl ?_
  refine z_callV (As := []) (rest := [vI rx.1]) (s_M_undo (NL rfl) lyM_GL  hm) dL_law_454 mw_M_undo cl11 (by decide +kernel) (by decide) (NL rfl) (tin7 142 (by rfl) rfl) im_M_undo se_M_undo rfl rfl rfl rfl (Nat.le_refl _) (Nat.le_of_eq hcb.symm) (fun hpm => ?_)
  show Zt _ _ _ _ 457 _ [vI rm.1, vI rx.1] (353, rm.2, J, GL rv sp)
  exact z_icmp_eq (tgt := 840) dL_law_457 (by decide) (inR_bool hpx) (inR_bool hpm) (fun _ => kk _ _ _ _ hI hr2 hs2) (fun hc => absurd he hc)
def ag_10 (Inv Inv2 : MI → MI → Nat → Nat → Prop) : Prop := ∀ (I J : MI) (rv sp : Nat) (x1 : Int) (x2 : Int), isRiv rv → isRiv sp → Inv I J rv sp → inR x1 → inR x2 → ∃ rx rm, f_X_over FU x1 x2 rv I = some rx ∧ f_M_over FU x1 x2 rx.2 J = some rm ∧ rx.1 = rm.1 ∧ Inv2 rm.2 J rv sp ∧ isRiv rv ∧ isRiv sp
set_option maxHeartbeats 1000000 in
theorem lc_10 {l : Launch} {g : GX} {φ : CX} {b n : Nat} {xs : Nat → Int32} {i : Int} {Inv Inv2 : MI → MI → Nat → Nat → Prop} (ag : ag_10 Inv Inv2) (hX : va_X b n xs φ.2.2.1 φ.2.2.1.heap) (hbl : b < φ.2.2.1.heap.size) (hbA : b ≤ g.2.2.1) (hn : n ≤ 3072) (hcb : cb φ = 353) (hb : 0 ≤ i ∧ i + 6 ≤ (n : Int)) {I J : MI} {rv sp : Nat} (hrr : isRiv rv) (hss : isRiv sp) (hv : Inv I J rv sp) (kk : ∀ (I J : MI) (rv sp : Nat), Inv2 I J rv sp → isRiv rv → isRiv sp → Zt l g φ (lawN φ) 840 [some (.ref b), some (vR g 1), some (vR g 296), some (vI i)] [] (353, I, J, GL rv sp)) : Zt l g φ (lawN φ) 462 [some (.ref b), some (vR g 1), some (vR g 296), some (vI i)] [] (353, I, J, GL rv sp) := by
  obtain ⟨rx, rm, hx, hm, he, hI, hr2, hs2⟩ := ag I J rv sp (xs (w32 (i + 1)).toNat).toInt (xs (w32 (i + 2)).toNat).toInt hrr hss hv (inR_toInt _) (inR_toInt _)
  refine z_aload_n dL_law_462 rfl ?_
  refine z_aload_n dL_law_463 rfl ?_
  refine z_iload_n dL_law_464 rfl ?_
  refine z_iconst dL_law_465 ?_
  refine z_iadd dL_law_466 ?_
  refine z_sld hX hbl hbA dL_law_467 (inR_w32 _) (w_ix (k := 1) hb hn (by decide)) ?_
  refine z_aload_n dL_law_468 rfl ?_
  refine z_iload_n dL_law_469 rfl ?_
  refine z_iconst dL_law_470 ?_
  refine z_iadd dL_law_471 ?_
  refine z_sld hX hbl hbA dL_law_472 (inR_w32 _) (w_ix (k := 2) hb hn (by decide)) ?_
  refine z_callV (As := [vI (xs (w32 (i + 1)).toNat).toInt, vI (xs (w32 (i + 2)).toNat).toInt]) (rest := []) (s_X_over (NL rfl) lyX_GL GL_3 hrr GL_4 hss (inR_toInt _) (inR_toInt _) hx) dL_law_473 mw_X_over cl10 (by decide +kernel) (by decide) (NL rfl) (tin4 124 (by rfl) rfl) im_X_over se_X_over rfl rfl rfl rfl (Nat.le_refl _) (Nat.le_of_eq hcb.symm) (fun hpx => ?_)
  show Zt _ _ _ _ 476 _ [vI rx.1] (353, rx.2, J, GL rv sp)
  refine z_aload_n dL_law_476 rfl ?_
  refine z_aload_n dL_law_477 rfl ?_
  refine z_iload_n dL_law_478 rfl ?_
  refine z_iconst dL_law_479 ?_
  refine z_iadd dL_law_480 ?_
  refine z_sld hX hbl hbA dL_law_481 (inR_w32 _) (w_ix (k := 1) hb hn (by decide)) ?_
  refine z_aload_n dL_law_482 rfl ?_
  refine z_iload_n dL_law_483 rfl ?_
  refine z_iconst dL_law_484 ?_
  refine z_iadd dL_law_485 ?_
  refine z_sld hX hbl hbA dL_law_486 (inR_w32 _) (w_ix (k := 2) hb hn (by decide)) ?_
  refine z_callV (As := [vI (xs (w32 (i + 1)).toNat).toInt, vI (xs (w32 (i + 2)).toNat).toInt]) (rest := [vI rx.1]) (s_M_over (NL rfl) lyM_GL (inR_toInt _) (inR_toInt _) hm) dL_law_487 mw_M_over cl11 (by decide +kernel) (by decide) (NL rfl) (tin7 146 (by rfl) rfl) im_M_over se_M_over rfl rfl rfl rfl (Nat.le_refl _) (Nat.le_of_eq hcb.symm) (fun hpm => ?_)
  show Zt _ _ _ _ 490 _ [vI rm.1, vI rx.1] (353, rm.2, J, GL rv sp)
  exact z_icmp_eq (tgt := 840) dL_law_490 (by decide) (hpx) (hpm) (fun _ => kk _ _ _ _ hI hr2 hs2) (fun hc => absurd he hc)
def ag_11 (Inv Inv2 : MI → MI → Nat → Nat → Prop) : Prop := ∀ (I J : MI) (rv sp : Nat) (x1 : Int) (x2 : Int), isRiv rv → isRiv sp → Inv I J rv sp → inR x1 → inR x2 → ∃ rx rm, f_X_overAt FU x1 x2 rv I = some rx ∧ f_M_overAt FU x1 x2 rx.2 J = some rm ∧ rx.1 = rm.1 ∧ Inv2 rm.2 J rv sp ∧ isRiv rv ∧ isRiv sp
set_option maxHeartbeats 1000000 in
theorem lc_11 {l : Launch} {g : GX} {φ : CX} {b n : Nat} {xs : Nat → Int32} {i : Int} {Inv Inv2 : MI → MI → Nat → Nat → Prop} (ag : ag_11 Inv Inv2) (hX : va_X b n xs φ.2.2.1 φ.2.2.1.heap) (hbl : b < φ.2.2.1.heap.size) (hbA : b ≤ g.2.2.1) (hn : n ≤ 3072) (hcb : cb φ = 353) (hb : 0 ≤ i ∧ i + 6 ≤ (n : Int)) {I J : MI} {rv sp : Nat} (hrr : isRiv rv) (hss : isRiv sp) (hv : Inv I J rv sp) (kk : ∀ (I J : MI) (rv sp : Nat), Inv2 I J rv sp → isRiv rv → isRiv sp → Zt l g φ (lawN φ) 840 [some (.ref b), some (vR g 1), some (vR g 296), some (vI i)] [] (353, I, J, GL rv sp)) : Zt l g φ (lawN φ) 495 [some (.ref b), some (vR g 1), some (vR g 296), some (vI i)] [] (353, I, J, GL rv sp) := by
  obtain ⟨rx, rm, hx, hm, he, hI, hr2, hs2⟩ := ag I J rv sp (xs (w32 (i + 1)).toNat).toInt (xs (w32 (i + 2)).toNat).toInt hrr hss hv (inR_toInt _) (inR_toInt _)
  refine z_aload_n dL_law_495 rfl ?_
  refine z_aload_n dL_law_496 rfl ?_
  refine z_iload_n dL_law_497 rfl ?_
  refine z_iconst dL_law_498 ?_
  refine z_iadd dL_law_499 ?_
  refine z_sld hX hbl hbA dL_law_500 (inR_w32 _) (w_ix (k := 1) hb hn (by decide)) ?_
  refine z_aload_n dL_law_501 rfl ?_
  refine z_iload_n dL_law_502 rfl ?_
  refine z_iconst dL_law_503 ?_
  refine z_iadd dL_law_504 ?_
  refine z_sld hX hbl hbA dL_law_505 (inR_w32 _) (w_ix (k := 2) hb hn (by decide)) ?_
  refine z_callV (As := [vI (xs (w32 (i + 1)).toNat).toInt, vI (xs (w32 (i + 2)).toNat).toInt]) (rest := []) (s_X_overAt (NL rfl) lyX_GL GL_3 hrr GL_4 hss (inR_toInt _) (inR_toInt _) hx) dL_law_506 mw_X_overAt cl10 (by decide +kernel) (by decide) (NL rfl) (tin4 201 (by rfl) rfl) im_X_overAt se_X_overAt rfl rfl rfl rfl (Nat.le_refl _) (Nat.le_of_eq hcb.symm) (fun hpx => ?_)
  show Zt _ _ _ _ 509 _ [vI rx.1] (353, rx.2, J, GL rv sp)
  refine z_aload_n dL_law_509 rfl ?_
  refine z_aload_n dL_law_510 rfl ?_
  refine z_iload_n dL_law_511 rfl ?_
  refine z_iconst dL_law_512 ?_
  refine z_iadd dL_law_513 ?_
  refine z_sld hX hbl hbA dL_law_514 (inR_w32 _) (w_ix (k := 1) hb hn (by decide)) ?_
  refine z_aload_n dL_law_515 rfl ?_
  refine z_iload_n dL_law_516 rfl ?_
  refine z_iconst dL_law_517 ?_
  refine z_iadd dL_law_518 ?_
  refine z_sld hX hbl hbA dL_law_519 (inR_w32 _) (w_ix (k := 2) hb hn (by decide)) ?_
  refine z_callV (As := [vI (xs (w32 (i + 1)).toNat).toInt, vI (xs (w32 (i + 2)).toNat).toInt]) (rest := [vI rx.1]) (s_M_overAt (NL rfl) lyM_GL (inR_toInt _) (inR_toInt _) hm) dL_law_520 mw_M_overAt cl11 (by decide +kernel) (by decide) (NL rfl) (tin7 172 (by rfl) rfl) im_M_overAt se_M_overAt rfl rfl rfl rfl (Nat.le_refl _) (Nat.le_of_eq hcb.symm) (fun hpm => ?_)
  show Zt _ _ _ _ 523 _ [vI rm.1, vI rx.1] (353, rm.2, J, GL rv sp)
  exact z_icmp_eq (tgt := 840) dL_law_523 (by decide) (hpx) (hpm) (fun _ => kk _ _ _ _ hI hr2 hs2) (fun hc => absurd he hc)
def ag_12 (Inv Inv2 : MI → MI → Nat → Nat → Prop) : Prop := ∀ (I J : MI) (rv sp : Nat) (x1 : Int), isRiv rv → isRiv sp → Inv I J rv sp → inR x1 → ∃ rx rm, f_X_lack FU x1 rv I = some rx ∧ f_M_lack FU x1 rx.2 J = some rm ∧ rx.1 = rm.1 ∧ Inv2 rm.2 J rv sp ∧ isRiv rv ∧ isRiv sp
set_option maxHeartbeats 1000000 in
theorem lc_12 {l : Launch} {g : GX} {φ : CX} {b n : Nat} {xs : Nat → Int32} {i : Int} {Inv Inv2 : MI → MI → Nat → Nat → Prop} (ag : ag_12 Inv Inv2) (hX : va_X b n xs φ.2.2.1 φ.2.2.1.heap) (hbl : b < φ.2.2.1.heap.size) (hbA : b ≤ g.2.2.1) (hn : n ≤ 3072) (hcb : cb φ = 353) (hb : 0 ≤ i ∧ i + 6 ≤ (n : Int)) {I J : MI} {rv sp : Nat} (hrr : isRiv rv) (hss : isRiv sp) (hv : Inv I J rv sp) (kk : ∀ (I J : MI) (rv sp : Nat), Inv2 I J rv sp → isRiv rv → isRiv sp → Zt l g φ (lawN φ) 840 [some (.ref b), some (vR g 1), some (vR g 296), some (vI i)] [] (353, I, J, GL rv sp)) : Zt l g φ (lawN φ) 528 [some (.ref b), some (vR g 1), some (vR g 296), some (vI i)] [] (353, I, J, GL rv sp) := by
  obtain ⟨rx, rm, hx, hm, he, hI, hr2, hs2⟩ := ag I J rv sp (xs (w32 (i + 1)).toNat).toInt hrr hss hv (inR_toInt _)
  refine z_aload_n dL_law_528 rfl ?_
  refine z_aload_n dL_law_529 rfl ?_
  refine z_iload_n dL_law_530 rfl ?_
  refine z_iconst dL_law_531 ?_
  refine z_iadd dL_law_532 ?_
  refine z_sld hX hbl hbA dL_law_533 (inR_w32 _) (w_ix (k := 1) hb hn (by decide)) ?_
  refine z_callV (As := [vI (xs (w32 (i + 1)).toNat).toInt]) (rest := []) (s_X_lack (NL rfl) lyX_GL GL_3 hrr GL_4 hss (inR_toInt _) hx) dL_law_534 mw_X_lack cl10 (by decide +kernel) (by decide) (NL rfl) (tin4 205 (by rfl) rfl) im_X_lack se_X_lack rfl rfl rfl rfl (Nat.le_refl _) (Nat.le_of_eq hcb.symm) (fun hpx => ?_)
  show Zt _ _ _ _ 537 _ [vI rx.1] (353, rx.2, J, GL rv sp)
  refine z_aload_n dL_law_537 rfl ?_
  refine z_aload_n dL_law_538 rfl ?_
  refine z_iload_n dL_law_539 rfl ?_
  refine z_iconst dL_law_540 ?_
  refine z_iadd dL_law_541 ?_
  refine z_sld hX hbl hbA dL_law_542 (inR_w32 _) (w_ix (k := 1) hb hn (by decide)) ?_
  refine z_callV (As := [vI (xs (w32 (i + 1)).toNat).toInt]) (rest := [vI rx.1]) (s_M_lack (NL rfl) lyM_GL (inR_toInt _) hm) dL_law_543 mw_M_lack cl11 (by decide +kernel) (by decide) (NL rfl) (tin7 176 (by rfl) rfl) im_M_lack se_M_lack rfl rfl rfl rfl (Nat.le_refl _) (Nat.le_of_eq hcb.symm) (fun hpm => ?_)
  show Zt _ _ _ _ 546 _ [vI rm.1, vI rx.1] (353, rm.2, J, GL rv sp)
  exact z_icmp_eq (tgt := 840) dL_law_546 (by decide) (hpx) (hpm) (fun _ => kk _ _ _ _ hI hr2 hs2) (fun hc => absurd he hc)
def ag_13 (Inv Inv2 : MI → MI → Nat → Nat → Prop) : Prop := ∀ (I J : MI) (rv sp : Nat) (x1 : Int), isRiv rv → isRiv sp → Inv I J rv sp → inR x1 → ∃ rx rm, f_X_lackAt FU x1 rv I = some rx ∧ f_M_lackAt FU x1 rx.2 J = some rm ∧ rx.1 = rm.1 ∧ Inv2 rm.2 J rv sp ∧ isRiv rv ∧ isRiv sp
set_option maxHeartbeats 1000000 in
theorem lc_13 {l : Launch} {g : GX} {φ : CX} {b n : Nat} {xs : Nat → Int32} {i : Int} {Inv Inv2 : MI → MI → Nat → Nat → Prop} (ag : ag_13 Inv Inv2) (hX : va_X b n xs φ.2.2.1 φ.2.2.1.heap) (hbl : b < φ.2.2.1.heap.size) (hbA : b ≤ g.2.2.1) (hn : n ≤ 3072) (hcb : cb φ = 353) (hb : 0 ≤ i ∧ i + 6 ≤ (n : Int)) {I J : MI} {rv sp : Nat} (hrr : isRiv rv) (hss : isRiv sp) (hv : Inv I J rv sp) (kk : ∀ (I J : MI) (rv sp : Nat), Inv2 I J rv sp → isRiv rv → isRiv sp → Zt l g φ (lawN φ) 840 [some (.ref b), some (vR g 1), some (vR g 296), some (vI i)] [] (353, I, J, GL rv sp)) : Zt l g φ (lawN φ) 551 [some (.ref b), some (vR g 1), some (vR g 296), some (vI i)] [] (353, I, J, GL rv sp) := by
  obtain ⟨rx, rm, hx, hm, he, hI, hr2, hs2⟩ := ag I J rv sp (xs (w32 (i + 1)).toNat).toInt hrr hss hv (inR_toInt _)
  refine z_aload_n dL_law_551 rfl ?_
  refine z_aload_n dL_law_552 rfl ?_
  refine z_iload_n dL_law_553 rfl ?_
  refine z_iconst dL_law_554 ?_
  refine z_iadd dL_law_555 ?_
  refine z_sld hX hbl hbA dL_law_556 (inR_w32 _) (w_ix (k := 1) hb hn (by decide)) ?_
  refine z_callV (As := [vI (xs (w32 (i + 1)).toNat).toInt]) (rest := []) (s_X_lackAt (NL rfl) lyX_GL GL_3 hrr GL_4 hss (inR_toInt _) hx) dL_law_557 mw_X_lackAt cl10 (by decide +kernel) (by decide) (NL rfl) (tin4 217 (by rfl) rfl) im_X_lackAt se_X_lackAt rfl rfl rfl rfl (Nat.le_refl _) (Nat.le_of_eq hcb.symm) (fun hpx => ?_)
  show Zt _ _ _ _ 560 _ [vI rx.1] (353, rx.2, J, GL rv sp)
  refine z_aload_n dL_law_560 rfl ?_
  refine z_aload_n dL_law_561 rfl ?_
  refine z_iload_n dL_law_562 rfl ?_
  refine z_iconst dL_law_563 ?_
  refine z_iadd dL_law_564 ?_
  refine z_sld hX hbl hbA dL_law_565 (inR_w32 _) (w_ix (k := 1) hb hn (by decide)) ?_
  refine z_callV (As := [vI (xs (w32 (i + 1)).toNat).toInt]) (rest := [vI rx.1]) (s_M_lackAt (NL rfl) lyM_GL (inR_toInt _) hm) dL_law_566 mw_M_lackAt cl11 (by decide +kernel) (by decide) (NL rfl) (tin7 184 (by rfl) rfl) im_M_lackAt se_M_lackAt rfl rfl rfl rfl (Nat.le_refl _) (Nat.le_of_eq hcb.symm) (fun hpm => ?_)
  show Zt _ _ _ _ 569 _ [vI rm.1, vI rx.1] (353, rm.2, J, GL rv sp)
  exact z_icmp_eq (tgt := 840) dL_law_569 (by decide) (hpx) (hpm) (fun _ => kk _ _ _ _ hI hr2 hs2) (fun hc => absurd he hc)
def ag_14 (Inv Inv2 : MI → MI → Nat → Nat → Prop) : Prop := ∀ (I J : MI) (rv sp : Nat), isRiv rv → isRiv sp → Inv I J rv sp → ∃ rx rm, f_X_grief FU rv I = some rx ∧ f_M_grief FU rx.2 J = some rm ∧ rx.1 = rm.1 ∧ Inv2 rm.2 J rv sp ∧ isRiv rv ∧ isRiv sp
set_option maxHeartbeats 1000000 in
theorem lc_14 {l : Launch} {g : GX} {φ : CX} {b n : Nat} {xs : Nat → Int32} {i : Int} {Inv Inv2 : MI → MI → Nat → Nat → Prop} (ag : ag_14 Inv Inv2) (hX : va_X b n xs φ.2.2.1 φ.2.2.1.heap) (hbl : b < φ.2.2.1.heap.size) (hbA : b ≤ g.2.2.1) (hn : n ≤ 3072) (hcb : cb φ = 353) (hb : 0 ≤ i ∧ i + 6 ≤ (n : Int)) {I J : MI} {rv sp : Nat} (hrr : isRiv rv) (hss : isRiv sp) (hv : Inv I J rv sp) (kk : ∀ (I J : MI) (rv sp : Nat), Inv2 I J rv sp → isRiv rv → isRiv sp → Zt l g φ (lawN φ) 840 [some (.ref b), some (vR g 1), some (vR g 296), some (vI i)] [] (353, I, J, GL rv sp)) : Zt l g φ (lawN φ) 574 [some (.ref b), some (vR g 1), some (vR g 296), some (vI i)] [] (353, I, J, GL rv sp) := by
  obtain ⟨rx, rm, hx, hm, he, hI, hr2, hs2⟩ := ag I J rv sp  hrr hss hv 
  refine z_aload_n dL_law_574 rfl ?_
  refine z_callV (As := []) (rest := []) (s_X_grief (NL rfl) lyX_GL GL_3 hrr GL_4 hss  hx) dL_law_575 mw_X_grief cl10 (by decide +kernel) (by decide) (NL rfl) (tin4 221 (by rfl) rfl) im_X_grief se_X_grief rfl rfl rfl rfl (Nat.le_refl _) (Nat.le_of_eq hcb.symm) (fun hpx => ?_)
  show Zt _ _ _ _ 578 _ [vI rx.1] (353, rx.2, J, GL rv sp)
  refine z_aload_n dL_law_578 rfl ?_
  refine z_callV (As := []) (rest := [vI rx.1]) (s_M_grief (NL rfl) lyM_GL  hm) dL_law_579 mw_M_grief cl11 (by decide +kernel) (by decide) (NL rfl) (tin7 188 (by rfl) rfl) im_M_grief se_M_grief rfl rfl rfl rfl (Nat.le_refl _) (Nat.le_of_eq hcb.symm) (fun hpm => ?_)
  show Zt _ _ _ _ 582 _ [vI rm.1, vI rx.1] (353, rm.2, J, GL rv sp)
  exact z_icmp_eq (tgt := 840) dL_law_582 (by decide) (hpx) (hpm) (fun _ => kk _ _ _ _ hI hr2 hs2) (fun hc => absurd he hc)
def ag_15 (Inv Inv2 : MI → MI → Nat → Nat → Prop) : Prop := ∀ (I J : MI) (rv sp : Nat) (x1 : Int), isRiv rv → isRiv sp → Inv I J rv sp → inR x1 → ∃ rx rm, f_X_gives FU x1 rv I = some rx ∧ f_M_gives FU x1 rx.2 J = some rm ∧ rx.1 = rm.1 ∧ Inv2 rm.2 J rv sp ∧ isRiv rv ∧ isRiv sp
set_option maxHeartbeats 1000000 in
theorem lc_15 {l : Launch} {g : GX} {φ : CX} {b n : Nat} {xs : Nat → Int32} {i : Int} {Inv Inv2 : MI → MI → Nat → Nat → Prop} (ag : ag_15 Inv Inv2) (hX : va_X b n xs φ.2.2.1 φ.2.2.1.heap) (hbl : b < φ.2.2.1.heap.size) (hbA : b ≤ g.2.2.1) (hn : n ≤ 3072) (hcb : cb φ = 353) (hb : 0 ≤ i ∧ i + 6 ≤ (n : Int)) {I J : MI} {rv sp : Nat} (hrr : isRiv rv) (hss : isRiv sp) (hv : Inv I J rv sp) (kk : ∀ (I J : MI) (rv sp : Nat), Inv2 I J rv sp → isRiv rv → isRiv sp → Zt l g φ (lawN φ) 840 [some (.ref b), some (vR g 1), some (vR g 296), some (vI i)] [] (353, I, J, GL rv sp)) : Zt l g φ (lawN φ) 587 [some (.ref b), some (vR g 1), some (vR g 296), some (vI i)] [] (353, I, J, GL rv sp) := by
  obtain ⟨rx, rm, hx, hm, he, hI, hr2, hs2⟩ := ag I J rv sp (xs (w32 (i + 1)).toNat).toInt hrr hss hv (inR_toInt _)
  refine z_aload_n dL_law_587 rfl ?_
  refine z_aload_n dL_law_588 rfl ?_
  refine z_iload_n dL_law_589 rfl ?_
  refine z_iconst dL_law_590 ?_
  refine z_iadd dL_law_591 ?_
  refine z_sld hX hbl hbA dL_law_592 (inR_w32 _) (w_ix (k := 1) hb hn (by decide)) ?_
  refine z_callV (As := [vI (xs (w32 (i + 1)).toNat).toInt]) (rest := []) (s_X_gives (NL rfl) lyX_GL GL_3 hrr GL_4 hss (inR_toInt _) hx) dL_law_593 mw_X_gives cl10 (by decide +kernel) (by decide) (NL rfl) (tin5 46 (by rfl) rfl) im_X_gives se_X_gives rfl rfl rfl rfl (Nat.le_refl _) (Nat.le_of_eq hcb.symm) (fun hpx => ?_)
  show Zt _ _ _ _ 596 _ [vI rx.1] (353, rx.2, J, GL rv sp)
  refine z_aload_n dL_law_596 rfl ?_
  refine z_aload_n dL_law_597 rfl ?_
  refine z_iload_n dL_law_598 rfl ?_
  refine z_iconst dL_law_599 ?_
  refine z_iadd dL_law_600 ?_
  refine z_sld hX hbl hbA dL_law_601 (inR_w32 _) (w_ix (k := 1) hb hn (by decide)) ?_
  refine z_callV (As := [vI (xs (w32 (i + 1)).toNat).toInt]) (rest := [vI rx.1]) (s_M_gives (NL rfl) lyM_GL (inR_toInt _) hm) dL_law_602 mw_M_gives cl11 (by decide +kernel) (by decide) (NL rfl) (tin7 212 (by rfl) rfl) im_M_gives se_M_gives rfl rfl rfl rfl (Nat.le_refl _) (Nat.le_of_eq hcb.symm) (fun hpm => ?_)
  show Zt _ _ _ _ 605 _ [vI rm.1, vI rx.1] (353, rm.2, J, GL rv sp)
  exact z_icmp_eq (tgt := 840) dL_law_605 (by decide) (hpx) (hpm) (fun _ => kk _ _ _ _ hI hr2 hs2) (fun hc => absurd he hc)
def ag_16 (Inv Inv2 : MI → MI → Nat → Nat → Prop) : Prop := ∀ (I J : MI) (rv sp : Nat), isRiv rv → isRiv sp → Inv I J rv sp → ∃ rx rm, f_X_needed FU rv I = some rx ∧ f_M_needed FU rx.2 J = some rm ∧ rx.1 = rm.1 ∧ Inv2 rm.2 J rv sp ∧ isRiv rv ∧ isRiv sp
set_option maxHeartbeats 1000000 in
theorem lc_16 {l : Launch} {g : GX} {φ : CX} {b n : Nat} {xs : Nat → Int32} {i : Int} {Inv Inv2 : MI → MI → Nat → Nat → Prop} (ag : ag_16 Inv Inv2) (hX : va_X b n xs φ.2.2.1 φ.2.2.1.heap) (hbl : b < φ.2.2.1.heap.size) (hbA : b ≤ g.2.2.1) (hn : n ≤ 3072) (hcb : cb φ = 353) (hb : 0 ≤ i ∧ i + 6 ≤ (n : Int)) {I J : MI} {rv sp : Nat} (hrr : isRiv rv) (hss : isRiv sp) (hv : Inv I J rv sp) (kk : ∀ (I J : MI) (rv sp : Nat), Inv2 I J rv sp → isRiv rv → isRiv sp → Zt l g φ (lawN φ) 840 [some (.ref b), some (vR g 1), some (vR g 296), some (vI i)] [] (353, I, J, GL rv sp)) : Zt l g φ (lawN φ) 610 [some (.ref b), some (vR g 1), some (vR g 296), some (vI i)] [] (353, I, J, GL rv sp) := by
  obtain ⟨rx, rm, hx, hm, he, hI, hr2, hs2⟩ := ag I J rv sp  hrr hss hv 
  refine z_aload_n dL_law_610 rfl ?_
  refine z_callV (As := []) (rest := []) (s_X_needed (NL rfl) lyX_GL GL_3 hrr GL_4 hss  hx) dL_law_611 mw_X_needed cl10 (by decide +kernel) (by decide) (NL rfl) (tin5 50 (by rfl) rfl) im_X_needed se_X_needed rfl rfl rfl rfl (Nat.le_refl _) (Nat.le_of_eq hcb.symm) (fun hpx => ?_)
  show Zt _ _ _ _ 614 _ [vI rx.1] (353, rx.2, J, GL rv sp)
  refine z_aload_n dL_law_614 rfl ?_
  refine z_callV (As := []) (rest := [vI rx.1]) (s_M_needed (NL rfl) lyM_GL  hm) dL_law_615 mw_M_needed cl11 (by decide +kernel) (by decide) (NL rfl) (tin7 216 (by rfl) rfl) im_M_needed se_M_needed rfl rfl rfl rfl (Nat.le_refl _) (Nat.le_of_eq hcb.symm) (fun hpm => ?_)
  show Zt _ _ _ _ 618 _ [vI rm.1, vI rx.1] (353, rm.2, J, GL rv sp)
  exact z_icmp_eq (tgt := 840) dL_law_618 (by decide) (hpx) (hpm) (fun _ => kk _ _ _ _ hI hr2 hs2) (fun hc => absurd he hc)
def ag_17 (Inv Inv2 : MI → MI → Nat → Nat → Prop) : Prop := ∀ (I J : MI) (rv sp : Nat), isRiv rv → isRiv sp → Inv I J rv sp → ∃ rx rm, f_X_alone FU rv I = some rx ∧ f_M_alone FU rx.2 J = some rm ∧ rx.1 = rm.1 ∧ Inv2 rm.2 J rv sp ∧ isRiv rv ∧ isRiv sp
set_option maxHeartbeats 1000000 in
theorem lc_17 {l : Launch} {g : GX} {φ : CX} {b n : Nat} {xs : Nat → Int32} {i : Int} {Inv Inv2 : MI → MI → Nat → Nat → Prop} (ag : ag_17 Inv Inv2) (hX : va_X b n xs φ.2.2.1 φ.2.2.1.heap) (hbl : b < φ.2.2.1.heap.size) (hbA : b ≤ g.2.2.1) (hn : n ≤ 3072) (hcb : cb φ = 353) (hb : 0 ≤ i ∧ i + 6 ≤ (n : Int)) {I J : MI} {rv sp : Nat} (hrr : isRiv rv) (hss : isRiv sp) (hv : Inv I J rv sp) (kk : ∀ (I J : MI) (rv sp : Nat), Inv2 I J rv sp → isRiv rv → isRiv sp → Zt l g φ (lawN φ) 840 [some (.ref b), some (vR g 1), some (vR g 296), some (vI i)] [] (353, I, J, GL rv sp)) : Zt l g φ (lawN φ) 623 [some (.ref b), some (vR g 1), some (vR g 296), some (vI i)] [] (353, I, J, GL rv sp) := by
  obtain ⟨rx, rm, hx, hm, he, hI, hr2, hs2⟩ := ag I J rv sp  hrr hss hv 
  refine z_aload_n dL_law_623 rfl ?_
  refine z_callV (As := []) (rest := []) (s_X_alone (NL rfl) lyX_GL GL_3 hrr GL_4 hss  hx) dL_law_624 mw_X_alone cl10 (by decide +kernel) (by decide) (NL rfl) (tin5 77 (by rfl) rfl) im_X_alone se_X_alone rfl rfl rfl rfl (Nat.le_refl _) (Nat.le_of_eq hcb.symm) (fun hpx => ?_)
  show Zt _ _ _ _ 627 _ [vI rx.1] (353, rx.2, J, GL rv sp)
  refine z_aload_n dL_law_627 rfl ?_
  refine z_callV (As := []) (rest := [vI rx.1]) (s_M_alone (NL rfl) lyM_GL  hm) dL_law_628 mw_M_alone cl11 (by decide +kernel) (by decide) (NL rfl) (tin7 228 (by rfl) rfl) im_M_alone se_M_alone rfl rfl rfl rfl (Nat.le_refl _) (Nat.le_of_eq hcb.symm) (fun hpm => ?_)
  show Zt _ _ _ _ 631 _ [vI rm.1, vI rx.1] (353, rm.2, J, GL rv sp)
  exact z_icmp_eq (tgt := 840) dL_law_631 (by decide) (hpx) (hpm) (fun _ => kk _ _ _ _ hI hr2 hs2) (fun hc => absurd he hc)
def ag_18 (Inv Inv2 : MI → MI → Nat → Nat → Prop) : Prop := ∀ (I J : MI) (rv sp : Nat), isRiv rv → isRiv sp → Inv I J rv sp → ∃ rx rm, f_X_breaks FU rv I = some rx ∧ f_M_breaks FU rx.2 J = some rm ∧ rx.1 = rm.1 ∧ Inv2 rm.2 J rv sp ∧ isRiv rv ∧ isRiv sp
set_option maxHeartbeats 1000000 in
theorem lc_18 {l : Launch} {g : GX} {φ : CX} {b n : Nat} {xs : Nat → Int32} {i : Int} {Inv Inv2 : MI → MI → Nat → Nat → Prop} (ag : ag_18 Inv Inv2) (hX : va_X b n xs φ.2.2.1 φ.2.2.1.heap) (hbl : b < φ.2.2.1.heap.size) (hbA : b ≤ g.2.2.1) (hn : n ≤ 3072) (hcb : cb φ = 353) (hb : 0 ≤ i ∧ i + 6 ≤ (n : Int)) {I J : MI} {rv sp : Nat} (hrr : isRiv rv) (hss : isRiv sp) (hv : Inv I J rv sp) (kk : ∀ (I J : MI) (rv sp : Nat), Inv2 I J rv sp → isRiv rv → isRiv sp → Zt l g φ (lawN φ) 840 [some (.ref b), some (vR g 1), some (vR g 296), some (vI i)] [] (353, I, J, GL rv sp)) : Zt l g φ (lawN φ) 636 [some (.ref b), some (vR g 1), some (vR g 296), some (vI i)] [] (353, I, J, GL rv sp) := by
  obtain ⟨rx, rm, hx, hm, he, hI, hr2, hs2⟩ := ag I J rv sp  hrr hss hv 
  refine z_aload_n dL_law_636 rfl ?_
  refine z_callV (As := []) (rest := []) (s_X_breaks (NL rfl) lyX_GL GL_3 hrr GL_4 hss  hx) dL_law_637 mw_X_breaks cl10 (by decide +kernel) (by decide) (NL rfl) (tin5 85 (by rfl) rfl) im_X_breaks se_X_breaks rfl rfl rfl rfl (Nat.le_refl _) (Nat.le_of_eq hcb.symm) (fun hpx => ?_)
  show Zt _ _ _ _ 640 _ [vI rx.1] (353, rx.2, J, GL rv sp)
  refine z_aload_n dL_law_640 rfl ?_
  refine z_callV (As := []) (rest := [vI rx.1]) (s_M_breaks (NL rfl) lyM_GL  hm) dL_law_641 mw_M_breaks cl11 (by decide +kernel) (by decide) (NL rfl) (tin7 232 (by rfl) rfl) im_M_breaks se_M_breaks rfl rfl rfl rfl (Nat.le_refl _) (Nat.le_of_eq hcb.symm) (fun hpm => ?_)
  show Zt _ _ _ _ 644 _ [vI rm.1, vI rx.1] (353, rm.2, J, GL rv sp)
  exact z_icmp_eq (tgt := 840) dL_law_644 (by decide) (hpx) (hpm) (fun _ => kk _ _ _ _ hI hr2 hs2) (fun hc => absurd he hc)
def ag_19 (Inv Inv2 : MI → MI → Nat → Nat → Prop) : Prop := ∀ (I J : MI) (rv sp : Nat), isRiv rv → isRiv sp → Inv I J rv sp → ∃ rx rm, f_X_fords FU rv I = some rx ∧ f_M_fords FU rx.2 J = some rm ∧ rx.1 = rm.1 ∧ Inv2 rm.2 J rv sp ∧ isRiv rv ∧ isRiv sp
set_option maxHeartbeats 1000000 in
theorem lc_19 {l : Launch} {g : GX} {φ : CX} {b n : Nat} {xs : Nat → Int32} {i : Int} {Inv Inv2 : MI → MI → Nat → Nat → Prop} (ag : ag_19 Inv Inv2) (hX : va_X b n xs φ.2.2.1 φ.2.2.1.heap) (hbl : b < φ.2.2.1.heap.size) (hbA : b ≤ g.2.2.1) (hn : n ≤ 3072) (hcb : cb φ = 353) (hb : 0 ≤ i ∧ i + 6 ≤ (n : Int)) {I J : MI} {rv sp : Nat} (hrr : isRiv rv) (hss : isRiv sp) (hv : Inv I J rv sp) (kk : ∀ (I J : MI) (rv sp : Nat), Inv2 I J rv sp → isRiv rv → isRiv sp → Zt l g φ (lawN φ) 840 [some (.ref b), some (vR g 1), some (vR g 296), some (vI i)] [] (353, I, J, GL rv sp)) : Zt l g φ (lawN φ) 649 [some (.ref b), some (vR g 1), some (vR g 296), some (vI i)] [] (353, I, J, GL rv sp) := by
  obtain ⟨rx, rm, hx, hm, he, hI, hr2, hs2⟩ := ag I J rv sp  hrr hss hv 
  refine z_aload_n dL_law_649 rfl ?_
  refine z_callV (As := []) (rest := []) (s_X_fords (NL rfl) lyX_GL GL_3 hrr GL_4 hss  hx) dL_law_650 mw_X_fords cl10 (by decide +kernel) (by decide) (NL rfl) (tin5 90 (by rfl) rfl) im_X_fords se_X_fords rfl rfl rfl rfl (Nat.le_refl _) (Nat.le_of_eq hcb.symm) (fun hpx => ?_)
  show Zt _ _ _ _ 653 _ [vI rx.1] (353, rx.2, J, GL rv sp)
  refine z_aload_n dL_law_653 rfl ?_
  refine z_callV (As := []) (rest := [vI rx.1]) (s_M_fords (NL rfl) lyM_GL  hm) dL_law_654 mw_M_fords cl11 (by decide +kernel) (by decide) (NL rfl) (tin7 236 (by rfl) rfl) im_M_fords se_M_fords rfl rfl rfl rfl (Nat.le_refl _) (Nat.le_of_eq hcb.symm) (fun hpm => ?_)
  show Zt _ _ _ _ 657 _ [vI rm.1, vI rx.1] (353, rm.2, J, GL rv sp)
  exact z_icmp_eq (tgt := 840) dL_law_657 (by decide) (hpx) (hpm) (fun _ => kk _ _ _ _ hI hr2 hs2) (fun hc => absurd he hc)
def ag_20 (Inv Inv2 : MI → MI → Nat → Nat → Prop) : Prop := ∀ (I J : MI) (rv sp : Nat) (x1 : Int) (x2 : Int) (x3 : Int), isRiv rv → isRiv sp → Inv I J rv sp → inR x1 → inR x2 → inR x3 → ∃ rx rm, f_X_tell FU x1 x2 x3 rv I = some rx ∧ f_M_tell_ FU x1 x2 x3 rx.2 J = some rm ∧ rx.1 = rm.1 ∧ Inv2 rm.2 J rv sp ∧ isRiv rv ∧ isRiv sp
set_option maxHeartbeats 1000000 in
theorem lc_20 {l : Launch} {g : GX} {φ : CX} {b n : Nat} {xs : Nat → Int32} {i : Int} {Inv Inv2 : MI → MI → Nat → Nat → Prop} (ag : ag_20 Inv Inv2) (hX : va_X b n xs φ.2.2.1 φ.2.2.1.heap) (hbl : b < φ.2.2.1.heap.size) (hbA : b ≤ g.2.2.1) (hn : n ≤ 3072) (hcb : cb φ = 353) (hb : 0 ≤ i ∧ i + 6 ≤ (n : Int)) {I J : MI} {rv sp : Nat} (hrr : isRiv rv) (hss : isRiv sp) (hv : Inv I J rv sp) (kk : ∀ (I J : MI) (rv sp : Nat), Inv2 I J rv sp → isRiv rv → isRiv sp → Zt l g φ (lawN φ) 840 [some (.ref b), some (vR g 1), some (vR g 296), some (vI i)] [] (353, I, J, GL rv sp)) : Zt l g φ (lawN φ) 662 [some (.ref b), some (vR g 1), some (vR g 296), some (vI i)] [] (353, I, J, GL rv sp) := by
  obtain ⟨rx, rm, hx, hm, he, hI, hr2, hs2⟩ := ag I J rv sp (xs (w32 (i + 1)).toNat).toInt (xs (w32 (i + 2)).toNat).toInt (xs (w32 (i + 3)).toNat).toInt hrr hss hv (inR_toInt _) (inR_toInt _) (inR_toInt _)
  refine z_aload_n dL_law_662 rfl ?_
  refine z_aload_n dL_law_663 rfl ?_
  refine z_iload_n dL_law_664 rfl ?_
  refine z_iconst dL_law_665 ?_
  refine z_iadd dL_law_666 ?_
  refine z_sld hX hbl hbA dL_law_667 (inR_w32 _) (w_ix (k := 1) hb hn (by decide)) ?_
  refine z_aload_n dL_law_668 rfl ?_
  refine z_iload_n dL_law_669 rfl ?_
  refine z_iconst dL_law_670 ?_
  refine z_iadd dL_law_671 ?_
  refine z_sld hX hbl hbA dL_law_672 (inR_w32 _) (w_ix (k := 2) hb hn (by decide)) ?_
  refine z_aload_n dL_law_673 rfl ?_
  refine z_iload_n dL_law_674 rfl ?_
  refine z_iconst dL_law_675 ?_
  refine z_iadd dL_law_676 ?_
  refine z_sld hX hbl hbA dL_law_677 (inR_w32 _) (w_ix (k := 3) hb hn (by decide)) ?_
  refine z_callV (As := [vI (xs (w32 (i + 1)).toNat).toInt, vI (xs (w32 (i + 2)).toNat).toInt, vI (xs (w32 (i + 3)).toNat).toInt]) (rest := []) (s_X_tell (NL rfl) lyX_GL GL_3 hrr GL_4 hss (inR_toInt _) (inR_toInt _) (inR_toInt _) hx) dL_law_678 mw_X_tell cl10 (by decide +kernel) (by decide) (NL rfl) (tin5 128 (by rfl) rfl) im_X_tell se_X_tell rfl rfl rfl rfl (Nat.le_refl _) (Nat.le_of_eq hcb.symm) (fun hpx => ?_)
  show Zt _ _ _ _ 681 _ [vI rx.1] (353, rx.2, J, GL rv sp)
  refine z_aload_n dL_law_681 rfl ?_
  refine z_aload_n dL_law_682 rfl ?_
  refine z_iload_n dL_law_683 rfl ?_
  refine z_iconst dL_law_684 ?_
  refine z_iadd dL_law_685 ?_
  refine z_sld hX hbl hbA dL_law_686 (inR_w32 _) (w_ix (k := 1) hb hn (by decide)) ?_
  refine z_aload_n dL_law_687 rfl ?_
  refine z_iload_n dL_law_688 rfl ?_
  refine z_iconst dL_law_689 ?_
  refine z_iadd dL_law_690 ?_
  refine z_sld hX hbl hbA dL_law_691 (inR_w32 _) (w_ix (k := 2) hb hn (by decide)) ?_
  refine z_aload_n dL_law_692 rfl ?_
  refine z_iload_n dL_law_693 rfl ?_
  refine z_iconst dL_law_694 ?_
  refine z_iadd dL_law_695 ?_
  refine z_sld hX hbl hbA dL_law_696 (inR_w32 _) (w_ix (k := 3) hb hn (by decide)) ?_
  refine z_callV (As := [vI (xs (w32 (i + 1)).toNat).toInt, vI (xs (w32 (i + 2)).toNat).toInt, vI (xs (w32 (i + 3)).toNat).toInt]) (rest := [vI rx.1]) (s_M_tell_ (NL rfl) lyM_GL (inR_toInt _) (inR_toInt _) (inR_toInt _) hm) dL_law_697 mw_M_tell_ cl11 (by decide +kernel) (by decide) (NL rfl) (tin8 20 (by rfl) rfl) im_M_tell_ se_M_tell_ rfl rfl rfl rfl (Nat.le_refl _) (Nat.le_of_eq hcb.symm) (fun hpm => ?_)
  show Zt _ _ _ _ 700 _ [vI rm.1, vI rx.1] (353, rm.2, J, GL rv sp)
  exact z_icmp_eq (tgt := 840) dL_law_700 (by decide) (hpx) (hpm) (fun _ => kk _ _ _ _ hI hr2 hs2) (fun hc => absurd he hc)
def ag_21 (Inv Inv2 : MI → MI → Nat → Nat → Prop) : Prop := ∀ (I J : MI) (rv sp : Nat), isRiv rv → isRiv sp → Inv I J rv sp → ∃ rx rm, f_X_forget FU I = some rx ∧ f_M_forget FU rx.2 J = some rm ∧ rx.1 = rm.1 ∧ Inv2 rm.2 J rv sp ∧ isRiv rv ∧ isRiv sp
set_option maxHeartbeats 1000000 in
theorem lc_21 {l : Launch} {g : GX} {φ : CX} {b n : Nat} {xs : Nat → Int32} {i : Int} {Inv Inv2 : MI → MI → Nat → Nat → Prop} (ag : ag_21 Inv Inv2) (hX : va_X b n xs φ.2.2.1 φ.2.2.1.heap) (hbl : b < φ.2.2.1.heap.size) (hbA : b ≤ g.2.2.1) (hn : n ≤ 3072) (hcb : cb φ = 353) (hb : 0 ≤ i ∧ i + 6 ≤ (n : Int)) {I J : MI} {rv sp : Nat} (hrr : isRiv rv) (hss : isRiv sp) (hv : Inv I J rv sp) (kk : ∀ (I J : MI) (rv sp : Nat), Inv2 I J rv sp → isRiv rv → isRiv sp → Zt l g φ (lawN φ) 840 [some (.ref b), some (vR g 1), some (vR g 296), some (vI i)] [] (353, I, J, GL rv sp)) : Zt l g φ (lawN φ) 705 [some (.ref b), some (vR g 1), some (vR g 296), some (vI i)] [] (353, I, J, GL rv sp) := by
  obtain ⟨rx, rm, hx, hm, he, hI, hr2, hs2⟩ := ag I J rv sp  hrr hss hv 
  refine z_aload_n dL_law_705 rfl ?_
  refine z_callV (As := []) (rest := []) (s_X_forget (NL rfl) lyX_GL GL_3 hrr GL_4 hss  hx) dL_law_706 mw_X_forget cl10 (by decide +kernel) (by decide) (NL rfl) (tin5 132 (by rfl) rfl) im_X_forget se_X_forget rfl rfl rfl rfl (Nat.le_refl _) (Nat.le_of_eq hcb.symm) (fun hpx => ?_)
  show Zt _ _ _ _ 709 _ [vI rx.1] (353, rx.2, J, GL rv sp)
  refine z_aload_n dL_law_709 rfl ?_
  refine z_callV (As := []) (rest := [vI rx.1]) (s_M_forget (NL rfl) lyM_GL  hm) dL_law_710 mw_M_forget cl11 (by decide +kernel) (by decide) (NL rfl) (tin8 24 (by rfl) rfl) im_M_forget se_M_forget rfl rfl rfl rfl (Nat.le_refl _) (Nat.le_of_eq hcb.symm) (fun hpm => ?_)
  show Zt _ _ _ _ 713 _ [vI rm.1, vI rx.1] (353, rm.2, J, GL rv sp)
  exact z_icmp_eq (tgt := 840) dL_law_713 (by decide) (hpx) (hpm) (fun _ => kk _ _ _ _ hI hr2 hs2) (fun hc => absurd he hc)
def ag_22 (Inv Inv2 : MI → MI → Nat → Nat → Prop) : Prop := ∀ (I J : MI) (rv sp : Nat) (x1 : Int) (x2 : Int) (x3 : Int) (x4 : Int), isRiv rv → isRiv sp → Inv I J rv sp → inR x1 → inR x2 → inR x3 → inR x4 → ∃ rx rm, f_X_fits FU x1 x2 x3 x4 rv I = some rx ∧ f_M_fits FU x1 x2 x3 x4 rx.2 J = some rm ∧ rx.1 = rm.1 ∧ Inv2 rm.2 J rv sp ∧ isRiv rv ∧ isRiv sp
set_option maxHeartbeats 1000000 in
theorem lc_22 {l : Launch} {g : GX} {φ : CX} {b n : Nat} {xs : Nat → Int32} {i : Int} {Inv Inv2 : MI → MI → Nat → Nat → Prop} (ag : ag_22 Inv Inv2) (hX : va_X b n xs φ.2.2.1 φ.2.2.1.heap) (hbl : b < φ.2.2.1.heap.size) (hbA : b ≤ g.2.2.1) (hn : n ≤ 3072) (hcb : cb φ = 353) (hb : 0 ≤ i ∧ i + 6 ≤ (n : Int)) {I J : MI} {rv sp : Nat} (hrr : isRiv rv) (hss : isRiv sp) (hv : Inv I J rv sp) (kk : ∀ (I J : MI) (rv sp : Nat), Inv2 I J rv sp → isRiv rv → isRiv sp → Zt l g φ (lawN φ) 840 [some (.ref b), some (vR g 1), some (vR g 296), some (vI i)] [] (353, I, J, GL rv sp)) : Zt l g φ (lawN φ) 718 [some (.ref b), some (vR g 1), some (vR g 296), some (vI i)] [] (353, I, J, GL rv sp) := by
  obtain ⟨rx, rm, hx, hm, he, hI, hr2, hs2⟩ := ag I J rv sp (xs (w32 (i + 1)).toNat).toInt (xs (w32 (i + 2)).toNat).toInt (xs (w32 (i + 3)).toNat).toInt (xs (w32 (i + 4)).toNat).toInt hrr hss hv (inR_toInt _) (inR_toInt _) (inR_toInt _) (inR_toInt _)
  refine z_aload_n dL_law_718 rfl ?_
  refine z_aload_n dL_law_719 rfl ?_
  refine z_iload_n dL_law_720 rfl ?_
  refine z_iconst dL_law_721 ?_
  refine z_iadd dL_law_722 ?_
  refine z_sld hX hbl hbA dL_law_723 (inR_w32 _) (w_ix (k := 1) hb hn (by decide)) ?_
  refine z_aload_n dL_law_724 rfl ?_
  refine z_iload_n dL_law_725 rfl ?_
  refine z_iconst dL_law_726 ?_
  refine z_iadd dL_law_727 ?_
  refine z_sld hX hbl hbA dL_law_728 (inR_w32 _) (w_ix (k := 2) hb hn (by decide)) ?_
  refine z_aload_n dL_law_729 rfl ?_
  refine z_iload_n dL_law_730 rfl ?_
  refine z_iconst dL_law_731 ?_
  refine z_iadd dL_law_732 ?_
  refine z_sld hX hbl hbA dL_law_733 (inR_w32 _) (w_ix (k := 3) hb hn (by decide)) ?_
  refine z_aload_n dL_law_734 rfl ?_
  refine z_iload_n dL_law_735 rfl ?_
  refine z_iconst dL_law_736 ?_
  refine z_iadd dL_law_737 ?_
  refine z_sld hX hbl hbA dL_law_738 (inR_w32 _) (w_ix (k := 4) hb hn (by decide)) ?_
  refine z_callV (As := [vI (xs (w32 (i + 1)).toNat).toInt, vI (xs (w32 (i + 2)).toNat).toInt, vI (xs (w32 (i + 3)).toNat).toInt, vI (xs (w32 (i + 4)).toNat).toInt]) (rest := []) (s_X_fits (NL rfl) lyX_GL GL_3 hrr GL_4 hss (inR_toInt _) (inR_toInt _) (inR_toInt _) (inR_toInt _) hx) dL_law_739 mw_X_fits cl10 (by decide +kernel) (by decide) (NL rfl) (tin5 136 (by rfl) rfl) im_X_fits se_X_fits rfl rfl rfl rfl (Nat.le_refl _) (Nat.le_of_eq hcb.symm) (fun hpx => ?_)
  show Zt _ _ _ _ 742 _ [vI rx.1] (353, rx.2, J, GL rv sp)
  refine z_aload_n dL_law_742 rfl ?_
  refine z_aload_n dL_law_743 rfl ?_
  refine z_iload_n dL_law_744 rfl ?_
  refine z_iconst dL_law_745 ?_
  refine z_iadd dL_law_746 ?_
  refine z_sld hX hbl hbA dL_law_747 (inR_w32 _) (w_ix (k := 1) hb hn (by decide)) ?_
  refine z_aload_n dL_law_748 rfl ?_
  refine z_iload_n dL_law_749 rfl ?_
  refine z_iconst dL_law_750 ?_
  refine z_iadd dL_law_751 ?_
  refine z_sld hX hbl hbA dL_law_752 (inR_w32 _) (w_ix (k := 2) hb hn (by decide)) ?_
  refine z_aload_n dL_law_753 rfl ?_
  refine z_iload_n dL_law_754 rfl ?_
  refine z_iconst dL_law_755 ?_
  refine z_iadd dL_law_756 ?_
  refine z_sld hX hbl hbA dL_law_757 (inR_w32 _) (w_ix (k := 3) hb hn (by decide)) ?_
  refine z_aload_n dL_law_758 rfl ?_
  refine z_iload_n dL_law_759 rfl ?_
  refine z_iconst dL_law_760 ?_
  refine z_iadd dL_law_761 ?_
  refine z_sld hX hbl hbA dL_law_762 (inR_w32 _) (w_ix (k := 4) hb hn (by decide)) ?_
  refine z_callV (As := [vI (xs (w32 (i + 1)).toNat).toInt, vI (xs (w32 (i + 2)).toNat).toInt, vI (xs (w32 (i + 3)).toNat).toInt, vI (xs (w32 (i + 4)).toNat).toInt]) (rest := [vI rx.1]) (s_M_fits (NL rfl) lyM_GL (inR_toInt _) (inR_toInt _) (inR_toInt _) (inR_toInt _) hm) dL_law_763 mw_M_fits cl11 (by decide +kernel) (by decide) (NL rfl) (tin8 28 (by rfl) rfl) im_M_fits se_M_fits rfl rfl rfl rfl (Nat.le_refl _) (Nat.le_of_eq hcb.symm) (fun hpm => ?_)
  show Zt _ _ _ _ 766 _ [vI rm.1, vI rx.1] (353, rm.2, J, GL rv sp)
  exact z_icmp_eq (tgt := 840) dL_law_766 (by decide) (hpx) (hpm) (fun _ => kk _ _ _ _ hI hr2 hs2) (fun hc => absurd he hc)
def ag_23 (Inv Inv2 : MI → MI → Nat → Nat → Prop) : Prop := ∀ (I J : MI) (rv sp : Nat) (x1 : Int), isRiv rv → isRiv sp → Inv I J rv sp → inR x1 → ∃ rx rm, f_X_hold FU x1 I = some rx ∧ f_M_hold FU x1 rx.2 J = some rm ∧ rx.1 = rm.1 ∧ Inv2 rm.2 J rv sp ∧ isRiv rv ∧ isRiv sp
set_option maxHeartbeats 1000000 in
theorem lc_23 {l : Launch} {g : GX} {φ : CX} {b n : Nat} {xs : Nat → Int32} {i : Int} {Inv Inv2 : MI → MI → Nat → Nat → Prop} (ag : ag_23 Inv Inv2) (hX : va_X b n xs φ.2.2.1 φ.2.2.1.heap) (hbl : b < φ.2.2.1.heap.size) (hbA : b ≤ g.2.2.1) (hn : n ≤ 3072) (hcb : cb φ = 353) (hb : 0 ≤ i ∧ i + 6 ≤ (n : Int)) {I J : MI} {rv sp : Nat} (hrr : isRiv rv) (hss : isRiv sp) (hv : Inv I J rv sp) (kk : ∀ (I J : MI) (rv sp : Nat), Inv2 I J rv sp → isRiv rv → isRiv sp → Zt l g φ (lawN φ) 840 [some (.ref b), some (vR g 1), some (vR g 296), some (vI i)] [] (353, I, J, GL rv sp)) : Zt l g φ (lawN φ) 771 [some (.ref b), some (vR g 1), some (vR g 296), some (vI i)] [] (353, I, J, GL rv sp) := by
  obtain ⟨rx, rm, hx, hm, he, hI, hr2, hs2⟩ := ag I J rv sp (xs (w32 (i + 1)).toNat).toInt hrr hss hv (inR_toInt _)
  refine z_aload_n dL_law_771 rfl ?_
  refine z_aload_n dL_law_772 rfl ?_
  refine z_iload_n dL_law_773 rfl ?_
  refine z_iconst dL_law_774 ?_
  refine z_iadd dL_law_775 ?_
  refine z_sld hX hbl hbA dL_law_776 (inR_w32 _) (w_ix (k := 1) hb hn (by decide)) ?_
  refine z_callV (As := [vI (xs (w32 (i + 1)).toNat).toInt]) (rest := []) (s_X_hold (NL rfl) lyX_GL GL_3 hrr GL_4 hss (inR_toInt _) hx) dL_law_777 mw_X_hold cl10 (by decide +kernel) (by decide) (NL rfl) (tin4 115 (by rfl) rfl) im_X_hold se_X_hold rfl rfl rfl rfl (Nat.le_refl _) (Nat.le_of_eq hcb.symm) (fun hpx => ?_)
  show Zt _ _ _ _ 780 _ [vI rx.1] (353, rx.2, J, GL rv sp)
  refine z_aload_n dL_law_780 rfl ?_
  refine z_aload_n dL_law_781 rfl ?_
  refine z_iload_n dL_law_782 rfl ?_
  refine z_iconst dL_law_783 ?_
  refine z_iadd dL_law_784 ?_
  refine z_sld hX hbl hbA dL_law_785 (inR_w32 _) (w_ix (k := 1) hb hn (by decide)) ?_
  refine z_callV (As := [vI (xs (w32 (i + 1)).toNat).toInt]) (rest := [vI rx.1]) (s_M_hold (NL rfl) lyM_GL (inR_toInt _) hm) dL_law_786 mw_M_hold cl11 (by decide +kernel) (by decide) (NL rfl) (tin8 36 (by rfl) rfl) im_M_hold se_M_hold rfl rfl rfl rfl (Nat.le_refl _) (Nat.le_of_eq hcb.symm) (fun hpm => ?_)
  show Zt _ _ _ _ 789 _ [vI rm.1, vI rx.1] (353, rm.2, J, GL rv sp)
  exact z_icmp_eq (tgt := 840) dL_law_789 (by decide) (inR_bool hpx) (inR_bool hpm) (fun _ => kk _ _ _ _ hI hr2 hs2) (fun hc => absurd he hc)
def ag_24 (Inv Inv2 : MI → MI → Nat → Nat → Prop) : Prop := ∀ (I J : MI) (rv sp : Nat) (x1 : Int), isRiv rv → isRiv sp → Inv I J rv sp → inR x1 → ∃ rx rm, f_X_restore FU x1 I = some rx ∧ f_M_restore FU x1 rx.2 J = some rm ∧ rx.1 = rm.1 ∧ Inv2 rm.2 J rv sp ∧ isRiv rv ∧ isRiv sp
set_option maxHeartbeats 1000000 in
theorem lc_24 {l : Launch} {g : GX} {φ : CX} {b n : Nat} {xs : Nat → Int32} {i : Int} {Inv Inv2 : MI → MI → Nat → Nat → Prop} (ag : ag_24 Inv Inv2) (hX : va_X b n xs φ.2.2.1 φ.2.2.1.heap) (hbl : b < φ.2.2.1.heap.size) (hbA : b ≤ g.2.2.1) (hn : n ≤ 3072) (hcb : cb φ = 353) (hb : 0 ≤ i ∧ i + 6 ≤ (n : Int)) {I J : MI} {rv sp : Nat} (hrr : isRiv rv) (hss : isRiv sp) (hv : Inv I J rv sp) (kk : ∀ (I J : MI) (rv sp : Nat), Inv2 I J rv sp → isRiv rv → isRiv sp → Zt l g φ (lawN φ) 840 [some (.ref b), some (vR g 1), some (vR g 296), some (vI i)] [] (353, I, J, GL rv sp)) : Zt l g φ (lawN φ) 794 [some (.ref b), some (vR g 1), some (vR g 296), some (vI i)] [] (353, I, J, GL rv sp) := by
  obtain ⟨rx, rm, hx, hm, he, hI, hr2, hs2⟩ := ag I J rv sp (xs (w32 (i + 1)).toNat).toInt hrr hss hv (inR_toInt _)
  refine z_aload_n dL_law_794 rfl ?_
  refine z_aload_n dL_law_795 rfl ?_
  refine z_iload_n dL_law_796 rfl ?_
  refine z_iconst dL_law_797 ?_
  refine z_iadd dL_law_798 ?_
  refine z_sld hX hbl hbA dL_law_799 (inR_w32 _) (w_ix (k := 1) hb hn (by decide)) ?_
  refine z_callV (As := [vI (xs (w32 (i + 1)).toNat).toInt]) (rest := []) (s_X_restore (NL rfl) lyX_GL GL_3 hrr GL_4 hss (inR_toInt _) hx) dL_law_800 mw_X_restore cl10 (by decide +kernel) (by decide) (NL rfl) (tin4 120 (by rfl) rfl) im_X_restore se_X_restore rfl rfl rfl rfl (Nat.le_refl _) (Nat.le_of_eq hcb.symm) (fun hpx => ?_)
  show Zt _ _ _ _ 803 _ [vI rx.1] (353, rx.2, J, GL rv sp)
  refine z_aload_n dL_law_803 rfl ?_
  refine z_aload_n dL_law_804 rfl ?_
  refine z_iload_n dL_law_805 rfl ?_
  refine z_iconst dL_law_806 ?_
  refine z_iadd dL_law_807 ?_
  refine z_sld hX hbl hbA dL_law_808 (inR_w32 _) (w_ix (k := 1) hb hn (by decide)) ?_
  refine z_callV (As := [vI (xs (w32 (i + 1)).toNat).toInt]) (rest := [vI rx.1]) (s_M_restore (NL rfl) lyM_GL (inR_toInt _) hm) dL_law_809 mw_M_restore cl11 (by decide +kernel) (by decide) (NL rfl) (tin8 40 (by rfl) rfl) im_M_restore se_M_restore rfl rfl rfl rfl (Nat.le_refl _) (Nat.le_of_eq hcb.symm) (fun hpm => ?_)
  show Zt _ _ _ _ 812 _ [vI rm.1, vI rx.1] (353, rm.2, J, GL rv sp)
  exact z_icmp_eq (tgt := 840) dL_law_812 (by decide) (inR_bool hpx) (inR_bool hpm) (fun _ => kk _ _ _ _ hI hr2 hs2) (fun hc => absurd he hc)
def ag_25 (Inv Inv2 : MI → MI → Nat → Nat → Prop) : Prop := ∀ (I J : MI) (rv sp : Nat) (x1 : Int), isRiv rv → isRiv sp → Inv I J rv sp → inR x1 → ∃ rx rm, f_X_count FU x1 rv I = some rx ∧ f_M_count FU x1 I J = some rm ∧ rx = rm.1 ∧ Inv2 rm.2 J rv sp ∧ isRiv rv ∧ isRiv sp
set_option maxHeartbeats 1000000 in
theorem lc_25 {l : Launch} {g : GX} {φ : CX} {b n : Nat} {xs : Nat → Int32} {i : Int} {Inv Inv2 : MI → MI → Nat → Nat → Prop} (ag : ag_25 Inv Inv2) (hX : va_X b n xs φ.2.2.1 φ.2.2.1.heap) (hbl : b < φ.2.2.1.heap.size) (hbA : b ≤ g.2.2.1) (hn : n ≤ 3072) (hcb : cb φ = 353) (hb : 0 ≤ i ∧ i + 6 ≤ (n : Int)) {I J : MI} {rv sp : Nat} (hrr : isRiv rv) (hss : isRiv sp) (hv : Inv I J rv sp) (kk : ∀ (I J : MI) (rv sp : Nat), Inv2 I J rv sp → isRiv rv → isRiv sp → Zt l g φ (lawN φ) 840 [some (.ref b), some (vR g 1), some (vR g 296), some (vI i)] [] (353, I, J, GL rv sp)) : Zt l g φ (lawN φ) 817 [some (.ref b), some (vR g 1), some (vR g 296), some (vI i)] [] (353, I, J, GL rv sp) := by
  obtain ⟨rx, rm, hx, hm, he, hI, hr2, hs2⟩ := ag I J rv sp (xs (w32 (i + 1)).toNat).toInt hrr hss hv (inR_toInt _)
  refine z_aload_n dL_law_817 rfl ?_
  refine z_aload_n dL_law_818 rfl ?_
  refine z_iload_n dL_law_819 rfl ?_
  refine z_iconst dL_law_820 ?_
  refine z_iadd dL_law_821 ?_
  refine z_sld hX hbl hbA dL_law_822 (inR_w32 _) (w_ix (k := 1) hb hn (by decide)) ?_
  refine z_callV (As := [vI (xs (w32 (i + 1)).toNat).toInt]) (rest := []) (s_X_count (NL rfl) lyX_GL GL_3 hrr GL_4 hss (inR_toInt _) hx) dL_law_823 mw_X_count cl10 (by decide +kernel) (by decide) (NL rfl) (tin4 30 (by rfl) rfl) im_X_count se_X_count rfl rfl rfl rfl (Nat.le_refl _) (Nat.le_of_eq hcb.symm) (fun hpx => ?_)
  show Zt _ _ _ _ 826 _ [vI rx] (353, I, J, GL rv sp)
  refine z_aload_n dL_law_826 rfl ?_
  refine z_aload_n dL_law_827 rfl ?_
  refine z_iload_n dL_law_828 rfl ?_
  refine z_iconst dL_law_829 ?_
  refine z_iadd dL_law_830 ?_
  refine z_sld hX hbl hbA dL_law_831 (inR_w32 _) (w_ix (k := 1) hb hn (by decide)) ?_
  refine z_callV (As := [vI (xs (w32 (i + 1)).toNat).toInt]) (rest := [vI rx]) (s_M_count (NL rfl) lyM_GL (inR_toInt _) hm) dL_law_832 mw_M_count cl11 (by decide +kernel) (by decide) (NL rfl) (tin8 44 (by rfl) rfl) im_M_count se_M_count rfl rfl rfl rfl (Nat.le_refl _) (Nat.le_of_eq hcb.symm) (fun hpm => ?_)
  show Zt _ _ _ _ 835 _ [vI rm.1, vI rx] (353, rm.2, J, GL rv sp)
  exact z_icmp_eq (tgt := 840) dL_law_835 (by decide) (hpx) (hpm) (fun _ => kk _ _ _ _ hI hr2 hs2) (fun hc => absurd he hc)
/-- all calls, and that the picture may be kept; j: how many calls have been -/
def AG (Inv : Nat → MI → MI → Nat → Nat → Prop) : Prop := (∀ j, j < 512 → ag_0 (Inv j) (Inv (j + 1))) ∧ (∀ j, j < 512 → ag_1 (Inv j) (Inv (j + 1))) ∧ (∀ j, j < 512 → ag_2 (Inv j) (Inv (j + 1))) ∧ (∀ j, j < 512 → ag_3 (Inv j) (Inv (j + 1))) ∧ (∀ j, j < 512 → ag_4 (Inv j) (Inv (j + 1))) ∧ (∀ j, j < 512 → ag_5 (Inv j) (Inv (j + 1))) ∧ (∀ j, j < 512 → ag_6 (Inv j) (Inv (j + 1))) ∧ (∀ j, j < 512 → ag_7 (Inv j) (Inv (j + 1))) ∧ (∀ j, j < 512 → ag_8 (Inv j) (Inv (j + 1))) ∧ (∀ j, j < 512 → ag_9 (Inv j) (Inv (j + 1))) ∧ (∀ j, j < 512 → ag_10 (Inv j) (Inv (j + 1))) ∧ (∀ j, j < 512 → ag_11 (Inv j) (Inv (j + 1))) ∧ (∀ j, j < 512 → ag_12 (Inv j) (Inv (j + 1))) ∧ (∀ j, j < 512 → ag_13 (Inv j) (Inv (j + 1))) ∧ (∀ j, j < 512 → ag_14 (Inv j) (Inv (j + 1))) ∧ (∀ j, j < 512 → ag_15 (Inv j) (Inv (j + 1))) ∧ (∀ j, j < 512 → ag_16 (Inv j) (Inv (j + 1))) ∧ (∀ j, j < 512 → ag_17 (Inv j) (Inv (j + 1))) ∧ (∀ j, j < 512 → ag_18 (Inv j) (Inv (j + 1))) ∧ (∀ j, j < 512 → ag_19 (Inv j) (Inv (j + 1))) ∧ (∀ j, j < 512 → ag_20 (Inv j) (Inv (j + 1))) ∧ (∀ j, j < 512 → ag_21 (Inv j) (Inv (j + 1))) ∧ (∀ j, j < 512 → ag_22 (Inv j) (Inv (j + 1))) ∧ (∀ j, j < 512 → ag_23 (Inv j) (Inv (j + 1))) ∧ (∀ j, j < 512 → ag_24 (Inv j) (Inv (j + 1))) ∧ (∀ j, j < 512 → ag_25 (Inv j) (Inv (j + 1))) ∧ (∀ j I J rv sp, Inv j I J rv sp → Inv (j + 1) I J rv sp)
