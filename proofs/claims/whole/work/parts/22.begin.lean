theorem GL_new : GL 11 30 = gmz := GS_same (by decide +kernel) (by decide +kernel)
/-- where the two objects begin -/
def BG (Inv : Nat → MI → MI → Nat → Nat → Prop) : Prop := ∃ (I1 : MI) (r : MI × MI), f_X_init FU = some I1 ∧ fresh 295 I1 (fun _ _ => 0) gx_80 ∧ f_M_init FU I1 (fun _ _ => 0) = some r ∧ Inv 0 r.1 r.2 11 30
theorem fresh_new0 : fresh 0 (fun _ _ => 0) (fun _ _ => 0) gx_0 := fun _ _ _ => ⟨rfl, rfl, rfl⟩
set_option maxHeartbeats 1000000 in
theorem lw_begin {l : Launch} {g : GX} {p : Program} {e : Env} {s : State} {m : MethodId} {below : List Frame} {meth : Method} {c : Code} {b n : Nat} {xs : Nat → Int32} {Inv : Nat → MI → MI → Nat → Nat → Prop} (ag : AG Inv) (bg : BG Inv) (hr : meth.sig.returnType = ret) (hX : va_X b n xs s s.heap) (hbl : b < s.heap.size) (hbA : b ≤ g.2.2.1) (hn : n ≤ 3072) : Zt l g (lawΦ p e s m below meth c b) (lawN (lawΦ p e s m below meth c b)) 0 [some (.ref b), none, none, none] [] (0, (fun _ _ => 0), (fun _ _ => 0), gx_0) := by
  obtain ⟨I1, r, h1, hf1, h2, hv⟩ := bg
  have hcb : cb (lawΦ p e s m below meth c b) = 353 := rfl
  refine z_new dL_law_0 cl10 wDf10 (tin1 21 (by rfl) rfl) wIns10 ini_10 (by decide +kernel) (by rw [hcb]; decide) fresh_new0 ?_
  show Zt _ _ _ _ 3 _ [vR g 1] (1, (fun _ _ => 0), (fun _ _ => 0), gx_0)
  refine z_dup dL_law_3 rfl ?_
  refine z_callI (As := []) (rest := [vR g 1]) (n_X (F := FU) (fresh_up fresh_new0 (by decide)) h1) dL_law_4 mw_X_init (tin1 23 (by rfl) rfl) im_X_init rfl rfl rfl rfl rfl (NL rfl) (by rw [hcb]; exact NL rfl) (fun _ => ?_)
  show Zt _ _ _ _ 7 _ [vR g 1] (295, I1, (fun _ _ => 0), gx_80)
  refine z_astore_n (L' := [some (.ref b), some (vR g 1), none, none]) dL_law_7 rfl rfl rfl ?_
  refine z_new dL_law_8 cl11 wDf11 (tin5 156 (by rfl) rfl) wIns11 ini_11 (by decide +kernel) (by rw [hcb]; decide) hf1 ?_
  show Zt _ _ _ _ 11 _ [vR g 296] (296, I1, (fun _ _ => 0), gx_80)
  refine z_dup dL_law_11 rfl ?_
  refine z_callI (As := []) (rest := [vR g 296]) (n_M (F := FU) (fresh_up hf1 (by decide)) h2) dL_law_12 mw_M_init (tin5 158 (by rfl) rfl) im_M_init rfl rfl rfl rfl rfl (NL rfl) (by rw [hcb]; exact NL rfl) (fun _ => ?_)
  show Zt _ _ _ _ 15 _ [vR g 296] (353, r.1, r.2, gmz)
  refine z_astore_n (L' := [some (.ref b), some (vR g 1), some (vR g 296), none]) dL_law_15 rfl rfl rfl ?_
  refine z_iconst dL_law_16 ?_
  refine z_istore_n (L' := [some (.ref b), some (vR g 1), some (vR g 296), some (vI 0)]) dL_law_17 rfl rfl rfl ?_
  rw [← GL_new]
  exact lw_loop ag hr hX hbl hbA hn n 0 0 (by omega) (by omega) (by omega) (by omega) r.1 r.2 11 30 is_11 is_30 hv
