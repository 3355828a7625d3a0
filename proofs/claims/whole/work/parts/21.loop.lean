theorem lw_loop {l : Launch} {g : GX} {p : Program} {e : Env} {s : State} {m : MethodId} {below : List Frame} {meth : Method} {c : Code} {b n : Nat} {xs : Nat → Int32} {Inv : Nat → MI → MI → Nat → Nat → Prop} (ag : AG Inv) (hr : meth.sig.returnType = ret) (hX : va_X b n xs s s.heap) (hbl : b < s.heap.size) (hbA : b ≤ g.2.2.1) (hn : n ≤ 3072) : ∀ (k : Nat) (i : Int) (jc : Nat), i = 6 * (jc : Int) → 0 ≤ i → i ≤ 3100 → (n : Int) ≤ i + (k : Int) → ∀ (I J : MI) (rv sp : Nat), isRiv rv → isRiv sp → Inv jc I J rv sp → Zt l g (lawΦ p e s m below meth c b) (lawN (lawΦ p e s m below meth c b)) 18 [some (.ref b), some (vR g 1), some (vR g 296), some (vI i)] [] (353, I, J, GL rv sp) := by
  intro k
  induction k using Nat.strongRecOn with
  | _ k ih =>
  intro i jc hjc h0 h1 hk I J rv sp hrr hss hv
  have hir : inR i := by unfold inR; omega
  refine z_iload_n dL_law_18 rfl ?_
  refine z_aload_n dL_law_19 rfl ?_
  refine z_slen (n := n) (xs := xs) hX hbl hbA dL_law_20 ?_
  refine z_bipush dL_law_21 (by decide +kernel) ?_
  refine z_isub dL_law_23 ?_
  refine z_icmp_gt (tgt := 846) dL_law_24 (by decide) hir (inR_w32 _) (fun hc => ?_) (fun hc => ?_)
  · refine z_iconst dL_law_846 ?_
    exact z_lawret hr dL_law_847
  rw [w32_eq (by unfold inR; omega)] at hc
  have hb6 : 0 ≤ i ∧ i + 6 ≤ (n : Int) := by omega
  have hj5 : jc < 512 := by omega
  have kk : ∀ (I J : MI) (rv sp : Nat), Inv (jc + 1) I J rv sp → isRiv rv → isRiv sp → Zt l g (lawΦ p e s m below meth c b) (lawN (lawΦ p e s m below meth c b)) 840 [some (.ref b), some (vR g 1), some (vR g 296), some (vI i)] [] (353, I, J, GL rv sp) := by
    intro I J rv sp hv hrr hss
    refine z_iinc (L' := [some (.ref b), some (vR g 1), some (vR g 296), some (vI (i + 6))]) dL_law_840 rfl rfl rfl (by rw [w32_eq (by unfold inR; omega)]; rfl) ?_
    refine z_goto (tgt := 18) dL_law_843 (by decide) ?_
    exact ih (k - 1) (by omega) (i + 6) (jc + 1) (by omega) (by omega) (by omega) (by omega) I J rv sp hrr hss hv
  refine z_aload_n dL_law_27 rfl ?_
  refine z_iload_n dL_law_28 rfl ?_
  refine z_sld (n := n) (xs := xs) hX hbl hbA dL_law_29 hir (by omega) ?_
  refine z_bipush dL_law_30 (by decide +kernel) ?_
  refine z_iand dL_law_32 ?_
  have hx := inR_and (x := (xs i.toNat).toInt) (y := 31)
  generalize and32 (xs i.toNat).toInt 31 = x at hx ⊢
  by_cases h100 : x = 0
  · exact z_tabIn dL_law_33 0 h100 hx (by decide) rfl (by decide) (lc_0 (ag.1 jc hj5) hX hbl hbA hn rfl hb6 hrr hss hv kk)
  by_cases h101 : x = 1
  · exact z_tabIn dL_law_33 1 h101 hx (by decide) rfl (by decide) (lc_1 (ag.2.1 jc hj5) hX hbl hbA hn rfl hb6 hrr hss hv kk)
  by_cases h102 : x = 2
  · exact z_tabIn dL_law_33 2 h102 hx (by decide) rfl (by decide) (lc_2 (ag.2.2.1 jc hj5) hX hbl hbA hn rfl hb6 hrr hss hv kk)
  by_cases h103 : x = 3
  · exact z_tabIn dL_law_33 3 h103 hx (by decide) rfl (by decide) (lc_3 (ag.2.2.2.1 jc hj5) hX hbl hbA hn rfl hb6 hrr hss hv kk)
  by_cases h104 : x = 4
  · exact z_tabIn dL_law_33 4 h104 hx (by decide) rfl (by decide) (lc_4 (ag.2.2.2.2.1 jc hj5) hX hbl hbA hn rfl hb6 hrr hss hv kk)
  by_cases h105 : x = 5
  · exact z_tabIn dL_law_33 5 h105 hx (by decide) rfl (by decide) (lc_5 (ag.2.2.2.2.2.1 jc hj5) hX hbl hbA hn rfl hb6 hrr hss hv kk)
  by_cases h106 : x = 6
  · exact z_tabIn dL_law_33 6 h106 hx (by decide) rfl (by decide) (lc_6 (ag.2.2.2.2.2.2.1 jc hj5) hX hbl hbA hn rfl hb6 hrr hss hv kk)
  by_cases h107 : x = 7
  · exact z_tabIn dL_law_33 7 h107 hx (by decide) rfl (by decide) (lc_7 (ag.2.2.2.2.2.2.2.1 jc hj5) hX hbl hbA hn rfl hb6 hrr hss hv kk)
  by_cases h108 : x = 8
  · exact z_tabIn dL_law_33 8 h108 hx (by decide) rfl (by decide) (lc_8 (ag.2.2.2.2.2.2.2.2.1 jc hj5) hX hbl hbA hn rfl hb6 hrr hss hv kk)
  by_cases h109 : x = 9
  · exact z_tabIn dL_law_33 9 h109 hx (by decide) rfl (by decide) (lc_9 (ag.2.2.2.2.2.2.2.2.2.1 jc hj5) hX hbl hbA hn rfl hb6 hrr hss hv kk)
  by_cases h110 : x = 10
  · exact z_tabIn dL_law_33 10 h110 hx (by decide) rfl (by decide) (lc_10 (ag.2.2.2.2.2.2.2.2.2.2.1 jc hj5) hX hbl hbA hn rfl hb6 hrr hss hv kk)
  by_cases h111 : x = 11
  · exact z_tabIn dL_law_33 11 h111 hx (by decide) rfl (by decide) (lc_11 (ag.2.2.2.2.2.2.2.2.2.2.2.1 jc hj5) hX hbl hbA hn rfl hb6 hrr hss hv kk)
  by_cases h112 : x = 12
  · exact z_tabIn dL_law_33 12 h112 hx (by decide) rfl (by decide) (lc_12 (ag.2.2.2.2.2.2.2.2.2.2.2.2.1 jc hj5) hX hbl hbA hn rfl hb6 hrr hss hv kk)
  by_cases h113 : x = 13
  · exact z_tabIn dL_law_33 13 h113 hx (by decide) rfl (by decide) (lc_13 (ag.2.2.2.2.2.2.2.2.2.2.2.2.2.1 jc hj5) hX hbl hbA hn rfl hb6 hrr hss hv kk)
  by_cases h114 : x = 14
  · exact z_tabIn dL_law_33 14 h114 hx (by decide) rfl (by decide) (lc_14 (ag.2.2.2.2.2.2.2.2.2.2.2.2.2.2.1 jc hj5) hX hbl hbA hn rfl hb6 hrr hss hv kk)
  by_cases h115 : x = 15
  · exact z_tabIn dL_law_33 15 h115 hx (by decide) rfl (by decide) (lc_15 (ag.2.2.2.2.2.2.2.2.2.2.2.2.2.2.2.1 jc hj5) hX hbl hbA hn rfl hb6 hrr hss hv kk)
  by_cases h116 : x = 16
  · exact z_tabIn dL_law_33 16 h116 hx (by decide) rfl (by decide) (lc_16 (ag.2.2.2.2.2.2.2.2.2.2.2.2.2.2.2.2.1 jc hj5) hX hbl hbA hn rfl hb6 hrr hss hv kk)
  by_cases h117 : x = 17
  · exact z_tabIn dL_law_33 17 h117 hx (by decide) rfl (by decide) (lc_17 (ag.2.2.2.2.2.2.2.2.2.2.2.2.2.2.2.2.2.1 jc hj5) hX hbl hbA hn rfl hb6 hrr hss hv kk)
  by_cases h118 : x = 18
  · exact z_tabIn dL_law_33 18 h118 hx (by decide) rfl (by decide) (lc_18 (ag.2.2.2.2.2.2.2.2.2.2.2.2.2.2.2.2.2.2.1 jc hj5) hX hbl hbA hn rfl hb6 hrr hss hv kk)
  by_cases h119 : x = 19
  · exact z_tabIn dL_law_33 19 h119 hx (by decide) rfl (by decide) (lc_19 (ag.2.2.2.2.2.2.2.2.2.2.2.2.2.2.2.2.2.2.2.1 jc hj5) hX hbl hbA hn rfl hb6 hrr hss hv kk)
  by_cases h120 : x = 20
  · exact z_tabIn dL_law_33 20 h120 hx (by decide) rfl (by decide) (lc_20 (ag.2.2.2.2.2.2.2.2.2.2.2.2.2.2.2.2.2.2.2.2.1 jc hj5) hX hbl hbA hn rfl hb6 hrr hss hv kk)
  by_cases h121 : x = 21
  · exact z_tabIn dL_law_33 21 h121 hx (by decide) rfl (by decide) (lc_21 (ag.2.2.2.2.2.2.2.2.2.2.2.2.2.2.2.2.2.2.2.2.2.1 jc hj5) hX hbl hbA hn rfl hb6 hrr hss hv kk)
  by_cases h122 : x = 22
  · exact z_tabIn dL_law_33 22 h122 hx (by decide) rfl (by decide) (lc_22 (ag.2.2.2.2.2.2.2.2.2.2.2.2.2.2.2.2.2.2.2.2.2.2.1 jc hj5) hX hbl hbA hn rfl hb6 hrr hss hv kk)
  by_cases h123 : x = 23
  · exact z_tabIn dL_law_33 23 h123 hx (by decide) rfl (by decide) (lc_23 (ag.2.2.2.2.2.2.2.2.2.2.2.2.2.2.2.2.2.2.2.2.2.2.2.1 jc hj5) hX hbl hbA hn rfl hb6 hrr hss hv kk)
  by_cases h124 : x = 24
  · exact z_tabIn dL_law_33 24 h124 hx (by decide) rfl (by decide) (lc_24 (ag.2.2.2.2.2.2.2.2.2.2.2.2.2.2.2.2.2.2.2.2.2.2.2.2.1 jc hj5) hX hbl hbA hn rfl hb6 hrr hss hv kk)
  by_cases h125 : x = 25
  · exact z_tabIn dL_law_33 25 h125 hx (by decide) rfl (by decide) (lc_25 (ag.2.2.2.2.2.2.2.2.2.2.2.2.2.2.2.2.2.2.2.2.2.2.2.2.2.1 jc hj5) hX hbl hbA hn rfl hb6 hrr hss hv kk)
  exact z_tabOut dL_law_33 hx (by omega) (by decide) (kk I J rv sp (ag.2.2.2.2.2.2.2.2.2.2.2.2.2.2.2.2.2.2.2.2.2.2.2.2.2.2 jc I J rv sp hv) hrr hss)
