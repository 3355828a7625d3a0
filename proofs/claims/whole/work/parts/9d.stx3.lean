/-! texts: the class reads leavers, floods, laws -/
theorem intA_inr {K P V : Nat → Int} {lo hi : Int} {r : Ctl} {t : Nat} {l lp : Int} (h : (intA K P V lo hi r).2 = .inr (t, l, lp)) : ∃ t0 l0 lp0, r = .inr (t0, l0, lp0) ∧ t = t0 + 1 ∧ K t0 = 301 ∧ t0 < 400 := by
  match r, h with
  | .inl e, h => cases h
  | .inr (t0, l0, lp0), h =>
    by_cases g : K t0 = 301 ∧ t0 < 400
    · have hi' : intA K P V lo hi (.inr (t0, l0, lp0)) = if lo ≤ V t0 ∧ V t0 ≤ hi then (V t0, .inr (t0 + 1, l0, lp0)) else (lo, laterA 5 (P t0) (.inr (t0 + 1, l0, lp0))) := if_pos g
      rw [hi'] at h
      refine ⟨t0, l0, lp0, rfl, ?_, g.1, g.2⟩
      by_cases g2 : lo ≤ V t0 ∧ V t0 ≤ hi
      · rw [if_pos g2] at h; cases h; rfl
      · rw [if_neg g2] at h; cases h; rfl
    · have hi' : intA K P V lo hi (.inr (t0, l0, lp0)) = (lo, takeA K P 301 (.inr (t0, l0, lp0))) := if_neg g
      rw [hi'] at h
      dsimp only at h
      obtain ⟨t1, h1, h2, h3, h4⟩ := takeA_inr h
      cases h1
      exact absurd ⟨h3, h4⟩ g
theorem nameA_inr {B : Nat → Int} {n nt m : Nat} {nm : Nat → Nat} {r : Ctl} {t : Nat} {l lp : Int} (h : nameA B n nt m nm r = .inr (t, l, lp)) : ∃ t0 l0 lp0, r = .inr (t0, l0, lp0) ∧ t = t0 + 1 ∧ Kt B n nt t0 = 300 ∧ t0 < 400 := by
  match r, h with
  | .inl e, h => cases h
  | .inr (t0, l0, lp0), h =>
    have h' : (match takeA (Kt B n nt) (PP B n nt) 300 (.inr (t0, l0, lp0)) with | .inl e => (.inl e : Ctl) | .inr s => if (fstP (fun j => decide (Wt B n (nm j) = Wt B n t0)) m 0).isSome then laterA 3 (PP B n nt t0) (.inr s) else .inr s) = .inr (t, l, lp) := h
    match hx : takeA (Kt B n nt) (PP B n nt) 300 (.inr (t0, l0, lp0)) with
    | .inl e => rw [hx] at h'; cases h'
    | .inr (t1, l1, lp1) =>
      rw [hx] at h'
      obtain ⟨t2, h1, h2, h3, h4⟩ := takeA_inr hx
      cases h1
      refine ⟨t0, l0, lp0, rfl, ?_, h3, h4⟩
      dsimp only at h'
      split at h'
      · cases h'; exact h2
      · cases h'; exact h2
theorem stx_name {F m : Nat} {B : Nat → Int} {n nt sp : Nat} {I0 I : MI} {N : Nat → Int} {d : Int} {S : Nat → Nat → Prop} {r : Ctl} {ρ : RIV} {nm : Nat → Nat} (hF : 1000000 ≤ F) (hs : isSp sp) (h : StX B n nt sp I0 N d S I r ρ) (hm : m < 8) (hnm : ∀ j, j < m → N j = ((nm j : Nat) : Int) ∧ nm j < nt) : ∃ I' N', f_E_takeName F (m : Int) I = some I' ∧ StX B n nt sp I0 N' d S I' (nameA B n nt m nm r) ρ ∧ (∀ j, j ≠ m → N' j = N j) ∧ N' m = I 4 1 := by
  obtain ⟨h1, h2, h3, h4, h5, h6, h7, h8⟩ := h
  have hs' : 11 ≤ sp := by rcases hs with e | e <;> omega
  obtain ⟨I', e1, q1, q2, q3, q4, q5⟩ := nameX (F := F) hF h1 h2 h3 hm (fun j hj => by rw [h6]; exact hnm j hj)
  refine ⟨I', I' 10, e1, ⟨tkx_congr h1 (fun a b1 b2 => q2 a (by omega) (by omega)), tpx_congr h2 (by rw [q2 2 (by decide) (by decide)]) (by rw [q2 3 (by decide) (by decide)]), q1, rivx_congr h4 (fun a b1 _ _ _ => q2 a (by omega) (by omega)), fun a k hk => by rw [q2 _ (by omega) (by omega)]; exact h5 a k hk, rfl, by rw [q3 6 (by decide) (by decide) (by decide) (by decide) (by decide)]; exact h7, fun a b1 b2 b3 => by rw [q2 a b1 b2]; exact h8 a b1 b2 b3⟩, fun j hj => by rw [q4 j hj, h6], q5⟩
theorem stx_lea {B : Nat → Int} {n nt sp m : Nat} {I0 I : MI} {N : Nat → Int} {d : Int} {S : Nat → Nat → Prop} {r : Ctl} {ρ : RIV} (hs : isSp sp) (h : StX B n nt sp I0 N d S I r ρ) (hm : (m : Int) = aN ρ) (h3 : S 3 m) (h4 : S 4 m) (h5 : S 5 m) (h6 : S 6 m) : StX B n nt sp I0 N d (fun _ _ => False) (up2 I sp 5 (aN ρ + 1)) r (upR ρ 0 3 (aN ρ + 1)) := by
  obtain ⟨g1, g2, g3, g4, g5, g6, g7, g8⟩ := h
  have hs' : 11 ≤ sp := by rcases hs with e | e <;> omega
  refine ⟨tkx_congr g1 (fun b b1 b2 => up2_off (by omega)), tpx_congr g2 (by rw [up2_off (by omega)]) (by rw [up2_off (by omega)]), ?_, ?_, fun a' k' hk => hk.elim, by rw [up2_off (by omega)]; exact g6, by rw [up2_r (by omega)]; exact g7, fun b b1 b2 b3 => by rw [up2_off (by omega)]; exact g8 b b1 b2 b3⟩
  · have e : up2 I sp 5 (aN ρ + 1) 4 = I 4 := up2_off (by omega)
    match r, g3 with
    | .inl e', h => unfold CtX at h ⊢; rw [e]; exact h
    | .inr (t, l, lp), h => unfold CtX at h ⊢; rw [e]; exact h
  · obtain ⟨k1, k2, k3, k4, k5, k6, k7, k8, k9, k10, k11⟩ := g4
    have z : ∀ b i, up2 I sp 5 (aN ρ + 1) (sp + (b + 1)) i = I (sp + (b + 1)) i := fun b i => up2_r (by omega)
    have zz : aN (upR ρ 0 3 (aN ρ + 1)) = aN ρ + 1 := upR_s
    refine ⟨(up2_k (by decide)).trans k1, (up2_k (by decide)).trans k2, (up2_k (by decide)).trans k3, up2_same.trans zz.symm, (up2_k (by decide)).trans k5, fun c hc => (z 0 c).trans (k6 c hc), fun y hy => (z 1 y).trans (k7 y hy), fun j hj => ?_, fun f hf => ⟨(z 6 f).trans (k9 f hf).1, (z 7 f).trans (k9 f hf).2⟩, lawX_congr k10 (up2_off (by omega)) (up2_off (by omega)) (up2_off (by omega)), lawX_congr k11 (up2_off (by omega)) (up2_off (by omega)) (up2_off (by omega))⟩
    rw [zz] at hj
    by_cases e : j = m
    · subst e
      exact ⟨(z 2 j).trans (g5 3 j h3), (z 3 j).trans (g5 4 j h4), (z 4 j).trans (g5 5 j h5), (z 5 j).trans (g5 6 j h6)⟩
    · obtain ⟨c1, c2, c3, c4⟩ := k8 j (by omega)
      exact ⟨(z 2 j).trans c1, (z 3 j).trans c2, (z 4 j).trans c3, (z 5 j).trans c4⟩
theorem stx_fl {B : Nat → Int} {n nt sp m : Nat} {I0 I : MI} {N : Nat → Int} {d : Int} {S : Nat → Nat → Prop} {r : Ctl} {ρ : RIV} (hs : isSp sp) (h : StX B n nt sp I0 N d S I r ρ) (hm : (m : Int) = aF ρ) (h3 : S 7 m) (h4 : S 8 m) : StX B n nt sp I0 N d (fun _ _ => False) (up2 I sp 10 (aF ρ + 1)) r (upR ρ 0 4 (aF ρ + 1)) := by
  obtain ⟨g1, g2, g3, g4, g5, g6, g7, g8⟩ := h
  have hs' : 11 ≤ sp := by rcases hs with e | e <;> omega
  refine ⟨tkx_congr g1 (fun b b1 b2 => up2_off (by omega)), tpx_congr g2 (by rw [up2_off (by omega)]) (by rw [up2_off (by omega)]), ?_, ?_, fun a' k' hk => hk.elim, by rw [up2_off (by omega)]; exact g6, by rw [up2_r (by omega)]; exact g7, fun b b1 b2 b3 => by rw [up2_off (by omega)]; exact g8 b b1 b2 b3⟩
  · have e : up2 I sp 10 (aF ρ + 1) 4 = I 4 := up2_off (by omega)
    match r, g3 with
    | .inl e', h => unfold CtX at h ⊢; rw [e]; exact h
    | .inr (t, l, lp), h => unfold CtX at h ⊢; rw [e]; exact h
  · obtain ⟨k1, k2, k3, k4, k5, k6, k7, k8, k9, k10, k11⟩ := g4
    have z : ∀ b i, up2 I sp 10 (aF ρ + 1) (sp + (b + 1)) i = I (sp + (b + 1)) i := fun b i => up2_r (by omega)
    have zz : aF (upR ρ 0 4 (aF ρ + 1)) = aF ρ + 1 := upR_s
    refine ⟨(up2_k (by decide)).trans k1, (up2_k (by decide)).trans k2, (up2_k (by decide)).trans k3, (up2_k (by decide)).trans k4, up2_same.trans zz.symm, fun c hc => (z 0 c).trans (k6 c hc), fun y hy => (z 1 y).trans (k7 y hy), fun j hj => ?_, fun f hf => ?_, lawX_congr k10 (up2_off (by omega)) (up2_off (by omega)) (up2_off (by omega)), lawX_congr k11 (up2_off (by omega)) (up2_off (by omega)) (up2_off (by omega))⟩
    · obtain ⟨c1, c2, c3, c4⟩ := k8 j hj
      exact ⟨(z 2 j).trans c1, (z 3 j).trans c2, (z 4 j).trans c3, (z 5 j).trans c4⟩
    · rw [zz] at hf
      by_cases e : f = m
      · subst e
        exact ⟨(z 6 f).trans (g5 7 f h3), (z 7 f).trans (g5 8 f h4)⟩
      · obtain ⟨c1, c2⟩ := k9 f (by omega)
        exact ⟨(z 6 f).trans c1, (z 7 f).trans c2⟩
section
variable {F n nt sp t : Nat} {B : Nat → Int} {I0 I : MI} {l lp : Int} {s : RIV × Nat × (Nat → Nat)}
theorem floodX (hs : isSp sp) (h : SgX B n nt sp I0 I (.inr (t, l, lp), s)) (hk : Kt B n nt t = 261) : ∃ I', f_E_readFlood F sp I = some I' ∧ SgX B n nt sp I0 I' (stA B n nt (.inr (t, l, lp), s)) := by
  obtain ⟨r1, r2, r3, r4, r5⟩ := h.2.2.2.2 t l lp rfl
  dsimp only at r1 r2 r3 r4 r5
  have hst : stA B n nt (.inr (t, l, lp), s) = _ := (if_neg (show ¬ Kt B n nt t = 256 by omega)).trans ((if_neg (show ¬ Kt B n nt t = 257 by omega)).trans ((if_neg (show ¬ Kt B n nt t = 258 by omega)).trans ((if_neg (show ¬ Kt B n nt t = 259 by omega)).trans ((if_neg (show ¬ Kt B n nt t = 260 by omega)).trans (if_pos hk)))))
  rw [hst]
  unfold f_E_readFlood
  have hbd := r2.2.2.2.2.1
  have hx : I sp 10 = aF s.1 := r1.2.2.2.2.1
  rw [hx]
  by_cases g : 8 ≤ aF s.1
  · rw [if_neg (by omega), if_pos g]
    obtain ⟨M, e, a⟩ := stx_fail (F := F) (w := 2) hs (by decide) (sg_st h)
    rw [e, Option.bind_some]
    refine ⟨M, rfl, a.1, a.2.1, a.2.2.1, a.2.2.2.2.2.2.2, fun t' l' lp' h => by cases h⟩
  rw [if_pos (by omega), if_neg g]
  obtain ⟨m, hm⟩ : ∃ m : Nat, aF s.1 = (m : Int) := ⟨(aF s.1).toNat, by omega⟩
  have hmt : (aF s.1).toNat = m := by omega
  obtain ⟨M1, e1, a1⟩ := stx_take (F := F) (k := 261) hs (by decide) (sg_st h)
  obtain ⟨M2, e2, a2, b2⟩ := stx_int (F := F) (lo := 0) (hi := 199) hs (by decide) a1
  obtain ⟨M3, e3, a3, b3⟩ := stx_int (F := F) (lo := 1) (hi := 12) hs (by decide) (stx_put (a := 7) (k := m) (v := (intA (Kt B n nt) (PP B n nt) (Vt B n) 0 199 (takeA (Kt B n nt) (PP B n nt) 261 (.inr (t, l, lp)))).1) hs (by decide) a2)
  rw [e1, Option.bind_some, e2, Option.bind_some]
  dsimp only
  rw [hmt, if_pos (by omega), e3, Option.bind_some]
  generalize hq1 : intA (Kt B n nt) (PP B n nt) (Vt B n) 0 199 (takeA (Kt B n nt) (PP B n nt) 261 (.inr (t, l, lp))) = q1 at *
  generalize hq2 : intA (Kt B n nt) (PP B n nt) (Vt B n) 1 12 q1.2 = q2 at *
  obtain ⟨M4, e4, a4⟩ := stx_take (F := F) (k := 59) hs (by decide) (stx_put (a := 8) (k := m) (v := q2.1) hs (by decide) a3)
  dsimp only
  rw [e4, Option.bind_some]
  have hF4 : M4 sp 10 = aF s.1 := a4.2.2.2.1.2.2.2.2.1
  rw [hF4, w32i (by omega) (by omega)]
  have a5 := stx_fl hs a4 (m := m) hm.symm (Or.inl (Or.inr ⟨rfl, rfl⟩)) (Or.inr ⟨rfl, rfl⟩)
  have hok := ok_fl (v1 := q1.1) (v2 := q2.1) r2 (by omega) b2 b3
  unfold flR at hok
  rw [hmt] at hok
  exact ⟨_, rfl, st_sg a5 hok r4 (fun j hj => r5 j hj)⟩
theorem leaverX (hF : 1000000 ≤ F) (hs : isSp sp) (h : SgX B n nt sp I0 I (.inr (t, l, lp), s)) (hk : Kt B n nt t = 260) : ∃ I', f_E_readLeaver F sp I = some I' ∧ SgX B n nt sp I0 I' (stA B n nt (.inr (t, l, lp), s)) := by
  obtain ⟨r1, r2, r3, r4, r5⟩ := h.2.2.2.2 t l lp rfl
  dsimp only at r1 r2 r3 r4 r5
  have hst : stA B n nt (.inr (t, l, lp), s) = _ := (if_neg (show ¬ Kt B n nt t = 256 by omega)).trans ((if_neg (show ¬ Kt B n nt t = 257 by omega)).trans ((if_neg (show ¬ Kt B n nt t = 258 by omega)).trans ((if_neg (show ¬ Kt B n nt t = 259 by omega)).trans (if_pos hk))))
  rw [hst]
  unfold f_E_readLeaver
  have hbd := r2.2.2.2.1
  have hx : I sp 5 = aN s.1 := r1.2.2.2.1
  rw [hx]
  by_cases g : 8 ≤ aN s.1
  · rw [if_neg (by omega), if_pos g]
    obtain ⟨M, e, a⟩ := stx_fail (F := F) (w := 2) hs (by decide) (sg_st h)
    rw [e, Option.bind_some]
    refine ⟨M, rfl, a.1, a.2.1, a.2.2.1, a.2.2.2.2.2.2.2, fun t' l' lp' h => by cases h⟩
  rw [if_pos (by omega), if_neg g]
  obtain ⟨m, hm⟩ : ∃ m : Nat, aN s.1 = (m : Int) := ⟨(aN s.1).toNat, by omega⟩
  have hmt : (aN s.1).toNat = m := by omega
  obtain ⟨M1, e1, a1⟩ := stx_take (F := F) (k := 260) hs (by decide) (sg_st h)
  obtain ⟨M2, N2, e2, a2, n2, n2'⟩ := stx_name (F := F) (m := m) (nm := s.2.2) hF hs a1 (by omega) (fun j hj => r5 j (by omega))
  rw [e1, Option.bind_some]
  dsimp only
  rw [hmt, hm, e2, Option.bind_some]
  have hr1 : ∀ t' l' lp', takeA (Kt B n nt) (PP B n nt) 260 (.inr (t, l, lp)) = .inr (t', l', lp') → t' = t + 1 := fun t' l' lp' h => by
    obtain ⟨t0, h1, h2, _⟩ := takeA_inr h
    cases h1; exact h2
  have hC1 := a1.2.2.1
  generalize hq0 : takeA (Kt B n nt) (PP B n nt) 260 (.inr (t, l, lp)) = q0 at *
  obtain ⟨M3, e3, a3, b3⟩ := stx_int (F := F) (lo := 0) (hi := 99) hs (by decide) a2
  have hq1' := fun t' l' lp' => intA_inr (t := t') (l := l') (lp := lp') (K := Kt B n nt) (P := PP B n nt) (V := Vt B n) (lo := 0) (hi := 99) (r := nameA B n nt m s.2.2 q0)
  generalize hq1 : intA (Kt B n nt) (PP B n nt) (Vt B n) 0 99 (nameA B n nt m s.2.2 q0) = q1 at *
  obtain ⟨M4, e4, a4, b4⟩ := stx_int (F := F) (lo := 1) (hi := 9) hs (by decide) (stx_put (a := 3) (k := m) (v := q1.1) hs (by decide) a3)
  have hq2' := fun t' l' lp' => intA_inr (t := t') (l := l') (lp := lp') (K := Kt B n nt) (P := PP B n nt) (V := Vt B n) (lo := 1) (hi := 9) (r := q1.2)
  generalize hq2 : intA (Kt B n nt) (PP B n nt) (Vt B n) 1 9 q1.2 = q2 at *
  obtain ⟨M5, e5, a5, b5⟩ := stx_int (F := F) (lo := 1) (hi := 9) hs (by decide) (stx_put (a := 4) (k := m) (v := q2.1) hs (by decide) a4)
  have hq3' := fun t' l' lp' => intA_inr (t := t') (l := l') (lp := lp') (K := Kt B n nt) (P := PP B n nt) (V := Vt B n) (lo := 1) (hi := 9) (r := q2.2)
  generalize hq3 : intA (Kt B n nt) (PP B n nt) (Vt B n) 1 9 q2.2 = q3 at *
  obtain ⟨M6, e6, a6, b6⟩ := stx_int (F := F) (lo := 0) (hi := 99) hs (by decide) (stx_put (a := 5) (k := m) (v := q3.1) hs (by decide) a5)
  have hq4' := fun t' l' lp' => intA_inr (t := t') (l := l') (lp := lp') (K := Kt B n nt) (P := PP B n nt) (V := Vt B n) (lo := 0) (hi := 99) (r := q3.2)
  generalize hq4 : intA (Kt B n nt) (PP B n nt) (Vt B n) 0 99 q3.2 = q4 at *
  obtain ⟨M7, e7, a7⟩ := stx_take (F := F) (k := 59) hs (by decide) (stx_put (a := 6) (k := m) (v := q4.1) hs (by decide) a6)
  rw [e3, Option.bind_some, if_pos (by omega)]
  dsimp only
  rw [e4, Option.bind_some]
  dsimp only
  rw [e5, Option.bind_some]
  dsimp only
  rw [e6, Option.bind_some]
  dsimp only
  rw [e7, Option.bind_some]
  have hN7 : M7 sp 5 = aN s.1 := a7.2.2.2.1.2.2.2.1
  rw [hN7, w32i (by omega) (by omega)]
  have a8 := stx_lea hs a7 (m := m) hm.symm (Or.inl (Or.inl (Or.inl (Or.inr ⟨rfl, rfl⟩)))) (Or.inl (Or.inl (Or.inr ⟨rfl, rfl⟩))) (Or.inl (Or.inr ⟨rfl, rfl⟩)) (Or.inr ⟨rfl, rfl⟩)
  have hok := ok_lea (v1 := q1.1) (v2 := q2.1) (v3 := q3.1) (v4 := q4.1) r2 (by omega) b3 b4 b5 b6
  unfold leaR at hok
  rw [hmt] at hok
  refine ⟨_, rfl, a8.1, a8.2.1, a8.2.2.1, a8.2.2.2.2.2.2.2, fun t' l' lp' h => ?_⟩
  dsimp only at h
  refine ⟨by rw [← hm]; exact a8.2.2.2.1, by rw [← hm]; exact hok, a8.2.2.2.2.2.2.1, r4, fun j hj => ?_⟩
  have hj' : (j : Int) < aN s.1 + 1 := by rw [← hm] at hj; exact hj
  obtain ⟨t6, h1, _⟩ := takeA_inr h
  obtain ⟨t5, l5, lp5, h5, _⟩ := hq4' _ _ _ h1
  obtain ⟨t4, l4, lp4, h4, _⟩ := hq3' _ _ _ h5
  obtain ⟨t3, l3, lp3, h3, _⟩ := hq2' _ _ _ h4
  obtain ⟨t2, l2, lp2, h2, _⟩ := hq1' _ _ _ h3
  obtain ⟨t1, l1, lp1, h1', _, k300, _⟩ := nameA_inr h2
  have ht1 := hr1 _ _ _ h1'
  rw [h1'] at hC1
  have h41 : M1 4 1 = (t1 : Int) := hC1.2.2.2.1
  have hlt := Kt_end hC1.2.1 (by rw [k300]; decide)
  have hN : ∀ j, up2 M7 sp 5 (aN s.1 + 1) 10 j = N2 j := fun j => by
    have := a8.2.2.2.2.2.1
    exact congrFun this j
  show up2 M7 sp 5 (aN s.1 + 1) 10 j = (((if j = m then t + 1 else s.2.2 j) : Nat) : Int) ∧ (if j = m then t + 1 else s.2.2 j) < nt
  rw [hN]
  by_cases e : j = m
  · rw [if_pos e, e, n2', h41, ht1]
    exact ⟨rfl, by omega⟩
  · rw [if_neg e, n2 j e]
    exact r5 j (by omega)
end
