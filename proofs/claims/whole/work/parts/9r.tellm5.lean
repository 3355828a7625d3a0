/-! texts: the model tells leavers and laws -/
theorem nameA_l0 {B : Nat → Int} {n nt m t0 t' : Nat} {nm : Nat → Nat} {l lp lp' : Int} (h : nameA B n nt m nm (.inr (t0, l, lp)) = .inr (t', 0, lp')) : l = 0 := by
  have h' : (match takeA (Kt B n nt) (PP B n nt) 300 (.inr (t0, l, lp)) with | .inl e => (.inl e : Ctl) | .inr s => if (fstP (fun j => decide (Wt B n (nm j) = Wt B n t0)) m 0).isSome then laterA 3 (PP B n nt t0) (.inr s) else .inr s) = .inr (t', 0, lp') := h
  match hx : takeA (Kt B n nt) (PP B n nt) 300 (.inr (t0, l, lp)) with
  | .inl e => rw [hx] at h'; cases h'
  | .inr (t1, l1, lp1) =>
    rw [hx] at h'
    obtain ⟨t2, h1, h2, h3, h4⟩ := takeA_inr hx
    cases h1
    dsimp only at h'
    by_cases g : (fstP (fun j => decide (Wt B n (nm j) = Wt B n t0)) m 0).isSome = true
    · rw [if_pos g] at h'
      have h2' : (Sum.inr (t1, if l = 0 then (3 : Int) else l, if l = 0 then PP B n nt t0 else lp) : Ctl) = .inr (t', 0, lp') := h'
      by_cases gl : l = 0
      · exact gl
      · rw [if_neg gl, if_neg gl] at h2'
        cases h2'
        exact absurd rfl gl
    · rw [if_neg g] at h'
      cases h'
      rfl
theorem md_k20 {B : Nat → Int} {n nt : Nat} {J G I : MI} {r : Ctl} {v : Int} (H : MdM B n nt J G I r) : MdM B n nt J (up2 G 296 20 v) (up2 I 296 20 v) r := by
  obtain ⟨h1, h2, h3⟩ := H
  refine ⟨tkm_congr h1 (fun b b1 b2 => up2_off (by omega)) rfl, ctm_key (by omega) h2, fun b hb => by rw [up2_off hb, up2_off hb]; exact h3.1 b hb, fun j b1 b2 b3 b4 b5 => ?_⟩
  by_cases e : j = 20
  · rw [e, up2_same, up2_same]
  · rw [up2_k e, up2_k e]; exact h3.2 j b1 b2 b3 b4 b5
section
variable {F n nt h t : Nat} {B : Nat → Int} {I0 J0 I J : MI} {l lp : Int} {s : RIV × Nat × (Nat → Nat)}
theorem leaverM (hF : 1000000 ≤ F) (hh : h < 2) (h19 : I0 296 19 = (h : Int)) (hs : SgM B n nt h I0 J0 I J (.inr (t, l, lp), s)) (hk : Kt B n nt t = 260) : ∃ I' J', f_M_tell F I J = some (I', J') ∧ SgM B n nt h I0 J0 I' J' (stA B n nt (.inr (t, l, lp), s)) := by
  obtain ⟨c1, c2, c3, c4, c5, c6, c7⟩ := hs.2.1
  have hi := sg_19 h19 hs
  have ht := (tkm_at hs.1 c2 c1).1
  rw [hk, show mkK 260 = 24 from by decide] at ht
  have hst : stA B n nt (.inr (t, l, lp), s) = _ := (if_neg (show ¬ Kt B n nt t = 256 by omega)).trans ((if_neg (show ¬ Kt B n nt t = 257 by omega)).trans ((if_neg (show ¬ Kt B n nt t = 258 by omega)).trans ((if_neg (show ¬ Kt B n nt t = 259 by omega)).trans (if_pos hk))))
  rw [hst]
  obtain ⟨b0, p0, d0, _⟩ := hs.2.2.2.2 t l lp rfl
  obtain ⟨_, ⟨hd, hd0, hd8⟩, _, _, h20, hnm, _⟩ := d0
  dsimp only at hd hd0 hd8 h20 hnm
  unfold f_M_tell
  rw [c4, if_pos (by omega), Int.toNat_natCast, ht, if_neg (by decide), if_neg (by decide), if_neg (by decide), if_neg (by decide), if_pos rfl, hi, if_pos (by omega), Int.toNat_natCast, hd]
  obtain ⟨M, e, m⟩ := roomM (F := F) (x := aN s.1) (y := 8) hs hk (by decide)
  rw [e, Option.bind_some]
  by_cases g8 : 8 ≤ aN s.1
  · rw [if_pos g8]
    rw [if_pos (by omega)] at m
    have m' : CtM B n nt M (.inl (2, PP B n nt t)) := m.2.1
    rw [if_pos (by rw [m'.2.1]; show ¬ (2 : Int) = 0; decide)]
    exact ⟨M, J, rfl, sgm_fin (G := I) (r' := .inl (2, PP B n nt t)) hs frR_refl (fun _ _ _ => rfl) (fun _ _ => rfl) m ge_inl (fun _ _ => rfl) rfl (fun b p d t' l' lp' hr => by cases hr)⟩
  rw [if_neg g8]
  rw [if_neg (by omega)] at m
  obtain ⟨w, hw⟩ : ∃ w : Nat, aN s.1 = (w : Int) := ⟨(aN s.1).toNat, by omega⟩
  have hwt : (aN s.1).toNat = w := by omega
  dsimp only
  rw [hwt]
  match hr1 : takeA (Kt B n nt) (PP B n nt) 260 (.inr (t, l, lp)), m with
  | .inl e', m =>
    rw [if_pos (by have := m.2.1.1; rw [m.2.1.2.1]; omega)]
    exact ⟨M, J, rfl, sgm_fin (G := I) (r' := .inl e') hs frR_refl (fun _ _ _ => rfl) (fun _ _ => rfl) m ge_inl (fun _ _ => rfl) rfl (fun b p d t' l' lp' hr => by cases hr)⟩
  | .inr (t1, l1, lp1), m =>
    obtain ⟨tz, hz1, hz2, _⟩ := takeA_inr hr1
    cases hz1
    subst hz2
    rw [if_neg (by simp [m.2.1.2.2.1])]
    have m19 := md_19 m hi
    have m311 : M 311 h = (w : Int) := by rw [m.2.2.1 311 (by decide), hd]; exact hw
    have m11 : M 296 11 = ((t + 1 : Nat) : Int) := m.2.1.2.2.2.1
    have ix : w32 (w32 (8 * (h : Int)) + (w : Int)) = ((8 * h + w : Nat) : Int) := by rw [w32i (x := 8 * (h : Int)) (by omega) (by omega), w32i (by omega) (by omega)]; omega
    unfold f_M_tellLeaver
    rw [m19, if_pos (by omega), Int.toNat_natCast, m311, ix, m11]
    obtain ⟨M1, e1, m1⟩ := md_must (F := F) (x := 300) (c := 1) (by unfold VK; omega) (by decide) (by decide) m
    have m1_20 : M1 296 20 = (w : Int) := by rw [m1.2.2.2 20 (by decide) (by decide) (by decide) (by decide) (by decide), h20]; exact hw
    obtain ⟨M2, e2, n2, f2⟩ := namesM (F := F) (m := w) (nm := s.2.2) (x1 := ((8 * h + w : Nat) : Int)) hF m1.1 m1.2.1 ⟨m.2.1.2.1, m.2.1.1⟩ (fun hl => by
      obtain ⟨_, t2, d2, d3⟩ := c7 hl
      rw [d3]; exact PP_lt hs.1.1 (by omega) m.2.1.2.1) m1_20 (by omega) (fun j hj => hnm j (by omega))
    have m2 : MdM B n nt J I M2 (nameA B n nt w s.2.2 (.inr (t + 1, l, lp))) := ⟨tkm_congr m1.1 (fun a a1 a2 => f2.1 a (by omega)) rfl, n2, fr5_trans m1.2.2 f2⟩
    have hna := fun t' l' lp' => nameA_inr (B := B) (n := n) (nt := nt) (m := w) (nm := s.2.2) (r := .inr (t + 1, l, lp)) (t := t') (l := l') (lp := lp')
    have hn0 := fun t' lp' => nameA_l0 (B := B) (n := n) (nt := nt) (m := w) (nm := s.2.2) (t0 := t + 1) (l := l) (lp := lp) (t' := t') (lp' := lp')
    have g2 : Ge (nameA B n nt w s.2.2 (.inr (t + 1, l, lp))) (t + 1) := ge_up (ge_name (ge_self (t := t + 1) (l := l) (lp := lp))) (by omega)
    generalize nameA B n nt w s.2.2 (.inr (t + 1, l, lp)) = r2 at *
    rw [e1, Option.bind_some, e2, Option.bind_some]
    obtain ⟨v3, M3, e3, m3, b3, b3', d3⟩ := md_bnd (F := F) (lo := 0) (hi := 99) (by decide) (by decide) m2
    have g3 := ge_int (K := Kt B n nt) (P := PP B n nt) (V := Vt B n) (lo := 0) (hi := 99) g2
    have i3 := fun t' l' lp' => intA_inr (K := Kt B n nt) (P := PP B n nt) (V := Vt B n) (lo := 0) (hi := 99) (r := r2) (t := t') (l := l') (lp := lp')
    generalize intA (Kt B n nt) (PP B n nt) (Vt B n) 0 99 r2 = q1 at *
    obtain ⟨v4, M4, e4, m4, b4, b4', d4⟩ := md_bnd (F := F) (lo := 1) (hi := 9) (by decide) (by decide) (md_put (a := 312) (k := 8 * h + w) (v := v3) (by decide) m3)
    have g4 := ge_int (K := Kt B n nt) (P := PP B n nt) (V := Vt B n) (lo := 1) (hi := 9) g3
    have i4 := fun t' l' lp' => intA_inr (K := Kt B n nt) (P := PP B n nt) (V := Vt B n) (lo := 1) (hi := 9) (r := q1.2) (t := t') (l := l') (lp := lp')
    generalize intA (Kt B n nt) (PP B n nt) (Vt B n) 1 9 q1.2 = q2 at *
    obtain ⟨v5, M5, e5, m5, b5, b5', d5⟩ := md_bnd (F := F) (lo := 1) (hi := 9) (by decide) (by decide) (md_put (a := 313) (k := 8 * h + w) (v := v4) (by decide) m4)
    have g5 := ge_int (K := Kt B n nt) (P := PP B n nt) (V := Vt B n) (lo := 1) (hi := 9) g4
    have i5 := fun t' l' lp' => intA_inr (K := Kt B n nt) (P := PP B n nt) (V := Vt B n) (lo := 1) (hi := 9) (r := q2.2) (t := t') (l := l') (lp := lp')
    generalize intA (Kt B n nt) (PP B n nt) (Vt B n) 1 9 q2.2 = q3 at *
    obtain ⟨v6, M6, e6, m6, b6, b6', d6⟩ := md_bnd (F := F) (lo := 0) (hi := 99) (by decide) (by decide) (md_put (a := 314) (k := 8 * h + w) (v := v5) (by decide) m5)
    have g6 := ge_int (K := Kt B n nt) (P := PP B n nt) (V := Vt B n) (lo := 0) (hi := 99) g5
    have i6 := fun t' l' lp' => intA_inr (K := Kt B n nt) (P := PP B n nt) (V := Vt B n) (lo := 0) (hi := 99) (r := q3.2) (t := t') (l := l') (lp := lp')
    generalize intA (Kt B n nt) (PP B n nt) (Vt B n) 0 99 q3.2 = q4 at *
    obtain ⟨M7, e7, m7⟩ := md_must (F := F) (x := 59) (c := 4) (by unfold VK; omega) (by decide) (by decide) (md_put (a := 315) (k := 8 * h + w) (v := v6) (by decide) m6)
    have g7 := ge_take (K := Kt B n nt) (P := PP B n nt) (k := 59) g6
    rw [e3, Option.bind_some, if_pos (by omega), Int.toNat_natCast]
    dsimp only
    rw [e4, Option.bind_some]
    dsimp only
    rw [e5, Option.bind_some]
    dsimp only
    rw [e6, Option.bind_some]
    dsimp only
    rw [e7, Option.bind_some]
    have val : ∀ t' l' lp', takeA (Kt B n nt) (PP B n nt) 59 q4.2 = .inr (t', l', lp') → l' = 0 → v6 = q4.1 ∧ v5 = q3.1 ∧ v4 = q2.1 ∧ v3 = q1.1 ∧ l = 0 := fun t' l' lp' hr h0 => by
      obtain ⟨t6, x6, _⟩ := takeA_inr hr
      obtain ⟨y6, t5, lp5, x5⟩ := d6 t6 l' lp' x6 h0
      obtain ⟨y5, t4, lp4, x4⟩ := d5 t5 0 lp5 x5 rfl
      obtain ⟨y4, t3, lp3, x3⟩ := d4 t4 0 lp4 x4 rfl
      obtain ⟨y3, t2, lp2, x2⟩ := d3 t3 0 lp3 x3 rfl
      exact ⟨y6, y5, y4, y3, hn0 t2 lp2 x2⟩
    have k300 : ∀ t' l' lp', takeA (Kt B n nt) (PP B n nt) 59 q4.2 = .inr (t', l', lp') → Kt B n nt (t + 1) = 300 := fun t' l' lp' hr => by
      obtain ⟨t6, x6, _⟩ := takeA_inr hr
      obtain ⟨t5, l5, lp5, x5, _⟩ := i6 _ _ _ x6
      obtain ⟨t4, l4, lp4, x4, _⟩ := i5 _ _ _ x5
      obtain ⟨t3, l3, lp3, x3, _⟩ := i4 _ _ _ x4
      obtain ⟨t2, l2, lp2, x2, _⟩ := i3 _ _ _ x3
      obtain ⟨t1, l1, lp1, x1, _, x0, _⟩ := hna _ _ _ x2
      cases x1
      exact x0
    have wr : ∀ a, wdR a = 8 → 305 ≤ a ∧ a ≤ 327 → ∀ (Z : MI) v, FrR h Z (up2 Z a (8 * h + w) v) := fun a ha hb Z v => put_R hb (by rw [ha]; omega)
    have f0 : FrR h I (up2 (up2 (up2 (up2 I 312 (8 * h + w) v3) 313 (8 * h + w) v4) 314 (8 * h + w) v5) 315 (8 * h + w) v6) := frR_trans (wr 312 rfl (by omega) _ _) (frR_trans (wr 313 rfl (by omega) _ _) (frR_trans (wr 314 rfl (by omega) _ _) (wr 315 rfl (by omega) _ _)))
    have z0 : ∀ a, a ≠ 312 → a ≠ 313 → a ≠ 314 → a ≠ 315 → (up2 (up2 (up2 (up2 I 312 (8 * h + w) v3) 313 (8 * h + w) v4) 314 (8 * h + w) v5) 315 (8 * h + w) v6) a = I a := fun a a1 a2 a3 a4 => by rw [up2_off a4, up2_off a3, up2_off a2, up2_off a1]
    by_cases g13 : M7 296 13 ≤ 0
    · have m19' : M7 296 19 = (h : Int) := md_19 m7 (by rw [z0 296 (by decide) (by decide) (by decide) (by decide)]; exact hi)
      have m20' : M7 296 20 = (w : Int) := by rw [m7.2.2.2 20 (by decide) (by decide) (by decide) (by decide) (by decide), z0 296 (by decide) (by decide) (by decide) (by decide), h20]; exact hw
      have m311' : M7 311 h = (w : Int) := by rw [m7.2.2.1 311 (by decide), z0 311 (by decide) (by decide) (by decide) (by decide), hd]; exact hw
      have u19 : up2 M7 296 20 ((w : Int) + 1) 296 19 = (h : Int) := by rw [up2_k (by decide)]; exact m19'
      have u311 : up2 M7 296 20 ((w : Int) + 1) 311 h = (w : Int) := by rw [up2_r (by decide)]; exact m311'
      rw [if_pos g13, if_pos (by omega), m20', if_pos (by omega), w32i (by omega) (by omega), u19, if_pos (by omega), Int.toNat_natCast, Int.toNat_natCast, Int.toNat_natCast, u311, w32i (by omega) (by omega)]
      generalize hG4 : (up2 (up2 (up2 (up2 I 312 (8 * h + w) v3) 313 (8 * h + w) v4) 314 (8 * h + w) v5) 315 (8 * h + w) v6) = G4 at *
      refine ⟨_, _, rfl, sgm_fin (G := up2 (up2 G4 296 20 ((w : Int) + 1)) 311 h ((w : Int) + 1)) hs (frR_trans f0 (frR_trans (key_R (Or.inr rfl)) (put_R (by omega) (by show 1 * h ≤ h ∧ h < 1 * h + 1; omega)))) (fun a a1 a2 => by rw [up2_off (by omega), up2_off (by omega)]; exact z0 a (by omega) (by omega) (by omega) (by omega)) (fun k hk => by rw [up2_r (by decide), up2_k hk, z0 296 (by decide) (by decide) (by decide) (by decide)]) (md_put (a := 311) (k := h) (v := (w : Int) + 1) (by decide) (md_k20 (v := (w : Int) + 1) m7)) (ge_up g7 (by omega)) (fun a ha => up2_off ha) rfl (fun b p d t' l' lp' hr => ?_)⟩
      obtain ⟨_, w2, w3, w4, w5, w6, _, _, w9⟩ := d
      try dsimp only at w3 w4 w9
      have zn : aN (upR (upR (upR (upR (upR s.1 3 w q1.1) 4 w q2.1) 5 w q3.1) 6 w q4.1) 0 3 (aN s.1 + 1)) = (w : Int) + 1 := by rw [hw]; exact upR_s
      have zf : aF (upR (upR (upR (upR (upR s.1 3 w q1.1) 4 w q2.1) 5 w q3.1) 6 w q4.1) 0 3 (aN s.1 + 1)) = aF s.1 := rfl
      dsimp only
      rw [zn, zf]
      refine ⟨⟨up2_same, by omega, by omega⟩, ⟨by rw [up2_r (by decide), up2_r (by decide), z0 316 (by decide) (by decide) (by decide) (by decide)]; exact w3.1, w3.2⟩, ⟨by rw [up2_r (by decide), up2_r (by decide), z0 307 (by decide) (by decide) (by decide) (by decide)]; exact w4.1, w4.2⟩, by rw [up2_r (by decide), up2_same], fun j hj => ?_, fun h0 => ?_⟩
      · have hK := k300 t' l' lp' hr
        by_cases ej : j = w
        · rw [if_pos ej, ej, up2_same]
          refine ⟨?_, hK⟩
          have := (tkm_at m.1 m.2.1.2.1 m.2.1.1).2.2.2 hK
          exact this
        · rw [if_neg ej, up2_k ej]
          exact hnm j (by omega)
      · obtain ⟨y6, y5, y4, y3, y0⟩ := val t' l' lp' hr h0
        have p1 := rvf_put (a := 3) (k := w) (v := q1.1) (w9 y0) (by decide)
        have p2 := rvf_put (a := 4) (k := w) (v := q2.1) p1 (by decide)
        have p3 := rvf_put (a := 5) (k := w) (v := q3.1) p2 (by decide)
        have p4 := rvf_put (a := 6) (k := w) (v := q4.1) p3 (by decide)
        have eG : (up2 (up2 (up2 (up2 I 312 (8 * h + w) q1.1) 313 (8 * h + w) q2.1) 314 (8 * h + w) q3.1) 315 (8 * h + w) q4.1) = G4 := by rw [← hG4, y3, y4, y5, y6]
        have p4' : RvF G4 h (upR (upR (upR (upR s.1 3 w q1.1) 4 w q2.1) 5 w q3.1) 6 w q4.1) := by rw [← eG]; exact p4
        have zw : aN (upR (upR (upR (upR s.1 3 w q1.1) 4 w q2.1) 5 w q3.1) 6 w q4.1) = aN s.1 := rfl
        have p5 := rvf_lea (m := w) p4' hw.symm (by
          rw [← eG, up2_r (by decide), up2_r (by decide), up2_r (by decide), up2_same]
          exact ((upR_f (by decide)).trans ((upR_f (by decide)).trans ((upR_f (by decide)).trans upR_s))).symm) (by
          rw [← eG, up2_r (by decide), up2_r (by decide), up2_same]
          exact ((upR_f (by decide)).trans ((upR_f (by decide)).trans upR_s)).symm) (by
          rw [← eG, up2_r (by decide), up2_same]
          exact ((upR_f (by decide)).trans upR_s).symm) (by
          rw [← eG, up2_same]
          exact upR_s.symm)
        rw [zw] at p5
        exact rvf_congr p5 (fun a a1 a2 a3 a4 a5 => by rw [up2_off a4, up2_off (by omega)])
    · rw [if_neg g13]
      refine ⟨M7, J, rfl, sgm_fin (G := up2 (up2 (up2 (up2 I 312 (8 * h + w) v3) 313 (8 * h + w) v4) 314 (8 * h + w) v5) 315 (8 * h + w) v6) hs f0 (fun a a1 a2 => z0 a (by omega) (by omega) (by omega) (by omega)) (fun k _ => by rw [z0 296 (by decide) (by decide) (by decide) (by decide)]) m7 (ge_up g7 (by omega)) (fun _ _ => rfl) rfl (fun b p d t' l' lp' hr => ?_)⟩
      have := m7.2.1
      rw [hr] at this
      have := this.2.2.1
      omega
end
