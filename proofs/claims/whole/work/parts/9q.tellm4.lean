/-! texts: the model tells depths and floods -/
section
variable {F n nt h t : Nat} {B : Nat → Int} {I0 J0 I J : MI} {l lp : Int} {s : RIV × Nat × (Nat → Nat)}
theorem depthM (hh : h < 2) (h19 : I0 296 19 = (h : Int)) (hs : SgM B n nt h I0 J0 I J (.inr (t, l, lp), s)) (hk : Kt B n nt t = 257) : ∃ I' J', f_M_tell F I J = some (I', J') ∧ SgM B n nt h I0 J0 I' J' (stA B n nt (.inr (t, l, lp), s)) := by
  obtain ⟨c1, c2, c3, c4, c5⟩ := hs.2.1
  have hi := sg_19 h19 hs
  have ht := (tkm_at hs.1 c2 c1).1
  rw [hk, show mkK 257 = 21 from by decide] at ht
  have hst : stA B n nt (.inr (t, l, lp), s) = _ := (if_neg (show ¬ Kt B n nt t = 256 by omega)).trans (if_pos hk)
  rw [hst]
  obtain ⟨b0, p0, d0, _⟩ := hs.2.2.2.2 t l lp rfl
  obtain ⟨_, _, _, ⟨hd, hd20⟩, _⟩ := d0
  dsimp only at hd hd20
  unfold f_M_tell
  rw [c4, if_pos (by omega), Int.toNat_natCast, ht, if_neg (by decide), if_pos rfl, hi, if_pos (by omega), Int.toNat_natCast, hd]
  obtain ⟨M, e, m⟩ := roomM (F := F) (x := ((s.2.1 : Nat) : Int)) (y := 20) hs hk (by decide)
  have hif : (if ((s.2.1 : Nat) : Int) = 20 then failA (PP B n nt) 2 (.inr (t, l, lp)) else (.inr (t, l, lp))) = (if 20 ≤ s.2.1 then failA (PP B n nt) 2 (.inr (t, l, lp)) else (.inr (t, l, lp))) := by
    by_cases g : 20 ≤ s.2.1
    · rw [if_pos g, if_pos (by omega)]
    · rw [if_neg g, if_neg (by omega)]
  rw [hif] at m
  rw [e, Option.bind_some]
  dsimp only
  have k1 : ∀ t' l' lp', takeA (Kt B n nt) (PP B n nt) 257 (if 20 ≤ s.2.1 then failA (PP B n nt) 2 (.inr (t, l, lp)) else (.inr (t, l, lp))) = .inr (t', l', lp') → l' = l ∧ t' = t + 1 ∧ s.2.1 < 20 := fun t' l' lp' hr => by
    by_cases g : 20 ≤ s.2.1
    · rw [if_pos g] at hr; cases hr
    · rw [if_neg g] at hr
      obtain ⟨t0, x0, x1, _⟩ := takeA_inr hr
      cases x0
      exact ⟨rfl, x1, by omega⟩
  have hst2 : ∀ R, (if 20 ≤ s.2.1 then failA (PP B n nt) 2 (.inr (t, l, lp)) else (.inr (t, l, lp))) = R → (if 20 ≤ ((.inr (t, l, lp), s) : SgT).2.2.1 then failA (PP B n nt) 2 ((.inr (t, l, lp), s) : SgT).1 else ((.inr (t, l, lp), s) : SgT).1) = R := fun R hR => hR
  generalize hR : (if 20 ≤ s.2.1 then failA (PP B n nt) 2 (.inr (t, l, lp)) else (.inr (t, l, lp) : Ctl)) = R0 at *
  generalize hr1 : takeA (Kt B n nt) (PP B n nt) 257 R0 = r1 at *
  have g1 : Ge r1 (t + 1) := fun t' l' lp' hr => by have := (k1 t' l' lp' hr).2.1; omega
  -- the whole of what is told
  have whole : ∃ I' J', (if ¬ (M 296 13) = 0 then (some (M, J)) else ((f_M_tellDepth F M J).bind fun q27 => (some (q27, J)))) = some (I', J') ∧ SgM B n nt h I0 J0 I' J' (takeA (Kt B n nt) (PP B n nt) 59 (intA (Kt B n nt) (PP B n nt) (Vt B n) 0 9 (intA (Kt B n nt) (PP B n nt) (Vt B n) 0 7 (intA (Kt B n nt) (PP B n nt) (Vt B n) 0 11 r1).2).2).2, upR s.1 1 (12 * (intA (Kt B n nt) (PP B n nt) (Vt B n) 0 7 (intA (Kt B n nt) (PP B n nt) (Vt B n) 0 11 r1).2).1 + (intA (Kt B n nt) (PP B n nt) (Vt B n) 0 11 r1).1).toNat (intA (Kt B n nt) (PP B n nt) (Vt B n) 0 9 (intA (Kt B n nt) (PP B n nt) (Vt B n) 0 7 (intA (Kt B n nt) (PP B n nt) (Vt B n) 0 11 r1).2).2).1, s.2.1 + 1, s.2.2) := by
    by_cases g13 : M 296 13 = 0
    rotate_left
    · rw [if_pos g13]
      match r1, m with
      | .inr (t1, l1, lp1), m => exact absurd m.2.1.2.2.1 g13
      | .inl e', m => exact ⟨M, J, rfl, sgm_fin (G := I) (r' := .inl e') hs frR_refl (fun _ _ _ => rfl) (fun _ _ => rfl) m ge_inl (fun _ _ => rfl) rfl (fun b p d t' l' lp' hr => by cases hr)⟩
    rw [if_neg (fun hn => hn g13)]
    obtain ⟨v2, M2, e2, m2, b2, b2', d2⟩ := md_bnd (F := F) (lo := 0) (hi := 11) (by decide) (by decide) m
    have g2 := ge_int (K := Kt B n nt) (P := PP B n nt) (V := Vt B n) (lo := 0) (hi := 11) g1
    have bd1 := intA_bd (K := Kt B n nt) (P := PP B n nt) (V := Vt B n) (lo := 0) (hi := 11) (r := r1) (by decide)
    generalize intA (Kt B n nt) (PP B n nt) (Vt B n) 0 11 r1 = q1 at *
    obtain ⟨v3, M3, e3, m3, b3, b3', d3⟩ := md_bnd (F := F) (lo := 0) (hi := 7) (by decide) (by decide) m2
    have g3 := ge_int (K := Kt B n nt) (P := PP B n nt) (V := Vt B n) (lo := 0) (hi := 7) g2
    have bd2 := intA_bd (K := Kt B n nt) (P := PP B n nt) (V := Vt B n) (lo := 0) (hi := 7) (r := q1.2) (by decide)
    generalize intA (Kt B n nt) (PP B n nt) (Vt B n) 0 7 q1.2 = q2 at *
    obtain ⟨v4, M4, e4, m4, b4, b4', d4⟩ := md_bnd (F := F) (lo := 0) (hi := 9) (by decide) (by decide) m3
    have g4 := ge_int (K := Kt B n nt) (P := PP B n nt) (V := Vt B n) (lo := 0) (hi := 9) g3
    generalize intA (Kt B n nt) (PP B n nt) (Vt B n) 0 9 q2.2 = q3 at *
    obtain ⟨M5, e5, m5⟩ := md_must (F := F) (x := 59) (c := 4) (by unfold VK; omega) (by decide) (by decide) m4
    have g5 := ge_take (K := Kt B n nt) (P := PP B n nt) (k := 59) g4
    have val : ∀ t' l' lp', takeA (Kt B n nt) (PP B n nt) 59 q3.2 = .inr (t', l', lp') → l' = 0 → v4 = q3.1 ∧ v3 = q2.1 ∧ v2 = q1.1 ∧ l = 0 := fun t' l' lp' hr h0 => by
      obtain ⟨t3, x3, _⟩ := takeA_inr hr
      obtain ⟨y4, t4, lp4, x4⟩ := d4 t3 l' lp' x3 h0
      obtain ⟨y3, t2, lp2, x2⟩ := d3 t4 0 lp4 x4 rfl
      obtain ⟨y2, t1, lp1, x1⟩ := d2 t2 0 lp2 x2 rfl
      exact ⟨y4, y3, y2, ((k1 t1 0 lp1 x1).1).symm⟩
    have alv : ∀ t' l' lp', takeA (Kt B n nt) (PP B n nt) 59 q3.2 = .inr (t', l', lp') → M5 296 13 = 0 := fun t' l' lp' hr => by
      have := m5.2.1
      rw [hr] at this
      exact this.2.2.1
    have m19 := md_19 m5 hi
    have m307 : M5 307 h = ((s.2.1 : Nat) : Int) := by rw [m5.2.2.1 307 (by decide)]; exact hd
    unfold f_M_tellDepth
    rw [e2, Option.bind_some, e3, Option.bind_some, e4, Option.bind_some, e5, Option.bind_some]
    dsimp only
    by_cases g6 : M5 296 13 ≤ 0
    rotate_left
    · rw [if_neg g6, Option.bind_some]
      refine ⟨M5, J, rfl, sgm_fin (G := I) hs frR_refl (fun _ _ _ => rfl) (fun _ _ => rfl) m5 (ge_up g5 (by omega)) (fun _ _ => rfl) rfl (fun b p d t' l' lp' hr => ?_)⟩
      have := alv t' l' lp' hr
      omega
    have dlt : ∀ t' l' lp', takeA (Kt B n nt) (PP B n nt) 59 q3.2 = .inr (t', l', lp') → s.2.1 < 20 := fun t' l' lp' hr => by
      match r1, m, k1 with
      | .inr (t1, l1, lp1), _, k1 => exact (k1 t1 l1 lp1 rfl).2.2
      | .inl e', m, _ =>
        have := m.2.1.1
        have := m.2.1.2.1
        omega
    have m307' : w32 (M5 307 h + 1) = ((s.2.1 + 1 : Nat) : Int) := by rw [m307, w32i (by omega) (by omega)]; omega
    rw [if_pos g6, m19, if_pos (by omega), Int.toNat_natCast, m307']
    have m6 := md_put (a := 307) (k := h) (v := ((s.2.1 + 1 : Nat) : Int)) (by decide) m5
    have onlyCount : (∀ t' l' lp', takeA (Kt B n nt) (PP B n nt) 59 q3.2 = .inr (t', l', lp') → l' ≠ 0) → SgM B n nt h I0 J0 (up2 M5 307 h ((s.2.1 + 1 : Nat) : Int)) J (takeA (Kt B n nt) (PP B n nt) 59 q3.2, upR s.1 1 (12 * q2.1 + q1.1).toNat q3.1, s.2.1 + 1, s.2.2) := fun hne => by
      refine sgm_fin (G := up2 I 307 h ((s.2.1 + 1 : Nat) : Int)) hs (put_R (by omega) (by show 1 * h ≤ h ∧ h < 1 * h + 1; omega)) (fun a a1 a2 => by rw [up2_off (by omega)]) (fun k _ => by rw [up2_r (by decide)]) m6 (ge_up g5 (by omega)) (fun _ _ => rfl) rfl (fun b p d t' l' lp' hr => ?_)
      obtain ⟨_, w2, w3, w4, w5, w6, _, _, w9⟩ := d
      exact ⟨by rw [up2_r (by decide)]; exact w2, by rw [up2_r (by decide)]; exact w3, ⟨up2_same, dlt t' l' lp' hr⟩, by rw [up2_r (by decide)]; exact w5, w6, fun h0 => absurd h0 (hne t' l' lp' hr)⟩
    by_cases g12 : 12 ≤ v2
    · rw [if_pos g12, Option.bind_some]
      exact ⟨_, J, rfl, onlyCount (fun t' l' lp' hr h0 => by have := (val t' l' lp' hr h0).2.2.1; omega)⟩
    rw [if_neg g12]
    by_cases g8 : 8 ≤ v3
    · rw [if_pos g8, Option.bind_some]
      exact ⟨_, J, rfl, onlyCount (fun t' l' lp' hr h0 => by have := (val t' l' lp' hr h0).2.1; omega)⟩
    rw [if_neg g8]
    have u19 : up2 M5 307 h ((s.2.1 + 1 : Nat) : Int) 296 19 = (h : Int) := by rw [up2_r (by decide)]; exact m19
    obtain ⟨y, hy⟩ : ∃ y : Nat, 12 * v3 + v2 = (y : Int) := ⟨(12 * v3 + v2).toNat, by omega⟩
    have ix : w32 (w32 (w32 (96 * (h : Int)) + w32 (12 * v3)) + v2) = ((96 * h + y : Nat) : Int) := by
      rw [w32i (x := 96 * (h : Int)) (by omega) (by omega), w32i (x := 12 * v3) (by omega) (by omega), w32i (x := 96 * (h : Int) + 12 * v3) (by omega) (by omega), w32i (by omega) (by omega)]
      omega
    rw [u19, ix, if_pos (by omega), Int.toNat_natCast, Option.bind_some]
    refine ⟨_, J, rfl, sgm_fin (G := up2 (up2 I 307 h ((s.2.1 + 1 : Nat) : Int)) 308 (96 * h + y) v4) hs (frR_trans (put_R (by omega) (by show 1 * h ≤ h ∧ h < 1 * h + 1; omega)) (put_R (by omega) (by show 96 * h ≤ 96 * h + y ∧ 96 * h + y < 96 * h + 96; omega))) (fun a a1 a2 => by rw [up2_off (by omega), up2_off (by omega)]) (fun k _ => by rw [up2_r (by decide), up2_r (by decide)]) (md_put (a := 308) (k := 96 * h + y) (v := v4) (by decide) m6) (ge_up g5 (by omega)) (fun _ _ => rfl) rfl (fun b p d t' l' lp' hr => ?_)⟩
    obtain ⟨_, w2, w3, w4, w5, w6, _, _, w9⟩ := d
    refine ⟨by rw [up2_r (by decide), up2_r (by decide)]; exact w2, by rw [up2_r (by decide), up2_r (by decide)]; exact w3, ⟨by rw [up2_r (by decide), up2_same], dlt t' l' lp' hr⟩, by rw [up2_r (by decide), up2_r (by decide)]; exact w5, w6, fun h0 => ?_⟩
    obtain ⟨y4, y3, y2, y0⟩ := val t' l' lp' hr h0
    have hq : (12 * q2.1 + q1.1).toNat = y := by omega
    show RvF (up2 (up2 I 307 h ((s.2.1 + 1 : Nat) : Int)) 308 (96 * h + y) v4) h (upR s.1 1 (12 * q2.1 + q1.1).toNat q3.1)
    rw [y4, hq]
    exact rvf_put (a := 1) (rvf_congr (w9 y0) (fun a _ _ a3 _ _ => up2_off a3)) (by decide)
  exact whole
theorem floodM (hh : h < 2) (h19 : I0 296 19 = (h : Int)) (hs : SgM B n nt h I0 J0 I J (.inr (t, l, lp), s)) (hk : Kt B n nt t = 261) : ∃ I' J', f_M_tell F I J = some (I', J') ∧ SgM B n nt h I0 J0 I' J' (stA B n nt (.inr (t, l, lp), s)) := by
  obtain ⟨c1, c2, c3, c4, c5⟩ := hs.2.1
  have hi := sg_19 h19 hs
  have ht := (tkm_at hs.1 c2 c1).1
  rw [hk, show mkK 261 = 25 from by decide] at ht
  have hst : stA B n nt (.inr (t, l, lp), s) = _ := (if_neg (show ¬ Kt B n nt t = 256 by omega)).trans ((if_neg (show ¬ Kt B n nt t = 257 by omega)).trans ((if_neg (show ¬ Kt B n nt t = 258 by omega)).trans ((if_neg (show ¬ Kt B n nt t = 259 by omega)).trans ((if_neg (show ¬ Kt B n nt t = 260 by omega)).trans (if_pos hk)))))
  rw [hst]
  obtain ⟨b0, p0, d0, _⟩ := hs.2.2.2.2 t l lp rfl
  obtain ⟨_, _, ⟨hd, hd0, hd8⟩, _⟩ := d0
  dsimp only at hd hd0 hd8
  unfold f_M_tell
  rw [c4, if_pos (by omega), Int.toNat_natCast, ht, if_neg (by decide), if_neg (by decide), if_neg (by decide), if_neg (by decide), if_neg (by decide), if_pos rfl, hi, if_pos (by omega), Int.toNat_natCast, hd]
  obtain ⟨M, e, m⟩ := roomM (F := F) (x := aF s.1) (y := 8) hs hk (by decide)
  rw [e, Option.bind_some]
  by_cases g8 : 8 ≤ aF s.1
  · rw [if_pos g8]
    rw [if_pos (by omega)] at m
    have m' : CtM B n nt M (.inl (2, PP B n nt t)) := m.2.1
    rw [if_pos (by rw [m'.2.1]; show ¬ (2 : Int) = 0; decide)]
    exact ⟨M, J, rfl, sgm_fin (G := I) (r' := .inl (2, PP B n nt t)) hs frR_refl (fun _ _ _ => rfl) (fun _ _ => rfl) m ge_inl (fun _ _ => rfl) rfl (fun b p d t' l' lp' hr => by cases hr)⟩
  rw [if_neg g8]
  rw [if_neg (by omega)] at m
  obtain ⟨w, hw⟩ : ∃ w : Nat, aF s.1 = (w : Int) := ⟨(aF s.1).toNat, by omega⟩
  have hwt : (aF s.1).toNat = w := by omega
  dsimp only
  rw [hwt]
  have k1 := fun t' l' lp' => takeA_inr (K := Kt B n nt) (P := PP B n nt) (k := 261) (r := .inr (t, l, lp)) (t := t') (l := l') (lp := lp')
  have g1 := ge_take (K := Kt B n nt) (P := PP B n nt) (k := 261) (ge_self (t := t) (l := l) (lp := lp))
  generalize takeA (Kt B n nt) (PP B n nt) 261 (.inr (t, l, lp)) = r1 at *
  by_cases g13 : M 296 13 = 0
  rotate_left
  · rw [if_pos g13]
    match r1, m with
    | .inr (t1, l1, lp1), m => exact absurd m.2.1.2.2.1 g13
    | .inl e', m => exact ⟨M, J, rfl, sgm_fin (G := I) (r' := .inl e') hs frR_refl (fun _ _ _ => rfl) (fun _ _ => rfl) m ge_inl (fun _ _ => rfl) rfl (fun b p d t' l' lp' hr => by cases hr)⟩
  rw [if_neg (fun hn => hn g13)]
  have m19 := md_19 m hi
  have m316 : M 316 h = aF s.1 := by rw [m.2.2.1 316 (by decide)]; exact hd
  have ix : w32 (w32 (8 * (h : Int)) + (w : Int)) = ((8 * h + w : Nat) : Int) := by rw [w32i (x := 8 * (h : Int)) (by omega) (by omega), w32i (by omega) (by omega)]; omega
  unfold f_M_tellFlood
  rw [m19, if_pos (by omega), Int.toNat_natCast, m316, hw, ix]
  obtain ⟨v2, M2, e2, m2, b2, b2', d2⟩ := md_bnd (F := F) (lo := 0) (hi := 199) (by decide) (by decide) m
  have g2 := ge_int (K := Kt B n nt) (P := PP B n nt) (V := Vt B n) (lo := 0) (hi := 199) g1
  generalize intA (Kt B n nt) (PP B n nt) (Vt B n) 0 199 r1 = q1 at *
  rw [e2, Option.bind_some, if_pos (by omega), Int.toNat_natCast]
  obtain ⟨v3, M3, e3, m3, b3, b3', d3⟩ := md_bnd (F := F) (lo := 1) (hi := 12) (by decide) (by decide) (md_put (a := 317) (k := 8 * h + w) (v := v2) (by decide) m2)
  have g3 := ge_int (K := Kt B n nt) (P := PP B n nt) (V := Vt B n) (lo := 1) (hi := 12) g2
  generalize intA (Kt B n nt) (PP B n nt) (Vt B n) 1 12 q1.2 = q2 at *
  obtain ⟨M4, e4, m4⟩ := md_must (F := F) (x := 59) (c := 4) (by unfold VK; omega) (by decide) (by decide) (md_put (a := 318) (k := 8 * h + w) (v := v3) (by decide) m3)
  have g4 := ge_take (K := Kt B n nt) (P := PP B n nt) (k := 59) g3
  rw [e3, Option.bind_some]
  dsimp only
  rw [e4, Option.bind_some]
  have val : ∀ t' l' lp', takeA (Kt B n nt) (PP B n nt) 59 q2.2 = .inr (t', l', lp') → l' = 0 → v3 = q2.1 ∧ v2 = q1.1 ∧ l = 0 := fun t' l' lp' hr h0 => by
    obtain ⟨t3, x3, _⟩ := takeA_inr hr
    obtain ⟨y3, t2, lp2, x2⟩ := d3 t3 l' lp' x3 h0
    obtain ⟨y2, t1, lp1, x1⟩ := d2 t2 0 lp2 x2 rfl
    obtain ⟨t0, x0, _⟩ := k1 t1 0 lp1 x1
    cases x0
    exact ⟨y3, y2, rfl⟩
  have f0 : FrR h I (up2 (up2 I 317 (8 * h + w) v2) 318 (8 * h + w) v3) := frR_trans (put_R (by omega) (by show 8 * h ≤ 8 * h + w ∧ 8 * h + w < 8 * h + 8; omega)) (put_R (by omega) (by show 8 * h ≤ 8 * h + w ∧ 8 * h + w < 8 * h + 8; omega))
  by_cases g14 : M4 296 13 = 0
  · have m19' : M4 296 19 = (h : Int) := md_19 m4 (by rw [up2_r (by decide), up2_r (by decide)]; exact hi)
    have m316' : M4 316 h = (w : Int) := by rw [m4.2.2.1 316 (by decide), up2_r (by decide), up2_r (by decide), hd]; exact hw
    rw [if_neg (fun hn => hn g14), m19', if_pos (by omega), Int.toNat_natCast, m316', w32i (by omega) (by omega), Option.bind_some]
    refine ⟨_, J, rfl, sgm_fin (G := up2 (up2 (up2 I 317 (8 * h + w) v2) 318 (8 * h + w) v3) 316 h ((w : Int) + 1)) hs (frR_trans f0 (put_R (by omega) (by show 1 * h ≤ h ∧ h < 1 * h + 1; omega))) (fun a a1 a2 => by rw [up2_off (by omega), up2_off (by omega), up2_off (by omega)]) (fun k _ => by rw [up2_r (by decide), up2_r (by decide), up2_r (by decide)]) (md_put (a := 316) (k := h) (v := (w : Int) + 1) (by decide) m4) (ge_up g4 (by omega)) (fun _ _ => rfl) rfl (fun b p d t' l' lp' hr => ?_)⟩
    obtain ⟨_, w2, w3, w4, w5, w6, _, _, w9⟩ := d
    have zf : aF (upR (upR (upR s.1 7 w q1.1) 8 w q2.1) 0 4 ((w : Int) + 1)) = (w : Int) + 1 := upR_s
    refine ⟨by rw [up2_r (by decide), up2_r (by decide), up2_r (by decide)]; exact w2, ?_, by rw [up2_r (by decide), up2_r (by decide), up2_r (by decide)]; exact w4, by rw [up2_r (by decide), up2_r (by decide), up2_r (by decide)]; exact w5, w6, fun h0 => ?_⟩
    · show up2 (up2 (up2 I 317 (8 * h + w) v2) 318 (8 * h + w) v3) 316 h ((w : Int) + 1) 316 h = aF (upR (upR (upR s.1 7 w q1.1) 8 w q2.1) 0 4 ((w : Int) + 1)) ∧ 0 ≤ aF (upR (upR (upR s.1 7 w q1.1) 8 w q2.1) 0 4 ((w : Int) + 1)) ∧ aF (upR (upR (upR s.1 7 w q1.1) 8 w q2.1) 0 4 ((w : Int) + 1)) ≤ 8
      rw [zf, up2_same]
      omega
    · obtain ⟨y3, y2, y0⟩ := val t' l' lp' hr h0
      rw [y3, y2]
      have p1 := rvf_put (a := 7) (k := w) (v := q1.1) (w9 y0) (by decide)
      have p2 := rvf_put (a := 8) (k := w) (v := q2.1) p1 (by decide)
      have zw : aF (upR (upR s.1 7 w q1.1) 8 w q2.1) = (w : Int) := hw
      have p3 := rvf_fl (m := w) p2 hw.symm (by
        show up2 (up2 I 317 (8 * h + w) q1.1) 318 (8 * h + w) q2.1 317 (8 * h + w) = _
        rw [up2_r (by decide), up2_same]
        exact ((upR_f (by decide)).trans upR_s).symm) (by
        show up2 (up2 I 317 (8 * h + w) q1.1) 318 (8 * h + w) q2.1 318 (8 * h + w) = _
        rw [up2_same]
        exact upR_s.symm)
      rw [zw] at p3
      exact rvf_congr p3 (fun a _ _ _ _ a5 => up2_off a5)
  · rw [if_pos g14, Option.bind_some]
    refine ⟨M4, J, rfl, sgm_fin (G := up2 (up2 I 317 (8 * h + w) v2) 318 (8 * h + w) v3) hs f0 (fun a a1 a2 => by rw [up2_off (by omega), up2_off (by omega)]) (fun k _ => by rw [up2_r (by decide), up2_r (by decide)]) m4 (ge_up g4 (by omega)) (fun _ _ => rfl) rfl (fun b p d t' l' lp' hr => ?_)⟩
    have := m4.2.1
    rw [hr] at this
    exact absurd this.2.2.1 g14
end
