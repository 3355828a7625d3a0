/-! texts: the model tells each statement -/
theorem md_19 {B : Nat → Int} {n nt h : Nat} {J G I : MI} {r : Ctl} (H : MdM B n nt J G I r) (hg : G 296 19 = (h : Int)) : I 296 19 = (h : Int) := by
  rw [H.2.2.2 19 (by decide) (by decide) (by decide) (by decide) (by decide)]; exact hg
section
variable {F n nt h t : Nat} {B : Nat → Int} {I0 J0 I J : MI} {l lp : Int} {s : RIV × Nat × (Nat → Nat)}
theorem sg_md (hs : SgM B n nt h I0 J0 I J (.inr (t, l, lp), s)) : MdM B n nt J I I (.inr (t, l, lp)) := ⟨hs.1, hs.2.1, fr5_refl⟩
theorem sg_19 (h19 : I0 296 19 = (h : Int)) (hs : SgM B n nt h I0 J0 I J (.inr (t, l, lp), s)) : I 296 19 = (h : Int) := by
  rw [hs.2.2.1.2.2 19 (by unfold keyR keyL keyE; omega)]; exact h19
theorem ge_self : Ge (.inr (t, l, lp)) t := fun a b c e => by cases e; exact Nat.le_refl _
theorem riverM (hh : h < 2) (h19 : I0 296 19 = (h : Int)) (hs : SgM B n nt h I0 J0 I J (.inr (t, l, lp), s)) (hk : Kt B n nt t = 256) : ∃ I' J', f_M_tell F I J = some (I', J') ∧ SgM B n nt h I0 J0 I' J' (stA B n nt (.inr (t, l, lp), s)) := by
  obtain ⟨c1, c2, c3, c4, c5⟩ := hs.2.1
  have hi := sg_19 h19 hs
  have ht := (tkm_at hs.1 c2 c1).1
  rw [hk, show mkK 256 = 20 from by decide] at ht
  have hst : stA B n nt (.inr (t, l, lp), s) = _ := if_pos hk
  rw [hst]
  unfold f_M_tell
  rw [c4, if_pos (by omega), Int.toNat_natCast, ht, if_pos rfl]
  obtain ⟨M1, e1, m1⟩ := md_go (F := F) (sg_md hs) hk (by decide)
  have k1 := fun t' l' lp' => takeA_inr (K := Kt B n nt) (P := PP B n nt) (k := 256) (r := .inr (t, l, lp)) (t := t') (l := l') (lp := lp')
  have g1 := ge_take (K := Kt B n nt) (P := PP B n nt) (k := 256) (ge_self (t := t) (l := l) (lp := lp))
  dsimp only
  generalize takeA (Kt B n nt) (PP B n nt) 256 (.inr (t, l, lp)) = r1 at *
  obtain ⟨v2, M2, e2, m2, b2, b2', d2⟩ := md_bnd (F := F) (lo := 1) (hi := 12) (by decide) (by decide) m1
  have g2 := ge_int (K := Kt B n nt) (P := PP B n nt) (V := Vt B n) (lo := 1) (hi := 12) g1
  generalize intA (Kt B n nt) (PP B n nt) (Vt B n) 1 12 r1 = q1 at *
  rw [e1, Option.bind_some, e2, Option.bind_some, md_19 m1 hi, if_pos (by omega), Int.toNat_natCast]
  dsimp only
  have e19 : up2 M2 305 h v2 296 19 = (h : Int) := by rw [up2_r (by decide)]; exact md_19 m2 hi
  obtain ⟨v3, M3, e3, m3, b3, b3', d3⟩ := md_bnd (F := F) (lo := 1) (hi := 8) (by decide) (by decide) (md_put (a := 305) (k := h) (v := v2) (by decide) m2)
  have g3 := ge_int (K := Kt B n nt) (P := PP B n nt) (V := Vt B n) (lo := 1) (hi := 8) g2
  generalize intA (Kt B n nt) (PP B n nt) (Vt B n) 1 8 q1.2 = q2 at *
  obtain ⟨M4, e4, m4⟩ := md_must (F := F) (x := 59) (c := 4) (by unfold VK; omega) (by decide) (by decide) (md_put (a := 306) (k := h) (v := v3) (by decide) m3)
  rw [e3, Option.bind_some, if_pos (by rw [e19]; omega), e19, Int.toNat_natCast, e4, Option.bind_some]
  refine ⟨M4, J, rfl, sgm_fin (G := up2 (up2 I 305 h v2) 306 h v3) hs (frR_trans (put_R (by omega) (by show 1 * h ≤ h ∧ h < 1 * h + 1; omega)) (put_R (by omega) (by show 1 * h ≤ h ∧ h < 1 * h + 1; omega))) (fun a a1 a2 => by rw [up2_off (by omega), up2_off (by omega)]) (fun k _ => by rw [up2_r (by decide), up2_r (by decide)]) m4 (ge_up (ge_take g3) (by omega)) (fun _ _ => rfl) rfl (fun b p d t' l' lp' hr => ?_)⟩
  obtain ⟨_, w2, w3, w4, w5, w6, _, _, w9⟩ := d
  refine ⟨by rw [up2_r (by decide), up2_r (by decide)]; exact w2, by rw [up2_r (by decide), up2_r (by decide)]; exact w3, by rw [up2_r (by decide), up2_r (by decide)]; exact w4, by rw [up2_r (by decide), up2_r (by decide)]; exact w5, w6, fun h0 => ?_⟩
  obtain ⟨t3, x3, _⟩ := takeA_inr hr
  obtain ⟨y3, t2, lp2, x2⟩ := d3 t3 l' lp' x3 h0
  obtain ⟨y2, t1, lp1, x1⟩ := d2 t2 0 lp2 x2 rfl
  obtain ⟨t0, x0, _⟩ := k1 t1 0 lp1 x1
  cases x0
  rw [y3, y2]
  exact rvf_put0 (j := 1) (rvf_put0 (j := 0) (w9 rfl) (by decide)) (by decide)
theorem leapM (hh : h < 2) (h19 : I0 296 19 = (h : Int)) (hs : SgM B n nt h I0 J0 I J (.inr (t, l, lp), s)) (hk : Kt B n nt t = 259) : ∃ I' J', f_M_tell F I J = some (I', J') ∧ SgM B n nt h I0 J0 I' J' (stA B n nt (.inr (t, l, lp), s)) := by
  obtain ⟨c1, c2, c3, c4, c5⟩ := hs.2.1
  have hi := sg_19 h19 hs
  have ht := (tkm_at hs.1 c2 c1).1
  rw [hk, show mkK 259 = 23 from by decide] at ht
  have hst : stA B n nt (.inr (t, l, lp), s) = _ := (if_neg (show ¬ Kt B n nt t = 256 by omega)).trans ((if_neg (show ¬ Kt B n nt t = 257 by omega)).trans ((if_neg (show ¬ Kt B n nt t = 258 by omega)).trans (if_pos hk)))
  rw [hst]
  unfold f_M_tell
  rw [c4, if_pos (by omega), Int.toNat_natCast, ht, if_neg (by decide), if_neg (by decide), if_neg (by decide), if_pos rfl]
  obtain ⟨M1, e1, m1⟩ := md_go (F := F) (sg_md hs) hk (by decide)
  have k1 := fun t' l' lp' => takeA_inr (K := Kt B n nt) (P := PP B n nt) (k := 259) (r := .inr (t, l, lp)) (t := t') (l := l') (lp := lp')
  have g1 := ge_take (K := Kt B n nt) (P := PP B n nt) (k := 259) (ge_self (t := t) (l := l) (lp := lp))
  dsimp only
  generalize takeA (Kt B n nt) (PP B n nt) 259 (.inr (t, l, lp)) = r1 at *
  obtain ⟨v2, M2, e2, m2, b2, b2', d2⟩ := md_bnd (F := F) (lo := 1) (hi := 4) (by decide) (by decide) m1
  have g2 := ge_int (K := Kt B n nt) (P := PP B n nt) (V := Vt B n) (lo := 1) (hi := 4) g1
  generalize intA (Kt B n nt) (PP B n nt) (Vt B n) 1 4 r1 = q1 at *
  rw [e1, Option.bind_some, e2, Option.bind_some, md_19 m1 hi, if_pos (by omega), Int.toNat_natCast]
  obtain ⟨M4, e4, m4⟩ := md_must (F := F) (x := 59) (c := 4) (by unfold VK; omega) (by decide) (by decide) (md_put (a := 310) (k := h) (v := v2) (by decide) m2)
  rw [e4, Option.bind_some]
  refine ⟨M4, J, rfl, sgm_fin (G := up2 I 310 h v2) hs (put_R (by omega) (by show 1 * h ≤ h ∧ h < 1 * h + 1; omega)) (fun a a1 a2 => by rw [up2_off (by omega)]) (fun k _ => by rw [up2_r (by decide)]) m4 (ge_up (ge_take g2) (by omega)) (fun _ _ => rfl) rfl (fun b p d t' l' lp' hr => ?_)⟩
  obtain ⟨_, w2, w3, w4, w5, w6, _, _, w9⟩ := d
  refine ⟨by rw [up2_r (by decide)]; exact w2, by rw [up2_r (by decide)]; exact w3, by rw [up2_r (by decide)]; exact w4, by rw [up2_r (by decide)]; exact w5, w6, fun h0 => ?_⟩
  obtain ⟨t3, x3, _⟩ := takeA_inr hr
  obtain ⟨y2, t1, lp1, x1⟩ := d2 t3 l' lp' x3 h0
  obtain ⟨t0, x0, _⟩ := k1 t1 0 lp1 x1
  cases x0
  rw [y2]
  exact rvf_put0 (j := 2) (w9 rfl) (by decide)
theorem flowM (hh : h < 2) (h19 : I0 296 19 = (h : Int)) (hs : SgM B n nt h I0 J0 I J (.inr (t, l, lp), s)) (hk : Kt B n nt t = 258) : ∃ I' J', f_M_tell F I J = some (I', J') ∧ SgM B n nt h I0 J0 I' J' (stA B n nt (.inr (t, l, lp), s)) := by
  obtain ⟨c1, c2, c3, c4, c5⟩ := hs.2.1
  have hi := sg_19 h19 hs
  have ht := (tkm_at hs.1 c2 c1).1
  rw [hk, show mkK 258 = 22 from by decide] at ht
  have hst : stA B n nt (.inr (t, l, lp), s) = _ := (if_neg (show ¬ Kt B n nt t = 256 by omega)).trans ((if_neg (show ¬ Kt B n nt t = 257 by omega)).trans (if_pos hk))
  rw [hst]
  unfold f_M_tell
  rw [c4, if_pos (by omega), Int.toNat_natCast, ht, if_neg (by decide), if_neg (by decide), if_pos rfl]
  obtain ⟨M1, e1, m1⟩ := md_go (F := F) (sg_md hs) hk (by decide)
  have k1 := fun t' l' lp' => takeA_inr (K := Kt B n nt) (P := PP B n nt) (k := 258) (r := .inr (t, l, lp)) (t := t') (l := l') (lp := lp')
  have g1 := ge_take (K := Kt B n nt) (P := PP B n nt) (k := 258) (ge_self (t := t) (l := l) (lp := lp))
  dsimp only
  generalize takeA (Kt B n nt) (PP B n nt) 258 (.inr (t, l, lp)) = r1 at *
  obtain ⟨v2, M2, e2, m2, b2, b2', d2⟩ := md_bnd (F := F) (lo := 0) (hi := 7) (by decide) (by decide) m1
  have g2 := ge_int (K := Kt B n nt) (P := PP B n nt) (V := Vt B n) (lo := 0) (hi := 7) g1
  have bd := intA_bd (K := Kt B n nt) (P := PP B n nt) (V := Vt B n) (lo := 0) (hi := 7) (r := r1) (by decide)
  generalize intA (Kt B n nt) (PP B n nt) (Vt B n) 0 7 r1 = q1 at *
  obtain ⟨v3, M3, e3, m3, b3, b3', d3⟩ := md_bnd (F := F) (lo := 0) (hi := 9) (by decide) (by decide) m2
  have g3 := ge_int (K := Kt B n nt) (P := PP B n nt) (V := Vt B n) (lo := 0) (hi := 9) g2
  generalize intA (Kt B n nt) (PP B n nt) (Vt B n) 0 9 q1.2 = q2 at *
  obtain ⟨M4, e4, m4⟩ := md_must (F := F) (x := 59) (c := 4) (by unfold VK; omega) (by decide) (by decide) m3
  rw [e1, Option.bind_some, e2, Option.bind_some, e3, Option.bind_some, e4, Option.bind_some, md_19 m4 hi]
  have val : ∀ t' l' lp', takeA (Kt B n nt) (PP B n nt) 59 q2.2 = .inr (t', l', lp') → l' = 0 → v3 = q2.1 ∧ v2 = q1.1 ∧ l = 0 := fun t' l' lp' hr h0 => by
    obtain ⟨t3, x3, _⟩ := takeA_inr hr
    obtain ⟨y3, t2, lp2, x2⟩ := d3 t3 l' lp' x3 h0
    obtain ⟨y2, t1, lp1, x1⟩ := d2 t2 0 lp2 x2 rfl
    obtain ⟨t0, x0, _⟩ := k1 t1 0 lp1 x1
    cases x0
    exact ⟨y3, y2, rfl⟩
  have keep : (∀ t' l' lp', takeA (Kt B n nt) (PP B n nt) 59 q2.2 = .inr (t', l', lp') → l' ≠ 0) → SgM B n nt h I0 J0 M4 J (takeA (Kt B n nt) (PP B n nt) 59 q2.2, upR s.1 2 q1.1.toNat q2.1, s.2.1, s.2.2) := fun hne => by
    refine sgm_fin (G := I) hs frR_refl (fun _ _ _ => rfl) (fun _ _ => rfl) m4 (ge_up (ge_take g3) (by omega)) (fun _ _ => rfl) rfl (fun b p d t' l' lp' hr => ?_)
    obtain ⟨_, w2, w3, w4, w5, w6, _, _, w9⟩ := d
    exact ⟨w2, w3, w4, w5, w6, fun h0 => absurd h0 (hne t' l' lp' hr)⟩
  by_cases g13 : M4 296 13 = 0
  · rw [if_neg (fun hn => hn g13)]
    by_cases g8 : 8 ≤ v2
    · rw [if_pos g8]
      exact ⟨M4, J, rfl, keep (fun t' l' lp' hr h0 => by
        have := (val t' l' lp' hr h0).2.1
        omega)⟩
    · rw [if_neg g8, w32i (x := 8 * (h : Int)) (by omega) (by omega), w32i (by omega) (by omega), if_pos (by omega)]
      obtain ⟨y, hy⟩ : ∃ y : Nat, v2 = (y : Int) := ⟨v2.toNat, by omega⟩
      have ix : (8 * (h : Int) + v2).toNat = 8 * h + y := by omega
      rw [ix]
      refine ⟨_, J, rfl, sgm_fin (G := up2 I 309 (8 * h + y) v3) hs (put_R (by omega) (by show 8 * h ≤ 8 * h + y ∧ 8 * h + y < 8 * h + 8; omega)) (fun a a1 a2 => by rw [up2_off (by omega)]) (fun k _ => by rw [up2_r (by decide)]) (md_put (a := 309) (k := 8 * h + y) (v := v3) (by decide) m4) (ge_up (ge_take g3) (by omega)) (fun _ _ => rfl) rfl (fun b p d t' l' lp' hr => ?_)⟩
      obtain ⟨_, w2, w3, w4, w5, w6, _, _, w9⟩ := d
      refine ⟨by rw [up2_r (by decide)]; exact w2, by rw [up2_r (by decide)]; exact w3, by rw [up2_r (by decide)]; exact w4, by rw [up2_r (by decide)]; exact w5, w6, fun h0 => ?_⟩
      obtain ⟨y3, y2, y0⟩ := val t' l' lp' hr h0
      have hq : q1.1.toNat = y := by omega
      show RvF (up2 I 309 (8 * h + y) v3) h (upR s.1 2 q1.1.toNat q2.1)
      rw [y3, hq]
      exact rvf_put (a := 2) (w9 y0) (by decide)
  · rw [if_pos g13]
    exact ⟨M4, J, rfl, keep (fun t' l' lp' hr h0 => by
      have := m4.2.1
      rw [hr] at this
      exact g13 this.2.2.1)⟩
theorem otherM (hs : SgM B n nt h I0 J0 I J (.inr (t, l, lp), s)) (hk : ¬ (256 ≤ Kt B n nt t ∧ Kt B n nt t ≤ 263)) : ∃ I' J', f_M_tell F I J = some (I', J') ∧ SgM B n nt h I0 J0 I' J' (stA B n nt (.inr (t, l, lp), s)) := by
  obtain ⟨c1, c2, c3, c4, c5⟩ := hs.2.1
  have ht := (tkm_at hs.1 c2 c1).1
  have hst : stA B n nt (.inr (t, l, lp), s) = _ := (if_neg (show ¬ Kt B n nt t = 256 by omega)).trans ((if_neg (show ¬ Kt B n nt t = 257 by omega)).trans ((if_neg (show ¬ Kt B n nt t = 258 by omega)).trans ((if_neg (show ¬ Kt B n nt t = 259 by omega)).trans ((if_neg (show ¬ Kt B n nt t = 260 by omega)).trans ((if_neg (show ¬ Kt B n nt t = 261 by omega)).trans ((if_neg (show ¬ Kt B n nt t = 262 by omega)).trans (if_neg (show ¬ Kt B n nt t = 263 by omega))))))))
  rw [hst]
  have nk : ∀ x y : Int, VK x → mkK x = y → 256 ≤ x → x ≤ 263 → ¬ mkK (Kt B n nt t) = y := fun x y hx hy x1 x2 he => by
    have := (mk_iff Kt_VK hx).mp (he.trans hy.symm)
    omega
  unfold f_M_tell
  rw [c4, if_pos (by omega), Int.toNat_natCast, ht, if_neg (nk 256 20 (by unfold VK; omega) (by decide) (by omega) (by omega)), if_neg (nk 257 21 (by unfold VK; omega) (by decide) (by omega) (by omega)), if_neg (nk 258 22 (by unfold VK; omega) (by decide) (by omega) (by omega)), if_neg (nk 259 23 (by unfold VK; omega) (by decide) (by omega) (by omega)), if_neg (nk 260 24 (by unfold VK; omega) (by decide) (by omega) (by omega)), if_neg (nk 261 25 (by unfold VK; omega) (by decide) (by omega) (by omega)), if_neg (nk 262 26 (by unfold VK; omega) (by decide) (by omega) (by omega)), if_neg (nk 263 27 (by unfold VK; omega) (by decide) (by omega) (by omega))]
  obtain ⟨M, e, m⟩ := md_fail (F := F) (w := 1) (by decide) (sg_md hs)
  rw [e, Option.bind_some]
  exact ⟨M, J, rfl, sgm_fin (G := I) hs frR_refl (fun _ _ _ => rfl) (fun _ _ => rfl) m ge_fail (fun _ _ => rfl) rfl (fun b p d t' l' lp' hr => by cases hr)⟩
theorem roomM {x y : Int} {k : Int} (hs : SgM B n nt h I0 J0 I J (.inr (t, l, lp), s)) (hk : Kt B n nt t = k) (h3 : k ≠ 302) : ∃ M, f_M_roomFor F x y I J = some M ∧ MdM B n nt J I M (takeA (Kt B n nt) (PP B n nt) k (if x = y then failA (PP B n nt) 2 (.inr (t, l, lp)) else (.inr (t, l, lp)))) := by
  unfold f_M_roomFor f_M_roomFor_b10
  by_cases g : x = y
  · rw [if_neg (fun hn => hn g), if_pos g]
    obtain ⟨M, e, m⟩ := md_fail (F := F) (w := 2) (by decide) (sg_md hs)
    rw [e, Option.bind_some]
    have m' : CtM B n nt M (.inl (2, PP B n nt t)) := m.2.1
    rw [if_pos (by rw [m'.2.1]; show ¬ (2 : Int) = 0; decide)]
    exact ⟨M, rfl, m⟩
  · rw [if_pos g, if_neg g, if_neg (by simp [hs.2.1.2.2.1])]
    obtain ⟨M, e, m⟩ := md_go (F := F) (sg_md hs) hk h3
    rw [e, Option.bind_some]
    exact ⟨M, rfl, m⟩
end
