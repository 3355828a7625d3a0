/-! texts: the model reads a law, whole -/
section
variable {F n nt h : Nat} {B : Nat → Int} {J : MI}
theorem frE_w {p p2 b h : Nat} {I I' : MI} (hf : FrE p2 h I I') {q : Nat} {c : LCode} (hq : q + c.length ≤ p2) (hs : SegR (I 326) (I 327) q c) : SegR (I' 326) (I' 327) q c := seg_congr hs (fun k k1 k2 => (hf.2.1 k (by omega)).1) (fun k k1 k2 => (hf.2.1 k (by omega)).2)
theorem ifM {M : MI} {r : Ctl} {b p : Nat} {x1 x2 x3 : Int} (hF : 1000000 ≤ F) (hh : h < 2) (hT : TkM M J B n nt) (H : StL B n nt h M r b p) (hr : ∃ t l lp, r = .inr (t, l, lp) ∧ Kt B n nt t = 264) (hb : b < 130 * h + 130) : ∃ M', f_M_tellLaw_b38in12 F x1 x2 x3 M J = some (.inr (w32 (x3 + 1), M')) ∧ StL B n nt h M' (ifA B n nt r).1 (b + 1) (p + lenQ [(ifA B n nt r).2]) ∧ FrW b p h M M' ∧ ∀ t l lp, (ifA B n nt r).1 = .inr (t, l, lp) → BrL M' b p [(ifA B n nt r).2] := by
  obtain ⟨t, l, lp, hr, hk⟩ := hr
  subst hr
  unfold f_M_tellLaw_b38in12
  rw [if_pos (by rw [H.1.2.2.1]; omega)]
  obtain ⟨N1, e1, a1, f1⟩ := goesM (F := F) hT H.1 (fun t' l' lp' e => by cases e; omega)
  have hgo : goA (PP B n nt) (.inr (t, l, lp)) = takeA (Kt B n nt) (PP B n nt) 264 (.inr (t, l, lp)) := (if_pos hk).symm
  rw [hgo] at a1
  have H1 : StL B n nt h N1 (takeA (Kt B n nt) (PP B n nt) 264 (.inr (t, l, lp))) b p := by
    refine ⟨a1, by rw [f1.2 38 (by decide) (by decide) (by decide) (by decide) (by decide)]; exact H.2.1, fun t' l' lp' hx => ?_⟩
    obtain ⟨t0, e, e2, _⟩ := takeA_inr hx
    obtain ⟨k1, k2, k3⟩ := H.2.2 t0 l' lp' e
    exact ⟨by rw [f1.2 12 (by decide) (by decide) (by decide) (by decide) (by decide)]; exact k1, by rw [f1.2 44 (by decide) (by decide) (by decide) (by decide) (by decide)]; exact k2, by omega⟩
  have hif : ifA B n nt (.inr (t, l, lp)) = (takeA (Kt B n nt) (PP B n nt) 266 (exA B n nt (takeA (Kt B n nt) (PP B n nt) 265 (exA B n nt (takeA (Kt B n nt) (PP B n nt) 60 (exA B n nt (takeA (Kt B n nt) (PP B n nt) 264 (.inr (t, l, lp)))).1)).1)).1, ((exA B n nt (takeA (Kt B n nt) (PP B n nt) 264 (.inr (t, l, lp)))).2, (exA B n nt (takeA (Kt B n nt) (PP B n nt) 60 (exA B n nt (takeA (Kt B n nt) (PP B n nt) 264 (.inr (t, l, lp)))).1)).2, (exA B n nt (takeA (Kt B n nt) (PP B n nt) 265 (exA B n nt (takeA (Kt B n nt) (PP B n nt) 60 (exA B n nt (takeA (Kt B n nt) (PP B n nt) 264 (.inr (t, l, lp)))).1)).1)).2)) := rfl
  rw [hif]
  generalize takeA (Kt B n nt) (PP B n nt) 264 (.inr (t, l, lp)) = r1 at *
  have g1 : FrW b p h M N1 := fr5_W f1
  rw [e1, Option.bind_some, H1.2.1, if_pos (by omega), Int.toNat_natCast, up2_r (show (296 : Nat) ≠ 321 by decide), H1.2.1, if_pos (by omega), Int.toNat_natCast, up2_r (show (296 : Nat) ≠ 321 by decide)]
  have H1' := stl_put (a := 322) (k := b) (v := N1 296 44) (by decide) (stl_put (a := 321) (k := b) (v := 1) (by decide) H1)
  have g1' : FrW b p h M (up2 (up2 N1 321 b 1) 322 b (N1 296 44)) := frW_trans (Nat.le_refl _) (Nat.le_refl _) g1 (frW_trans (Nat.le_refl _) (Nat.le_refl _) (put_W (by omega) (by omega)) (put_W (by omega) (by omega)))
  have z1 : up2 (up2 N1 321 b 1) 322 b (N1 296 44) 321 b = 1 := by rw [up2_r (by decide), up2_same]
  have z2 : up2 (up2 N1 321 b 1) 322 b (N1 296 44) 322 b = N1 296 44 := up2_same
  generalize up2 (up2 N1 321 b 1) 322 b (N1 296 44) = Z1 at *
  obtain ⟨N2, e2, H2, f2, s2⟩ := stl_ex (F := F) hF hh (tkm_W hT g1') H1'
  have k1 := fun t l lp => exA_inr (B := B) (n := n) (nt := nt) (r := r1) (t := t) (l := l) (lp := lp)
  generalize exA B n nt r1 = q1 at *
  have g2 : FrW b p h M N2 := frW_trans (Nat.le_refl _) (Nat.le_refl _) g1' (frE_W f2)
  obtain ⟨N3, e3, H3, f3⟩ := stl_must (F := F) (x := 60) (c := 13) (tkm_W hT g2) (by unfold VK; omega) (by decide) (by decide) H2
  have g3 : FrW b p h M N3 := frW_trans (Nat.le_refl _) (Nat.le_refl _) g2 (fr5_W f3)
  have k3 := fun t l lp => takeA_inr (K := Kt B n nt) (P := PP B n nt) (k := 60) (r := q1.1) (t := t) (l := l) (lp := lp)
  generalize takeA (Kt B n nt) (PP B n nt) 60 q1.1 = r3 at *
  rw [e2, Option.bind_some, e3, Option.bind_some, H3.2.1, if_pos (by omega), Int.toNat_natCast]
  have H3' := stl_put (a := 323) (k := b) (v := N3 296 44) (by decide) H3
  have g3' : FrW b p h M (up2 N3 323 b (N3 296 44)) := frW_trans (Nat.le_refl _) (Nat.le_refl _) g3 (put_W (by omega) (by omega))
  have z3 : up2 N3 323 b (N3 296 44) 323 b = N3 296 44 := up2_same
  have z31 : up2 N3 323 b (N3 296 44) 321 b = 1 := by rw [up2_r (by decide), f3.1 321 (by decide), f2.1 321 (by decide) (by decide) (by decide) (by decide)]; exact z1
  have z32 : up2 N3 323 b (N3 296 44) 322 b = N1 296 44 := by rw [up2_r (by decide), f3.1 322 (by decide), f2.1 322 (by decide) (by decide) (by decide) (by decide)]; exact z2
  have s3 : ∀ t l lp, q1.1 = .inr (t, l, lp) → SegR (up2 N3 323 b (N3 296 44) 326) (up2 N3 323 b (N3 296 44) 327) p q1.2 := fun t l lp hx => by
    rw [up2_off (by decide), up2_off (by decide), f3.1 326 (by decide), f3.1 327 (by decide)]
    exact s2 t l lp hx
  generalize up2 N3 323 b (N3 296 44) = Z3 at *
  have k4 := fun t l lp => exA_inr (B := B) (n := n) (nt := nt) (r := r3) (t := t) (l := l) (lp := lp)
  have rest : ∀ N4 : MI, StL B n nt h N4 (exA B n nt r3).1 b (p + q1.2.length + (exA B n nt r3).2.length) → FrE (p + q1.2.length) h Z3 N4 → (∀ t l lp, (exA B n nt r3).1 = .inr (t, l, lp) → SegR (N4 326) (N4 327) (p + q1.2.length) (exA B n nt r3).2) → ∃ M', f_M_tellLaw_b110in12 F x1 x2 (w32 (x3 + 1)) N4 J = some (.inr (w32 (x3 + 1), M')) ∧ StL B n nt h M' (takeA (Kt B n nt) (PP B n nt) 266 (exA B n nt (takeA (Kt B n nt) (PP B n nt) 265 (exA B n nt r3).1)).1) (b + 1) (p + lenQ [(q1.2, (exA B n nt r3).2, (exA B n nt (takeA (Kt B n nt) (PP B n nt) 265 (exA B n nt r3).1)).2)]) ∧ FrW b p h M M' ∧ ∀ t l lp, takeA (Kt B n nt) (PP B n nt) 266 (exA B n nt (takeA (Kt B n nt) (PP B n nt) 265 (exA B n nt r3).1)).1 = .inr (t, l, lp) → BrL M' b p [(q1.2, (exA B n nt r3).2, (exA B n nt (takeA (Kt B n nt) (PP B n nt) 265 (exA B n nt r3).1)).2)] := by
    intro N4 H4 f4 s4
    generalize exA B n nt r3 = q2 at *
    have g4 : FrW b p h M N4 := frW_trans (Nat.le_refl _) (by omega) g3' (frE_W (b := b) f4)
    obtain ⟨N5, e5, H5, f5⟩ := stl_must (F := F) (x := 265) (c := 29) (tkm_W hT g4) (by unfold VK; omega) (by decide) (by decide) H4
    have k5 := fun t l lp => takeA_inr (K := Kt B n nt) (P := PP B n nt) (k := 265) (r := q2.1) (t := t) (l := l) (lp := lp)
    generalize takeA (Kt B n nt) (PP B n nt) 265 q2.1 = r5 at *
    have g5 : FrW b p h M N5 := frW_trans (Nat.le_refl _) (Nat.le_refl _) g4 (fr5_W f5)
    obtain ⟨N6, e6, H6, f6, y6, d6⟩ := termM (F := F) hF hh (tkm_W hT g5) H5 hb
    have k6 := fun t l lp => exA_inr (B := B) (n := n) (nt := nt) (r := r5) (t := t) (l := l) (lp := lp)
    generalize exA B n nt r5 = q3 at *
    have g6 : FrW b p h M N6 := frW_trans (Nat.le_refl _) (by omega) g5 f6
    obtain ⟨N7, e7, H7, f7⟩ := stl_must (F := F) (x := 266) (c := 30) (tkm_W hT g6) (by unfold VK; omega) (by decide) (by decide) H6
    have k7 := fun t l lp => takeA_inr (K := Kt B n nt) (P := PP B n nt) (k := 266) (r := q3.1) (t := t) (l := l) (lp := lp)
    generalize takeA (Kt B n nt) (PP B n nt) 266 q3.1 = r7 at *
    unfold f_M_tellLaw_b110in12
    rw [e5, Option.bind_some, e6, Option.bind_some, e7, Option.bind_some]
    have hlen : p + lenQ [(q1.2, q2.2, q3.2)] = p + q1.2.length + q2.2.length + q3.2.length := by
      show p + (q1.2.length + q2.2.length + q3.2.length + 0) = _
      omega
    rw [hlen]
    refine ⟨N7, rfl, H7, frW_trans (Nat.le_refl _) (Nat.le_refl _) g6 (fr5_W f7), fun t l lp hx => ⟨?_, trivial⟩⟩
    obtain ⟨t6, x6, _⟩ := k7 t l lp hx
    obtain ⟨t5, x5, _⟩ := k6 t6 l lp x6
    obtain ⟨t4, x4, _⟩ := k5 t5 l lp x5
    obtain ⟨t3, x3', _⟩ := k4 t4 l lp x4
    obtain ⟨t2, x2', _⟩ := k3 t3 l lp x3'
    obtain ⟨t1, x1', _⟩ := k1 t2 l lp x2'
    obtain ⟨d61, d62, d63⟩ := d6 t6 l lp x6
    have w : ∀ a, 321 ≤ a → a ≤ 323 → N7 a b = Z3 a b := fun a a1 a2 => by rw [f7.1 a (by omega), y6 a a1 a2, f5.1 a (by omega), f4.1 a (by omega) (by omega) (by omega) (by omega)]
    have sg : ∀ q (c : LCode), q + c.length ≤ p + q1.2.length + q2.2.length → SegR (N4 326) (N4 327) q c → SegR (N7 326) (N7 327) q c := fun q c hq hs => by
      rw [f7.1 326 (by decide), f7.1 327 (by decide)]
      refine seg_congr hs (fun k j1 j2 => ?_) (fun k j1 j2 => ?_)
      · rw [(f6.2.2.1 k (by omega)).1, f5.1 326 (by decide)]
      · rw [(f6.2.2.1 k (by omega)).2, f5.1 327 (by decide)]
    refine ⟨by rw [w 321 (by omega) (by omega)]; exact z31, by rw [w 322 (by omega) (by omega), z32]; exact (H1.2.2 t1 l lp x1').2.1, by rw [w 323 (by omega) (by omega), z3]; exact (H3.2.2 t3 l lp x3').2.1, by rw [f7.1 324 (by decide)]; exact d61, by rw [f7.1 325 (by decide)]; exact d62, sg _ _ (by omega) ?_, sg _ _ (by omega) (s4 t4 l lp x4), by rw [f7.1 326 (by decide), f7.1 327 (by decide)]; exact d63⟩
    exact frE_w (p := p) (b := b) f4 (Nat.le_refl _) (s3 t2 l lp x2')
  match r3, H3', rest with
  | .inl e, H3', rest =>
    rw [if_pos (by have := H3'.1.1; rw [H3'.1.2.1]; omega)]
    exact rest Z3 H3' frE_refl (fun t l lp e => by cases e)
  | .inr (t3, l3, lp3), H3', rest =>
    rw [if_neg (by simp [H3'.1.2.2.1])]
    obtain ⟨N4, e4, n1, n2, n3⟩ := stl_ex (F := F) hF hh (tkm_W hT g3') H3'
    rw [e4, Option.bind_some]
    exact rest N4 n1 n2 n3
end
