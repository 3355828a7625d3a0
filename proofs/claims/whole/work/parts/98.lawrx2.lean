/-! texts: the class reads a law, whole -/
theorem lawL_dead {B : Nat → Int} {n nt : Nat} {e : Int × Int} {acc : List (LCode × LCode × LCode)} : ∀ f j, (lawL B n nt f j (.inl e) acc).1 = .inl e
  | 0, _ => rfl
  | _ + 1, _ => rfl
theorem readLawX {F n nt w t : Nat} (hF : 1000000 ≤ F) (hw : 10 < w) {B : Nat → Int} {I : MI} {l lp : Int} (hT : TkX I B n nt) (hC : CtX nt I (.inr (t, l, lp))) (hk : Kt B n nt t ≠ 302) : ∃ I', f_E_readLaw F w I = some I' ∧ CtX nt I' (lawA B n nt (Kt B n nt t) (.inr (t, l, lp))).1 ∧ FrL w I I' ∧ (∃ p' : Nat, p' ≤ 402 ∧ I' w 4 = (p' : Int)) ∧ ∀ t' l' lp', (lawA B n nt (Kt B n nt t) (.inr (t, l, lp))).1 = .inr (t', l', lp') → l' = l ∧ lp' = lp ∧ t < t' ∧ LawX I' w (lawA B n nt (Kt B n nt t) (.inr (t, l, lp))).2 := by
  unfold f_E_readLaw f_W_clear
  rw [Option.bind_some]
  have g0 : FrL w I (up2 I w 4 0) := ⟨fun a c1 c2 c3 c4 => up2_off c2, fun j _ _ _ => by rw [up2_off (by omega)], fun k hk => up2_k hk⟩
  have a0 := cx_put (I' := up2 I w 4 0) hw hC (fun a c1 c2 c3 => up2_off c1)
  have p0 : up2 I w 4 0 w 4 = ((0 : Nat) : Int) := up2_same
  have hT0 := tkx_L hw hT g0
  have hat : (up2 I w 4 0) 4 1 = (t : Int) := a0.2.2.2.1
  have h400 := hC.1
  rw [hat, if_pos (by omega), Int.toNat_natCast, (tkx_at hT0 hC.2.1).1]
  generalize up2 I w 4 0 = I0 at *
  obtain ⟨M1, e1, a1, f1⟩ := takeX (F := F) (k := Kt B n nt t) hT0 a0 hk
  have g1 := frL_trans g0 (fr4_L (w := w) (by omega) f1)
  obtain ⟨M2, e2, a2, f2⟩ := takeX (F := F) (k := 61) (tkx_L hw hT g1) a1 (by decide)
  have g2 := frL_trans g1 (fr4_L (w := w) (by omega) f2)
  have p2 : M2 w 4 = ((0 : Nat) : Int) := by rw [f2.1 w (by omega), f1.1 w (by omega)]; exact p0
  rw [e1, Option.bind_some, e2, Option.bind_some]
  show ∃ I', ((iter (fun s : Int × MI => f_E_readLaw_L28 F w s.1 s.2) F (0, M2)).bind fun e51 => ((f_E_readSum 10 F w 0 e51).bind fun q54 => ((f_W_put F w 7 0 q54).bind fun q57 => ((f_E_take F 59 q57.2).bind fun q60 => (some q60))))) = some I' ∧ CtX nt I' (lawL B n nt 5 0 (takeA (Kt B n nt) (PP B n nt) 61 (takeA (Kt B n nt) (PP B n nt) (Kt B n nt t) (.inr (t, l, lp)))) []).1 ∧ FrL w I I' ∧ (∃ p' : Nat, p' ≤ 402 ∧ I' w 4 = (p' : Int)) ∧ ∀ t' l' lp', (lawL B n nt 5 0 (takeA (Kt B n nt) (PP B n nt) 61 (takeA (Kt B n nt) (PP B n nt) (Kt B n nt t) (.inr (t, l, lp)))) []).1 = .inr (t', l', lp') → l' = l ∧ lp' = lp ∧ t < t' ∧ LawX I' w (lawL B n nt 5 0 (takeA (Kt B n nt) (PP B n nt) 61 (takeA (Kt B n nt) (PP B n nt) (Kt B n nt t) (.inr (t, l, lp)))) []).2
  have hr0 : ∀ t' l' lp', takeA (Kt B n nt) (PP B n nt) 61 (takeA (Kt B n nt) (PP B n nt) (Kt B n nt t) (.inr (t, l, lp))) = .inr (t', l', lp') → l' = l ∧ lp' = lp ∧ t' = t + 2 := fun t' l' lp' h => by
    obtain ⟨t1, h1, h2, _⟩ := takeA_inr h
    obtain ⟨t0, h3, h4, _⟩ := takeA_inr h1
    cases h3
    exact ⟨rfl, rfl, by omega⟩
  generalize hR0 : takeA (Kt B n nt) (PP B n nt) 61 (takeA (Kt B n nt) (PP B n nt) (Kt B n nt t) (.inr (t, l, lp))) = r0 at *
  generalize hR : lawL B n nt 5 0 r0 [] = R
  have key := wpo_iter (step := fun s : Int × MI => f_E_readLaw_L28 F w s.1 s.2) (Q := fun M => ∃ (r1 : Ctl) (acc : List (LCode × LCode × LCode)), CtX nt M r1 ∧ FrL w I M ∧ (∃ p' : Nat, p' ≤ 402 ∧ M w 4 = (p' : Int)) ∧ ((∃ e, r1 = .inl e ∧ R.1 = .inl e) ∨ ∃ t1, r1 = .inr (t1, l, lp) ∧ t < t1 ∧ R = (takeA (Kt B n nt) (PP B n nt) 59 (exA B n nt r1).1, (acc, (exA B n nt r1).2)) ∧ M w 4 = (((flatP acc 0).length : Nat) : Int) ∧ (flatP acc 0).length + 1 ≤ t1 ∧ SegR (M (w + 1)) (M (w + 2)) 0 (flatP acc 0) ∧ ∀ q ∈ acc, BalC 16 q.1 ∧ BalC 16 q.2.1 ∧ BalC 16 q.2.2)) (fun s => ∃ (j : Nat) (r1 : Ctl) (acc : List (LCode × LCode × LCode)), s.1 = (j : Int) ∧ j ≤ 5 ∧ CtX nt s.2 r1 ∧ FrL w I s.2 ∧ (∃ p' : Nat, p' ≤ 402 ∧ s.2 w 4 = (p' : Int)) ∧ ((∃ e, r1 = .inl e ∧ R.1 = .inl e) ∨ ∃ t1, r1 = .inr (t1, l, lp) ∧ j ≤ 4 ∧ t < t1 ∧ lawL B n nt (5 - j) j r1 acc = R ∧ s.2 w 4 = (((flatP acc 0).length : Nat) : Int) ∧ (flatP acc 0).length + 1 ≤ t1 ∧ SegR (s.2 (w + 1)) (s.2 (w + 2)) 0 (flatP acc 0) ∧ ∀ q ∈ acc, BalC 16 q.1 ∧ BalC 16 q.2.1 ∧ BalC 16 q.2.2)) (fun s => 5 - s.1.toNat) ?_ (F := F) (s := ((0 : Int), M2)) (by dsimp only; omega) ?_
  · obtain ⟨M3, e3, r1, acc, b1, b2, ⟨p3, b3, b3'⟩, b4⟩ := key
    rw [e3, Option.bind_some]
    obtain ⟨M4, e4, a4, f4, ⟨p4, b5, b5'⟩, d4⟩ := exX (F := F) hF hw (tkx_L hw hT b2) b1 b3' b3 (fun t1 l1 lp1 h => by
      rcases b4 with ⟨e, h1, _⟩ | ⟨t1', h1, h2, h3, h4, h5, _⟩
      · rw [h1] at h; cases h
      · rw [h1] at h; cases h
        rw [b3'] at h4; omega)
    have g4 := frL_trans b2 f4
    obtain ⟨v5, M5, p5, e5, b6, b6', f5, f5', d5⟩ := putX (F := F) (op := 7) (x := 0) b5' b5
    have g5 := frL_trans g4 (put_L hw f5 f5')
    have a5 := cx_put hw a4 f5
    obtain ⟨M6, e6, a6, f6⟩ := takeX (F := F) (k := 59) (tkx_L hw hT g5) a5 (by decide)
    have g6 := frL_trans g5 (fr4_L (w := w) (by omega) f6)
    rw [e4, Option.bind_some, e5, Option.bind_some]
    dsimp only
    rw [e6, Option.bind_some]
    refine ⟨M6, rfl, ?_, g6, ⟨p5, b6, by rw [f6.1 w (by omega)]; exact b6'⟩, fun t' l' lp' h => ?_⟩
    · rcases b4 with ⟨e, h1, h2⟩ | ⟨t1, h1, h2, h3, _⟩
      · rw [h2]
        rw [h1] at a6
        exact a6
      · rw [h3]; exact a6
    · rcases b4 with ⟨e, h1, h2⟩ | ⟨t1, h1, h2, h3, h4, h5, h6, h7⟩
      · rw [h2] at h; cases h
      · rw [h3] at h ⊢
        dsimp only at h ⊢
        obtain ⟨t2, h8, h9, _, h400'⟩ := takeA_inr h
        obtain ⟨t3, h10, c1, c2, c3, c4, c5, c6⟩ := d4 t2 l' lp' h8
        rw [h1] at h10
        cases h10
        refine ⟨rfl, rfl, by omega, ⟨h7, c6⟩, Or.inr ?_⟩
        dsimp only
        have ep3 : p3 = (flatP acc 0).length := by rw [b3'] at h4; omega
        have ep4 : p4 = p3 + (exA B n nt r1).2.length := by rw [b5'] at c2; omega
        obtain ⟨w1, w2, w3, w4, w5⟩ := d5 (by omega)
        rw [flatP_L]
        have elen : (flatP acc 0 ++ ((exA B n nt r1).2 ++ [(7, 0)])).length = p5 := by simp only [List.length_append, List.length_cons, List.length_nil]; omega
        refine ⟨by rw [f6.1 w (by omega), b6', elen], by rw [f6.1 w (by omega), b6']; omega, ?_⟩
        rw [seg_app, seg_app, f6.1 (w + 1) (by omega), f6.1 (w + 2) (by omega)]
        refine ⟨?_, ?_, ?_⟩
        · refine seg_congr h6 (fun k d1 d2 => ?_) (fun k d1 d2 => ?_)
          · rw [(w5 k (by omega)).1, (c5 k (by omega)).1]
          · rw [(w5 k (by omega)).2, (c5 k (by omega)).2]
        · rw [Nat.zero_add, ← ep3]
          exact seg_congr c4 (fun k d1 d2 => (w5 k (by omega)).1) (fun k d1 d2 => (w5 k (by omega)).2)
        · have e : 0 + (flatP acc 0).length + (exA B n nt r1).2.length = p4 := by omega
          rw [e]
          exact ⟨w3, w4, trivial⟩
  · rintro ⟨x, M⟩ ⟨j, r1, acc, q1, q2, q3, q4, ⟨pm, q5, q5'⟩, q6⟩
    dsimp only at q1 q3 q4 q5' q6 ⊢
    subst q1
    unfold f_E_readLaw_L28
    have hTM := tkx_L hw hT q4
    rcases q6 with ⟨e, h1, h2⟩ | ⟨t1, h1, h2, h3, h4, h5, h6, h7, h8⟩
    · -- closed
      subst h1
      have hd : ¬ M 4 2 = 0 := by rw [q3.2.1]; exact q3.1
      refine wpo_i (fun _ => wpo_s ⟨.inl e, acc, q3, q4, ⟨pm, q5, q5'⟩, Or.inl ⟨e, rfl, h2⟩⟩) (fun _ => wpo_g hd (wpo_s ⟨.inl e, acc, q3, q4, ⟨pm, q5, q5'⟩, Or.inl ⟨e, rfl, h2⟩⟩))
    · subst h1
      obtain ⟨z1, z2, z3, z4, z5, z6⟩ := q3
      have q3' : CtX nt M (.inr (t1, l, lp)) := ⟨z1, z2, z3, z4, z5, z6⟩
      have ep : pm = (flatP acc 0).length := by rw [q5'] at h5; omega
      refine wpo_n (by omega) (wpo_n (fun h => h z3) (wpo_g (by omega) ?_))
      rw [z4, Int.toNat_natCast, (tkx_at hTM z2).1]
      have e5 : 5 - j = (4 - j) + 1 := by omega
      have hL : lawL B n nt (5 - j) j (.inr (t1, l, lp)) acc = if Kt B n nt t1 = 264 then (if j = 4 then (.inl (2, PP B n nt t1), (acc, [])) else lawL B n nt (4 - j) (j + 1) (ifA B n nt (.inr (t1, l, lp))).1 (acc ++ [(ifA B n nt (.inr (t1, l, lp))).2])) else (takeA (Kt B n nt) (PP B n nt) 59 (exA B n nt (.inr (t1, l, lp))).1, (acc, (exA B n nt (.inr (t1, l, lp))).2)) := by rw [e5]; rfl
      rw [hL] at h4
      refine wpo_i (fun hc => wpo_s ?_) (fun hc => ?_)
      · rw [if_neg hc] at h4
        exact ⟨.inr (t1, l, lp), acc, q3', q4, ⟨pm, q5, q5'⟩, Or.inr ⟨t1, rfl, h3, h4.symm, h5, h6, h7, h8⟩⟩
      · have hk264 : Kt B n nt t1 = 264 := by
          by_cases e : Kt B n nt t1 = 264
          · exact e
          · exact absurd e hc
        rw [if_pos hk264] at h4
        refine wpo_i (fun hc2 => ?_) (fun hc2 => ?_)
        · have hj : ¬ j = 4 := fun e => hc2 (by omega)
          rw [if_neg hj] at h4
          obtain ⟨M', d1, d2, d3, ⟨pn, d4, d4'⟩, d5⟩ := ifX (F := F) (x2 := (j : Int)) hF hw hTM q3' q5' q5 (fun t2 l2 lp2 h => by cases h; omega)
          rw [d1, w32i (by omega) (by omega)]
          refine wpo_s ⟨⟨j + 1, (ifA B n nt (.inr (t1, l, lp))).1, acc ++ [(ifA B n nt (.inr (t1, l, lp))).2], by dsimp only; omega, by omega, d2, frL_trans q4 d3, ⟨pn, d4, d4'⟩, ?_⟩, by dsimp only; omega⟩
          match hq : (ifA B n nt (.inr (t1, l, lp))).1 with
          | .inl e =>
            rw [hq] at h4
            exact Or.inl ⟨e, rfl, by rw [← h4]; exact lawL_dead _ _⟩
          | .inr (t2, l2, lp2) =>
            obtain ⟨t0, y0, y1, y2, y3, y4, y5, y6, y7, y8⟩ := d5 t2 l2 lp2 hq
            cases y0
            rw [hq] at h4
            rw [ep] at y2 y3 y4
            refine Or.inr ⟨t2, rfl, by omega, by omega, ?_, ?_, ?_, ?_, fun q hq' => ?_⟩
            · rw [← h4, show 5 - (j + 1) = 4 - j by omega]
            · dsimp only
              rw [y2, flatP_app, List.length_append, Nat.zero_add]
            · rw [flatP_app, List.length_append, Nat.zero_add]; omega
            · dsimp only
              rw [flatP_app, seg_app, Nat.zero_add]
              exact ⟨seg_congr h7 (fun k u1 u2 => (y5 k (by omega)).1) (fun k u1 u2 => (y5 k (by omega)).2), y4⟩
            · rw [List.mem_append] at hq'
              rcases hq' with hq' | hq'
              · exact h8 q hq'
              · rw [List.mem_singleton] at hq'
                rw [hq']
                exact ⟨y6, y7, y8⟩
        · have hj : j = 4 := by
            by_cases e : (j : Int) = 4
            · omega
            · exact absurd e hc2
          rw [if_pos hj] at h4
          obtain ⟨M', d1, d2, d3⟩ := failX (F := F) (w := 2) hTM q3' (by decide)
          have g3 := frL_trans q4 (fr4_L (w := w) (by omega) d3)
          rw [d1, Option.bind_some]
          obtain ⟨M'', y1, y2, y3, ⟨pn, y4, y4'⟩, y5⟩ := ifX (F := F) (x2 := (j : Int)) hF hw (tkx_L hw hT g3) d2 (by rw [d3.1 w (by omega)]; exact q5') q5 (fun t2 l2 lp2 h => by cases h)
          rw [y1, w32i (by omega) (by omega)]
          exact wpo_s ⟨⟨j + 1, .inl (2, PP B n nt t1), acc, by dsimp only; omega, by omega, y2, frL_trans g3 y3, ⟨pn, y4, y4'⟩, Or.inl ⟨_, rfl, by rw [← h4]⟩⟩, by dsimp only; omega⟩
  · refine ⟨0, r0, [], rfl, by omega, a2, g2, ⟨0, by omega, p2⟩, ?_⟩
    match hq : r0 with
    | .inl e => exact Or.inl ⟨e, rfl, by rw [← hR]; exact lawL_dead _ _⟩
    | .inr (t1, l1, lp1) =>
      obtain ⟨u1, u2, u3⟩ := hr0 t1 l1 lp1 rfl
      subst u1
      subst u2
      exact Or.inr ⟨t1, rfl, by omega, by omega, hR, p2, by show 0 + 1 ≤ t1; omega, trivial, fun q hq' => by cases hq'⟩
