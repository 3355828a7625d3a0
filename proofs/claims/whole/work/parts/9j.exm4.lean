/-! texts: the model reads a term; laws stay -/
section
variable {F n nt p0 h : Nat} {B : Nat → Int} {J : MI} {l lp : Int}
theorem exprM (hF : 1000000 ≤ F) (hh : h < 2) {I : MI} {t : Nat} (hT : TkM I J B n nt) (hC : CtM B n nt I (.inr (t, l, lp))) (h12 : I 296 12 = 0) (h44 : I 296 44 = (p0 : Int)) (hp : p0 ≤ 420 * h + t) : ∃ I', f_M_expression F I J = some I' ∧ CtM B n nt I' (exA B n nt (.inr (t, l, lp))).1 ∧ FrE p0 h I I' ∧ ∀ t' l' lp', (exA B n nt (.inr (t, l, lp))).1 = .inr (t', l', lp') → l' = l ∧ lp' = lp ∧ t < t' ∧ I' 296 12 = 0 ∧ I' 296 44 = ((p0 + (exA B n nt (.inr (t, l, lp))).2.length : Nat) : Int) ∧ SegR (I' 326) (I' 327) p0 (exA B n nt (.inr (t, l, lp))).2 ∧ p0 + (exA B n nt (.inr (t, l, lp))).2.length ≤ 420 * h + t' := by
  have hex : exA B n nt (.inr (t, l, lp)) = (match pE B n nt t with | .inl e => ((.inl e, []) : Ctl × LCode) | .inr (t', c) => (.inr (t', l, lp), c)) := rfl
  generalize hR : pE B n nt t = R at hex
  have hadv : ∀ t' c', R = .inr (t', c') → t < t' := fun t' c' e => (mach_adv _ _ _ _ _ _ _ (hR.trans e)).2 rfl
  have hR' : mA (Kt B n nt) (PP B n nt) (Vt B n) t [] [] = R := hR
  have hbase : up2 I 296 48 0 296 12 = 0 := by rw [up2_k (by decide)]; exact h12
  unfold f_M_expression
  rw [hbase]
  have f0 : FrE p0 h I (up2 I 296 48 0) := frE_key (Or.inr (Or.inr rfl))
  have H0 : AlE B n nt p0 h I l lp (up2 I 296 48 0) t [] [] := ⟨ctm_key (by omega) hC, ⟨f0, hbase, up2_same, trivial, by rw [up2_k (by decide)]; exact h44, trivial, trivial, by show (0 : Nat) ≤ 6; omega⟩, by simpa using hp⟩
  generalize up2 I 296 48 0 = Z at *
  have key := wpo_iter (step := fun s : Int × MI => f_M_expression_L12 F 0 s.1 s.2 J) (Q := fun e => (∃ M, (e = .inl M ∨ e = .inr (.inr M)) ∧ ∃ e', DdE B n nt p0 h I M e' ∧ R = .inl e') ∨ (∃ M e', e = .inr (.inl M) ∧ DdF B n nt p0 h I M e' ∧ R = .inl e') ∨ ∃ M t' W c, e = .inr (.inl M) ∧ AlE B n nt p0 h I l lp M t' W c ∧ ¬ (Kt B n nt t' = 41 ∧ 0 < opens W) ∧ isOpK (Kt B n nt t') ≠ true ∧ mB (Kt B n nt) (PP B n nt) (Vt B n) t' W c = R) (fun s => s.1 = 1 ∧ ((∃ e', DdE B n nt p0 h I s.2 e' ∧ R = .inl e') ∨ ∃ t' W c, AlE B n nt p0 h I l lp s.2 t' W c ∧ mA (Kt B n nt) (PP B n nt) (Vt B n) t' W c = R)) (fun s => if s.2 296 13 = 0 then 402 - (s.2 296 11).toNat else 0) ?_ (F := F) (s := ((1 : Int), Z)) (by dsimp only; split <;> omega) ⟨rfl, Or.inr ⟨t, [], [], H0, hR'⟩⟩
  · obtain ⟨e, e1, q⟩ := key
    rw [e1, Option.bind_some]
    rcases q with ⟨M, q1, e', q2, q3⟩ | ⟨M, e', q1, ⟨q2, W, c, q3, q3'⟩, q4⟩ | ⟨M, t', W, c, q1, q2, q3, q4, q5⟩
    · rw [q3] at hex
      rw [hex]
      rcases q1 with q1 | q1
      · subst q1
        exact ⟨M, rfl, q2.1, q2.2, fun t' l' lp' h => by cases h⟩
      · subst q1
        exact ⟨M, rfl, q2.1, q2.2, fun t' l' lp' h => by cases h⟩
    · subst q1
      dsimp only
      rw [q4] at hex
      rw [hex]
      unfold f_M_expression_b204
      by_cases g : M 296 12 ≤ 0
      · rw [if_pos g]
        obtain ⟨N', e3, m1, m2⟩ := outM (F := F) (J := J) (s := false) (x := 0) hF rfl q3 hh q3'
        rw [e3, Option.bind_some]
        exact ⟨N', rfl, ctm_k q2 (fun k k1 k2 k3 => m2 k (by omega) (by omega)), m1.1, fun t' l' lp' h => by cases h⟩
      · rw [if_neg g]
        obtain ⟨N, e2, n1, n2, _⟩ := failM (F := F) (w := 1) (tkm_E hT q3.1) q2 (by decide)
        rw [e2, Option.bind_some]
        obtain ⟨N', e3, m1, m2⟩ := outM (F := F) (J := J) (s := false) (x := 0) hF rfl (cfe_5 q3 n2) hh q3'
        rw [e3, Option.bind_some]
        exact ⟨N', rfl, ctm_k n1 (fun k k1 k2 k3 => m2 k (by omega) (by omega)), m1.1, fun t' l' lp' h => by cases h⟩
    · subst q1
      dsimp only
      obtain ⟨b1, b2, b3⟩ := q2
      have hC := b1
      obtain ⟨c1, c2, c3, c4, c5, c6⟩ := b1
      have hmB := mB_e (K := Kt B n nt) (P := PP B n nt) (V := Vt B n) (W := W) (c := c) c1
      rw [if_neg q3, if_neg q4, q5] at hmB
      rw [b2.2.1]
      unfold f_M_expression_b204
      by_cases g : 0 < opens W
      · rw [if_pos g] at hmB
        rw [if_neg (by omega)]
        obtain ⟨N, e2, n1, n2, _⟩ := failM (F := F) (w := 1) (tkm_E hT b2.1) hC (by decide)
        rw [e2, Option.bind_some]
        obtain ⟨N', e3, m1, m2⟩ := outM (F := F) (J := J) (s := false) (x := 0) hF rfl (cfe_5 b2 n2) hh (by omega)
        rw [e3, Option.bind_some]
        rw [hmB] at hex
        rw [hex]
        have n1' : CtM B n nt N (.inl (1, PP B n nt t')) := n1
        exact ⟨N', rfl, ctm_k n1' (fun k k1 k2 k3 => m2 k (by omega) (by omega)), m1.1, fun t' l' lp' h => by cases h⟩
      · rw [if_neg g] at hmB
        rw [if_pos (by omega)]
        obtain ⟨N', e3, m1, m2⟩ := outM (F := F) (J := J) (s := false) (x := 0) hF rfl b2 hh (by omega)
        rw [e3, Option.bind_some]
        have ho := popS_opens (s := false) (W := W) (c := c)
        have ht := (popS_top (s := false) (c := c) b2.2.2.2.2.2.2.1).2.1 rfl
        have hl := popS_len (s := false) (W := W) (c := c)
        have hlt := hadv _ _ hmB
        rw [hmB] at hex
        rw [hex]
        have he : (popS false W c).1 = [] := by
          match hw : (popS false W c).1, ho, ht with
          | [], _, _ => rfl
          | w :: W2, ho, ht =>
            have := ht w W2 rfl
            subst this
            rw [opens_6] at ho
            omega
        rw [he] at m1 hl
        simp only [List.length_nil] at hl
        refine ⟨N', rfl, ctm_k hC (fun k k1 k2 k3 => m2 k (by omega) (by omega)), m1.1, fun t2 l2 lp2 h2 => ?_⟩
        cases h2
        exact ⟨rfl, rfl, hlt, m1.2.1, m1.2.2.2.2.1, m1.2.2.2.2.2.1, by dsimp only; omega⟩
  rintro ⟨x, M⟩ ⟨q1, q2⟩
  dsimp only at q1 q2 ⊢
  subst q1
  unfold f_M_expression_L12
  refine wpo_n (by decide) ?_
  rcases q2 with ⟨e', d1, d2⟩ | ⟨t', W, c, a1, a2⟩
  · exact wpo_g (wdE d1).1 (wpo_s (Or.inl ⟨M, Or.inr rfl, e', d1, d2⟩))
  · have hme : (if M 296 13 = 0 then 402 - (M 296 11).toNat else 0) = 402 - t' := by rw [if_pos a1.1.2.2.1, a1.1.2.2.2.1, Int.toNat_natCast]
    have h400 := a1.1.1
    refine wpo_n (by simp [a1.1.2.2.1]) ?_
    obtain ⟨M1, e1, d⟩ := openM (x := 0) hF hT a1 a2
    rw [e1, Option.bind_some]
    have du : ∀ (N : MI) (e' : Int × Int), DdE B n nt p0 h I N e' → ∃ N', f_M_unit F N J = some N' ∧ DdE B n nt p0 h I N' e' := by
      intro N e' hd
      have w := wdE hd
      unfold f_M_unit f_M_unit_b88
      rw [isM_dead w.1, Option.bind_some, if_pos rfl, if_pos w.1]
      obtain ⟨N', e2, n1, n2, _⟩ := failM (F := F) (w := 1) (tkm_E hT hd.2) hd.1 (by decide)
      rw [e2]
      exact ⟨N', rfl, n1, frE_trans (Nat.le_refl _) hd.2 (fr5_E n2)⟩
    have afterDead : ∀ (N : MI) (e' : Int × Int), DdE B n nt p0 h I N e' → R = .inl e' → wpo (if (N 296 13) ≤ 0 then ((iter (fun s : MI => f_M_expression_L96 F 0 s J) F N).bind fun e43 => tailM F 0 e43 J) else (some (.inl (.inl N)))) (fun r => Sum.elim (fun e => (∃ M, (e = .inl M ∨ e = .inr (.inr M)) ∧ ∃ e', DdE B n nt p0 h I M e' ∧ R = .inl e') ∨ (∃ M e', e = .inr (.inl M) ∧ DdF B n nt p0 h I M e' ∧ R = .inl e') ∨ ∃ M t' W c, e = .inr (.inl M) ∧ AlE B n nt p0 h I l lp M t' W c ∧ ¬ (Kt B n nt t' = 41 ∧ 0 < opens W) ∧ isOpK (Kt B n nt t') ≠ true ∧ mB (Kt B n nt) (PP B n nt) (Vt B n) t' W c = R) (fun s' : Int × MI => (s'.1 = 1 ∧ ((∃ e', DdE B n nt p0 h I s'.2 e' ∧ R = .inl e') ∨ ∃ t' W c, AlE B n nt p0 h I l lp s'.2 t' W c ∧ mA (Kt B n nt) (PP B n nt) (Vt B n) t' W c = R)) ∧ (if s'.2 296 13 = 0 then 402 - (s'.2 296 11).toNat else 0) < (if M 296 13 = 0 then 402 - (M 296 11).toNat else 0)) r) := by
      intro N e' hd hr
      exact wpo_n (by have := (wdE hd).2; omega) (wpo_s (Or.inl ⟨N, Or.inl rfl, e', hd, hr⟩))
    rcases d with ⟨e', d1, d2⟩ | ⟨t1, W1, d1, d2, d3, d4⟩
    · obtain ⟨N, e2, n1⟩ := du M1 e' d1
      rw [e2, Option.bind_some]
      exact afterDead N e' n1 d2
    obtain ⟨M2, e2, d⟩ := unitM (F := F) hT hh d1 d3 d4
    rw [e2, Option.bind_some]
    rcases d with ⟨e', d1, d2⟩ | ⟨q, d5, d6⟩
    · exact afterDead M2 e' d1 d2
    refine wpo_g (by rw [d5.1.2.2.1]; omega) ?_
    obtain ⟨M3, e3, d⟩ := closeM hF hT hh d5 d6
    rw [e3, Option.bind_some]
    show wpo (tailM F 0 M3 J) _
    rcases d with ⟨e', k1, k2⟩ | ⟨t3, W3, c3, k1, k2, k3, k4⟩
    · rw [tail_dead (wdE (ddF_E k1)).1]
      exact wpo_s (Or.inr (Or.inl ⟨M3, e', rfl, k1, k2⟩))
    rcases opsM hF hT hh k1 k3 k4 with ⟨o1, o2⟩ | ⟨I', o1, o2⟩
    · rw [o2]
      exact wpo_s (Or.inr (Or.inr ⟨M3, t3, W3, c3, rfl, k1, k3, o1, k4⟩))
    · rw [o1]
      refine wpo_s ⟨⟨rfl, ?_⟩, ?_⟩
      · rcases o2 with ⟨e', o3, o4⟩ | ⟨W4, c4, o3, o4⟩
        · exact Or.inl ⟨e', o3, o4⟩
        · exact Or.inr ⟨_, W4, c4, o3, o4⟩
      · dsimp only
        rw [hme]
        rcases o2 with ⟨e', o3, o4⟩ | ⟨W4, c4, o3, o4⟩
        · rw [if_neg (wdE o3).1]; omega
        · rw [if_pos o3.1.2.2.1, o3.1.2.2.2.1, Int.toNat_natCast]; omega
end
/-! laws stay where nothing is written -/
def RgP (I : MI) (f l : Nat) (pl ph : Int) : Prop := ∀ j : Nat, f ≤ j → j < l → pl ≤ I 324 j ∧ I 325 j ≤ ph ∧ (I 321 j = 1 → pl ≤ I 322 j)
theorem brM_stay {I I' : MI} {pl ph : Nat} (hc : ∀ k, pl ≤ k → k < ph → I' 326 k = I 326 k ∧ I' 327 k = I 327 k) : ∀ {r : List (LCode × LCode × LCode)} {b : Nat} {c : LCode}, BrM I b r c → RgP I b (b + r.length + 1) (pl : Int) (ph : Int) → (∀ a j, 321 ≤ a → a ≤ 325 → b ≤ j → j < b + r.length + 1 → I' a j = I a j) → BrM I' b r c
  | [], b, c, h, hr, hf => by
    unfold BrM at h ⊢
    obtain ⟨h1, p, h2, h3, h4, h5⟩ := h
    simp only [List.length_nil] at hr hf
    obtain ⟨r1, r2, _⟩ := hr b (by omega) (by omega)
    rw [hf 321 b (by omega) (by omega) (by omega) (by omega), hf 324 b (by omega) (by omega) (by omega) (by omega), hf 325 b (by omega) (by omega) (by omega) (by omega)]
    exact ⟨h1, p, h2, h3, h4, seg_congr h5 (fun k b1 b2 => (hc k (by omega) (by omega)).1) (fun k b1 b2 => (hc k (by omega) (by omega)).2)⟩
  | (c1, c2, c3) :: r, b, c, h, hr, hf => by
    unfold BrM at h ⊢
    obtain ⟨h1, ⟨p, h2, h3, h4, h5, h6, h7, h8, h9⟩, h10⟩ := h
    simp only [List.length_cons] at hr hf
    obtain ⟨_, r2, r3⟩ := hr b (by omega) (by omega)
    have r3' := r3 h1
    rw [hf 321 b (by omega) (by omega) (by omega) (by omega), hf 322 b (by omega) (by omega) (by omega) (by omega), hf 323 b (by omega) (by omega) (by omega) (by omega), hf 324 b (by omega) (by omega) (by omega) (by omega), hf 325 b (by omega) (by omega) (by omega) (by omega)]
    refine ⟨h1, ⟨p, h2, h3, h4, h5, h6, seg_congr h7 (fun k b1 b2 => (hc k (by omega) (by omega)).1) (fun k b1 b2 => (hc k (by omega) (by omega)).2), seg_congr h8 (fun k b1 b2 => (hc k (by omega) (by omega)).1) (fun k b1 b2 => (hc k (by omega) (by omega)).2), seg_congr h9 (fun k b1 b2 => (hc k (by omega) (by omega)).1) (fun k b1 b2 => (hc k (by omega) (by omega)).2)⟩, brM_stay hc h10 (fun j b1 b2 => hr j (by omega) (by omega)) (fun a j a1 a2 b1 b2 => hf a j a1 a2 (by omega) (by omega))⟩
theorem lawM_oth {I I' : MI} {h lv q : Nat} {Λ : LawT} (hq : q = 2 * lv ∨ q = 2 * lv + 1) (hl : lv < 2) (hh : h < 2) (hne : lv ≠ h) (H : LawM I q Λ) (ho : OthM h I I') : LawM I' q Λ := by
  obtain ⟨h1, f, l, h2, h3, h4, h5⟩ := H
  have o : ∀ a k, 305 ≤ a → a ≤ 327 → wdR a * lv ≤ k → k < wdR a * lv + wdR a → I' a k = I a k := fun a k a1 a2 k1 k2 => by
    refine ho a a1 a2 k ?_
    have : (lv = 0 ∧ h = 1) ∨ (lv = 1 ∧ h = 0) := by omega
    rcases this with ⟨e1, e2⟩ | ⟨e1, e2⟩
    · subst e1; subst e2; left; omega
    · subst e1; subst e2; right; omega
  have hd : q / 2 = lv := by omega
  refine ⟨h1, f, l, ?_, ?_, h4, ?_⟩
  · rw [o 319 q (by omega) (by omega) (by show 2 * lv ≤ q; omega) (by show q < 2 * lv + 2; omega)]; exact h2
  · rw [o 320 q (by omega) (by omega) (by show 2 * lv ≤ q; omega) (by show q < 2 * lv + 2; omega)]; exact h3
  · rcases h5 with h5 | ⟨h5, h6, h7⟩
    · exact Or.inl h5
    · rw [hd] at h7 ⊢
      obtain ⟨g1, g2, g3⟩ := h7
      have ob : ∀ a j, 321 ≤ a → a ≤ 325 → f ≤ j → j < l → I' a j = I a j := fun a j a1 a2 j1 j2 => by
        have hw : wdR a = 130 := by
          have : a = 321 ∨ a = 322 ∨ a = 323 ∨ a = 324 ∨ a = 325 := by omega
          rcases this with e | e | e | e | e <;> rw [e] <;> rfl
        exact o a j (by omega) (by omega) (by rw [hw]; omega) (by rw [hw]; omega)
      have oc : ∀ k, 420 * lv ≤ k → k < 420 * lv + 420 → I' 326 k = I 326 k ∧ I' 327 k = I 327 k := fun k k1 k2 => ⟨o 326 k (by omega) (by omega) (by show 420 * lv ≤ k; omega) (by show k < 420 * lv + 420; omega), o 327 k (by omega) (by omega) (by show 420 * lv ≤ k; omega) (by show k < 420 * lv + 420; omega)⟩
      refine Or.inr ⟨h5, brM_stay (pl := 420 * lv) (ph := 420 * lv + 420) oc h6 (fun j j1 j2 => ?_) (fun a j a1 a2 j1 j2 => ob a j a1 a2 j1 (by omega)), g1, g2, fun j j1 j2 => ?_⟩
      · obtain ⟨x1, x2, x3⟩ := g3 j j1 (by omega)
        exact ⟨by omega, by omega, fun hx => by have := x3 hx; omega⟩
      · rw [ob 324 j (by omega) (by omega) j1 j2, ob 325 j (by omega) (by omega) j1 j2, ob 321 j (by omega) (by omega) j1 j2, ob 322 j (by omega) (by omega) j1 j2]
        exact g3 j j1 j2
theorem rivm_oth {I I' : MI} {h lv : Nat} {ρ : RIV} (hh : h < 2) (hne : lv ≠ h) (H : RivM I lv ρ) (ho : OthM h I I') (hN : aN ρ ≤ 8) (hFl : aF ρ ≤ 8) : RivM I' lv ρ := by
  obtain ⟨h0, h1, h2, h3, h4, h5, h6, h7, h8, h9, h10, h11⟩ := H
  have o : ∀ a k, 305 ≤ a → a ≤ 327 → wdR a * lv ≤ k → k < wdR a * lv + wdR a → I' a k = I a k := fun a k a1 a2 k1 k2 => by
    refine ho a a1 a2 k ?_
    have : (lv = 0 ∧ h = 1) ∨ (lv = 1 ∧ h = 0) := by omega
    rcases this with ⟨e1, e2⟩ | ⟨e1, e2⟩
    · subst e1; subst e2; left; omega
    · subst e1; subst e2; right; omega
  have o1 : ∀ a, wdR a = 1 → 305 ≤ a → a ≤ 327 → I' a lv = I a lv := fun a w a1 a2 => o a lv a1 a2 (by rw [w]; omega) (by rw [w]; omega)
  have o8 : ∀ a k, wdR a = 8 → 305 ≤ a → a ≤ 327 → k < 8 → I' a (8 * lv + k) = I a (8 * lv + k) := fun a k w a1 a2 hk => o a _ a1 a2 (by rw [w]; omega) (by rw [w]; omega)
  refine ⟨h0, by rw [o1 305 rfl (by omega) (by omega)]; exact h1, by rw [o1 306 rfl (by omega) (by omega)]; exact h2, by rw [o1 310 rfl (by omega) (by omega)]; exact h3, by rw [o1 311 rfl (by omega) (by omega)]; exact h4, by rw [o1 316 rfl (by omega) (by omega)]; exact h5, fun c hc => ?_, fun y hy => by rw [o8 309 y rfl (by omega) (by omega) hy]; exact h7 y hy, fun m hm => ?_, fun f hf => ?_, lawM_oth (Or.inl rfl) h0 hh hne h10 ho, lawM_oth (Or.inr rfl) h0 hh hne h11 ho⟩
  · rw [o 308 _ (by omega) (by omega) (by show 96 * lv ≤ 96 * lv + c; omega) (by show 96 * lv + c < 96 * lv + 96; omega)]
    exact h6 c hc
  · rw [o8 312 m rfl (by omega) (by omega) (by omega), o8 313 m rfl (by omega) (by omega) (by omega), o8 314 m rfl (by omega) (by omega) (by omega), o8 315 m rfl (by omega) (by omega) (by omega)]
    exact h8 m hm
  · rw [o8 317 f rfl (by omega) (by omega) (by omega), o8 318 f rfl (by omega) (by omega) (by omega)]
    exact h9 f hf
