/-! texts: the model tells a law -/
/-- a law of the half that is told -/
def LwO (I : MI) (h b p q : Nat) (Λ : LawT) : Prop := ∃ f l : Nat, I 319 q = (f : Int) ∧ I 320 q = (l : Int) ∧ l ≤ b ∧ ((f = l ∧ Λ = noLaw) ∨ (l = f + Λ.1.length + 1 ∧ 130 * h ≤ f ∧ BrM I f Λ.1 Λ.2 ∧ RgP I f l ((420 * h : Nat) : Int) (p : Int)))
theorem lwO_stay {I I' : MI} {h b p q b' p' : Nat} {Λ : LawT} (H : LwO I h b p q Λ) (hf : FrW b p h I I') (hb : b ≤ b') (hp : p ≤ p') (h420 : p ≤ 420 * h + 420) (h130 : b ≤ 130 * h + 130) : LwO I' h b' p' q Λ := by
  obtain ⟨f, l, h1, h2, h3, h4⟩ := H
  refine ⟨f, l, by rw [hf.1 319 (by decide) (by omega)]; exact h1, by rw [hf.1 320 (by decide) (by omega)]; exact h2, by omega, ?_⟩
  rcases h4 with h4 | ⟨h4, h5, h6, h7⟩
  · exact Or.inl h4
  · have ob : ∀ a j, 321 ≤ a → a ≤ 325 → f ≤ j → j < l → I' a j = I a j := fun a j a1 a2 j1 j2 => hf.2.1 a j a1 a2 (by omega)
    refine Or.inr ⟨h4, h5, brM_stay (pl := 420 * h) (ph := p) (fun k k1 k2 => hf.2.2.1 k (by omega)) h6 (fun j j1 j2 => h7 j j1 (by omega)) (fun a j a1 a2 j1 j2 => ob a j a1 a2 j1 (by omega)), fun j j1 j2 => ?_⟩
    rw [ob 324 j (by omega) (by omega) j1 j2, ob 325 j (by omega) (by omega) j1 j2, ob 321 j (by omega) (by omega) j1 j2, ob 322 j (by omega) (by omega) j1 j2]
    obtain ⟨x1, x2, x3⟩ := h7 j j1 j2
    exact ⟨x1, by omega, x3⟩
theorem lwO_M {I : MI} {h b p q : Nat} {Λ : LawT} (hq : q = 2 * h ∨ q = 2 * h + 1) (hh : h < 2) (H : LwO I h b p q Λ) (hb : b ≤ 130 * h + 130) (hp : p ≤ 420 * h + 420) (hL : LawB Λ) : LawM I q Λ := by
  obtain ⟨f, l, h1, h2, h3, h4⟩ := H
  refine ⟨hL, f, l, h1, h2, by omega, ?_⟩
  rcases h4 with h4 | ⟨h4, h5, h6, h7⟩
  · exact Or.inl h4
  · have : q / 2 = h := by omega
    rw [this]
    refine Or.inr ⟨h4, h6, h5, by omega, fun j j1 j2 => ?_⟩
    obtain ⟨x1, x2, x3⟩ := h7 j j1 j2
    exact ⟨by omega, by omega, fun hx => by have := x3 hx; omega⟩
section
variable {F n nt h : Nat} {B : Nat → Int} {J : MI}
theorem tellLawM {M : MI} {r : Ctl} {b0 p0 k : Nat} (hF : 1000000 ≤ F) (hh : h < 2) (hk : k < 2) (hT : TkM M J B n nt) (H : StL B n nt h M r b0 p0) (h19 : M 296 19 = (h : Int)) (hb : b0 + 6 ≤ 130 * h + 130) (hb0 : 130 * h ≤ b0) (hp0 : 420 * h ≤ p0) : ∃ (M' : MI) (b' p' : Nat), f_M_tellLaw F (k : Int) M J = some M' ∧ CtM B n nt M' (lawL B n nt 5 0 (takeA (Kt B n nt) (PP B n nt) 61 r) []).1 ∧ b0 ≤ b' ∧ b' ≤ b0 + 5 ∧ p0 ≤ p' ∧ ∃ N : MI, FrW b0 p0 h M N ∧ M' 296 38 = (b' : Int) ∧ ((∃ e, (lawL B n nt 5 0 (takeA (Kt B n nt) (PP B n nt) 61 r) []).1 = .inl e ∧ M' = N) ∨ ((∃ t l lp, (lawL B n nt 5 0 (takeA (Kt B n nt) (PP B n nt) 61 r) []).1 = .inr (t, l, lp) ∧ M' 296 12 = 0 ∧ M' 296 44 = (p' : Int) ∧ p' ≤ 420 * h + t) ∧ M' = up2 (up2 N 319 (2 * h + k) (b0 : Int)) 320 (2 * h + k) (b' : Int) ∧ LwO M' h b' p' (2 * h + k) (lawL B n nt 5 0 (takeA (Kt B n nt) (PP B n nt) 61 r) []).2)) := by
  unfold f_M_tellLaw
  obtain ⟨N1, e1, H1, f1⟩ := stl_must (F := F) (x := 61) (c := 5) hT (by unfold VK; omega) (by decide) (by decide) H
  rw [e1, Option.bind_some]
  have g1 : FrW b0 p0 h M N1 := fr5_W f1
  generalize takeA (Kt B n nt) (PP B n nt) 61 r = r1 at *
  generalize hR : lawL B n nt 5 0 r1 [] = R
  have key := wpo_iter (step := fun s : Int × MI => f_M_tellLaw_L12 F (k : Int) (N1 296 38) s.1 s.2 J) (Q := fun e => (∃ (N : MI) (e' : Int × Int) (j : Nat), e = .inl N ∧ CtM B n nt N (.inl e') ∧ R.1 = .inl e' ∧ FrW b0 p0 h M N ∧ N 296 38 = ((b0 + j : Nat) : Int) ∧ j ≤ 4) ∨ (∃ (N : MI) (j : Nat) (r : Ctl) (acc : List (LCode × LCode × LCode)), e = .inr N ∧ j ≤ 4 ∧ StL B n nt h N r (b0 + j) (p0 + lenQ acc) ∧ FrW b0 p0 h M N ∧ acc.length = j ∧ ((∃ e', r = .inl e' ∧ R.1 = .inl e') ∨ ((∃ t l lp, r = .inr (t, l, lp)) ∧ R = (takeA (Kt B n nt) (PP B n nt) 59 (exA B n nt r).1, (acc, (exA B n nt r).2)) ∧ BrL N b0 p0 acc)))) (fun s => ∃ (j : Nat) (r : Ctl) (acc : List (LCode × LCode × LCode)), s.1 = (j : Int) ∧ j ≤ 4 ∧ StL B n nt h s.2 r (b0 + j) (p0 + lenQ acc) ∧ FrW b0 p0 h M s.2 ∧ acc.length = j ∧ lawL B n nt (5 - j) j r acc = R ∧ ∀ t l lp, r = .inr (t, l, lp) → BrL s.2 b0 p0 acc) (fun s => 5 - s.1.toNat) ?_ (F := F) (s := ((0 : Int), N1)) (by dsimp only; omega) ⟨0, r1, [], rfl, by omega, H1, g1, rfl, hR, fun _ _ _ _ => trivial⟩
  · obtain ⟨e, e2, q⟩ := key
    rw [e2, Option.bind_some]
    rcases q with ⟨N, e', j, q1, q2, q3, q4, q5, q6⟩ | ⟨N, j, r2, acc, q1, q2, q3, q4, q5, q6⟩
    · subst q1
      exact ⟨N, b0 + j, p0, rfl, by rw [q3]; exact q2, by omega, by omega, Nat.le_refl _, N, q4, q5, Or.inl ⟨e', q3, rfl⟩⟩
    · subst q1
      dsimp only
      rw [q3.2.1, if_pos (by omega), Int.toNat_natCast]
      have q3' := stl_put (a := 321) (k := b0 + j) (v := 0) (by decide) q3
      have g2 : FrW b0 p0 h M (up2 N 321 (b0 + j) 0) := frW_trans (Nat.le_refl _) (Nat.le_refl _) q4 (put_W (by omega) (by omega))
      have g2' : FrW (b0 + j) (p0 + lenQ acc) h N (up2 N 321 (b0 + j) 0) := put_W (by omega) (by omega)
      have z1 : up2 N 321 (b0 + j) 0 321 (b0 + j) = 0 := up2_same
      generalize up2 N 321 (b0 + j) 0 = Z at *
      obtain ⟨N2, e3, n1, n2, n3, n4⟩ := termM (F := F) hF hh (tkm_W hT g2) q3' (by omega)
      have g3 : FrW b0 p0 h M N2 := frW_trans (by omega) (by omega) g2 n2
      obtain ⟨N3, e4, m1, m2⟩ := stl_must (F := F) (x := 59) (c := 4) (tkm_W hT g3) (by unfold VK; omega) (by decide) (by decide) n1
      have g4 : FrW b0 p0 h M N3 := frW_trans (Nat.le_refl _) (Nat.le_refl _) g3 (fr5_W m2)
      rw [e3, Option.bind_some, e4, Option.bind_some]
      have h19' : N3 296 19 = (h : Int) := by rw [g4.2.2.2 19 (by unfold keyL keyE; omega)]; exact h19
      have deadCase : ∀ e', takeA (Kt B n nt) (PP B n nt) 59 (exA B n nt r2).1 = .inl e' → R.1 = .inl e' → ∃ (M' : MI) (b' p' : Nat), (if (N3 296 13) ≤ 0 then (if 0 ≤ (w32 ((w32 (2 * (N3 296 19))) + (k : Int))) ∧ (w32 ((w32 (2 * (N3 296 19))) + (k : Int))) < 4 then (if 0 ≤ (w32 ((w32 (2 * ((up2 N3 319 ((w32 ((w32 (2 * (N3 296 19))) + (k : Int)))).toNat (N1 296 38)) 296 19))) + (k : Int))) ∧ (w32 ((w32 (2 * ((up2 N3 319 ((w32 ((w32 (2 * (N3 296 19))) + (k : Int)))).toNat (N1 296 38)) 296 19))) + (k : Int))) < 4 then (some (up2 (up2 N3 319 ((w32 ((w32 (2 * (N3 296 19))) + (k : Int)))).toNat (N1 296 38)) 320 ((w32 ((w32 (2 * ((up2 N3 319 ((w32 ((w32 (2 * (N3 296 19))) + (k : Int)))).toNat (N1 296 38)) 296 19))) + (k : Int)))).toNat ((up2 N3 319 ((w32 ((w32 (2 * (N3 296 19))) + (k : Int)))).toNat (N1 296 38)) 296 38))) else none) else none) else (some N3)) = some M' ∧ CtM B n nt M' R.1 ∧ b0 ≤ b' ∧ b' ≤ b0 + 5 ∧ p0 ≤ p' ∧ ∃ N : MI, FrW b0 p0 h M N ∧ M' 296 38 = (b' : Int) ∧ ((∃ e, R.1 = .inl e ∧ M' = N) ∨ ((∃ t l lp, R.1 = .inr (t, l, lp) ∧ M' 296 12 = 0 ∧ M' 296 44 = (p' : Int) ∧ p' ≤ 420 * h + t) ∧ M' = up2 (up2 N 319 (2 * h + k) (b0 : Int)) 320 (2 * h + k) (b' : Int) ∧ LwO M' h b' p' (2 * h + k) R.2)) := by
        intro e' x1 x2
        rw [x1] at m1
        rw [if_neg (by have := m1.1.1; rw [m1.1.2.1]; omega)]
        exact ⟨N3, b0 + j + 1, p0, rfl, by rw [x2]; exact m1.1, by omega, by omega, Nat.le_refl _, N3, g4, m1.2.1, Or.inl ⟨e', x2, rfl⟩⟩
      rcases q6 with ⟨e', x1, x2⟩ | ⟨⟨t, l, lp, x1⟩, x2, x3⟩
      · subst x1
        exact deadCase e' rfl x2
      · match hT9 : takeA (Kt B n nt) (PP B n nt) 59 (exA B n nt r2).1 with
        | .inl e' => exact deadCase e' hT9 (by rw [x2]; exact hT9)
        | .inr (t', l', lp') =>
          have m1' := m1
          rw [hT9] at m1
          obtain ⟨t5, y5, _⟩ := takeA_inr hT9
          obtain ⟨d1, d2, d3⟩ := n4 t5 l' lp' y5
          obtain ⟨c12, c44, cb⟩ := m1.2.2 t' l' lp' rfl
          have hlen : p0 + lenQ acc + (exA B n nt r2).2.length ≤ 840 := by have := m1.1.1; omega
          have hr1 : R.1 = .inr (t', l', lp') := by rw [x2]; exact hT9
          have ix : w32 (w32 (2 * (h : Int)) + (k : Int)) = ((2 * h + k : Nat) : Int) := by rw [w32i (x := 2 * (h : Int)) (by omega) (by omega), w32i (by omega) (by omega)]; omega
          have b38 : N1 296 38 = (b0 : Int) := H1.2.1
          rw [if_pos (by rw [m1.1.2.2.1]; omega), up2_r (show (296 : Nat) ≠ 319 by decide), up2_r (show (296 : Nat) ≠ 319 by decide), h19', ix, if_pos (by omega), if_pos (by omega), Int.toNat_natCast, b38, m1.2.1]
          have zz : ∀ a, a ≠ 319 → a ≠ 320 → up2 (up2 N3 319 (2 * h + k) (b0 : Int)) 320 (2 * h + k) ((b0 + j + 1 : Nat) : Int) a = N3 a := fun a a1 a2 => by rw [up2_off a2, up2_off a1]
          have hLw : LwO (up2 (up2 N3 319 (2 * h + k) (b0 : Int)) 320 (2 * h + k) ((b0 + j + 1 : Nat) : Int)) h (b0 + j + 1) (p0 + lenQ acc + (exA B n nt r2).2.length) (2 * h + k) R.2 := by
            rw [x2]
            have hbl : BrL N3 b0 p0 acc := brL_stay (brL_stay (brL_stay x3 g2' (by omega) (Nat.le_refl _)) n2 (by omega) (Nat.le_refl _)) (fr5_W (b := b0 + j) (p := p0 + lenQ acc) (h := h) m2) (by omega) (Nat.le_refl _)
            obtain ⟨w1, w2⟩ := brL_M (c := (exA B n nt r2).2) hbl hlen (by rw [q5, m2.1 321 (by decide), n3 321 (by omega) (by omega)]; exact z1) (by rw [q5, m2.1 324 (by decide)]; exact d1) (by rw [q5, m2.1 325 (by decide)]; exact d2) (by rw [m2.1 326 (by decide), m2.1 327 (by decide)]; exact d3)
            refine ⟨b0, b0 + j + 1, by rw [up2_r (by decide), up2_same], up2_same, Nat.le_refl _, Or.inr ⟨by show b0 + j + 1 = b0 + acc.length + 1; omega, hb0, ?_, ?_⟩⟩
            · exact brM_congr w1 (fun a a1 a2 => zz a (by omega) (by omega))
            · intro i i1 i2
              rw [zz 324 (by decide) (by decide), zz 325 (by decide) (by decide), zz 321 (by decide) (by decide), zz 322 (by decide) (by decide)]
              obtain ⟨v1, v2, v3⟩ := w2 i i1 (by rw [q5]; exact i2)
              exact ⟨by omega, v2, fun hx => by have := v3 hx; omega⟩
          refine ⟨_, b0 + j + 1, p0 + lenQ acc + (exA B n nt r2).2.length, rfl, ?_, by omega, by omega, by omega, N3, g4, by rw [zz 296 (by decide) (by decide)]; exact m1.2.1, Or.inr ⟨⟨t', l', lp', hr1, by rw [zz 296 (by decide) (by decide)]; exact c12, by rw [zz 296 (by decide) (by decide)]; exact c44, cb⟩, rfl, hLw⟩⟩
          rw [hr1]
          exact ctm_k m1.1 (fun k _ _ _ => by rw [zz 296 (by decide) (by decide)])
  rintro ⟨x, N⟩ ⟨j, r2, acc, q1, q2, q3, q4, q5, q6, q7⟩
  dsimp only at q1 q3 q4 q7 ⊢
  subst q1
  unfold f_M_tellLaw_L12
  match r2, q3, q6, q7 with
  | .inl e, q3, q6, q7 =>
    refine wpo_g (by have := q3.1.1; rw [q3.1.2.1]; omega) (wpo_s (Or.inr ⟨N, j, _, acc, rfl, q2, q3, q4, q5, Or.inl ⟨e, rfl, ?_⟩⟩))
    rw [← q6]
    exact lawL_dead _ _
  | .inr (t, l, lp), q3, q6, q7 =>
    refine wpo_n (by simp [q3.1.2.2.1]) ?_
    rw [isM (x := 264) (tkm_W hT q4) q3.1 (by unfold VK; omega) (by decide), Option.bind_some]
    have hgo : lawL B n nt (5 - j) j (.inr (t, l, lp)) acc = if Kt B n nt t = 264 then (if j = 4 then ((.inl (2, PP B n nt t), (acc, [])) : Ctl × LawT) else lawL B n nt (4 - j) (j + 1) (ifA B n nt (.inr (t, l, lp))).1 (acc ++ [(ifA B n nt (.inr (t, l, lp))).2])) else (takeA (Kt B n nt) (PP B n nt) 59 (exA B n nt (.inr (t, l, lp))).1, (acc, (exA B n nt (.inr (t, l, lp))).2)) := by
      rw [show 5 - j = (4 - j) + 1 by omega]; rfl
    rw [hgo] at q6
    by_cases g : Kt B n nt t = 264
    · rw [if_pos g] at q6 ⊢
      refine wpo_n (by decide) ?_
      by_cases g4 : j = 4
      · rw [if_pos g4] at q6
        refine wpo_n (by omega) ?_
        obtain ⟨N', e3, m1, m2, _⟩ := failM (F := F) (w := 2) (tkm_W hT q4) q3.1 (by decide)
        rw [e3, Option.bind_some]
        have m1' : CtM B n nt N' (.inl (2, PP B n nt t)) := m1
        unfold f_M_tellLaw_b38in12
        refine wpo_n (by have := m1'.1; rw [m1'.2.1]; show ¬ (2 : Int) ≤ 0; decide) (wpo_s (Or.inl ⟨N', (2, PP B n nt t), j, rfl, m1', by rw [← q6], frW_trans (Nat.le_refl _) (Nat.le_refl _) q4 (fr5_W m2), by rw [m2.2 38 (by decide) (by decide) (by decide) (by decide) (by decide)]; exact q3.2.1, q2⟩))
      · rw [if_neg g4] at q6
        refine wpo_g (by omega) ?_
        obtain ⟨N', e3, m1, m2, m3⟩ := ifM (F := F) (x1 := (k : Int)) (x2 := N1 296 38) (x3 := (j : Int)) hF hh (tkm_W hT q4) q3 ⟨t, l, lp, rfl, g⟩ (by omega)
        rw [e3, w32i (by omega) (by omega)]
        refine wpo_s ⟨⟨j + 1, _, acc ++ [(ifA B n nt (.inr (t, l, lp))).2], by dsimp only; omega, by omega, ?_, frW_trans (by omega) (by omega) q4 m2, by rw [List.length_append]; simp [q5], by rw [show 5 - (j + 1) = 4 - j by omega]; exact q6, fun t' l' lp' hx => ?_⟩, by dsimp only; omega⟩
        · rw [lenQ_app, ← Nat.add_assoc p0, ← Nat.add_assoc b0]
          exact m1
        · exact brL_app (brL_stay (q7 t l lp rfl) m2 (by omega) (Nat.le_refl _)) (by rw [q5]; exact m3 t' l' lp' hx)
    · rw [if_neg g] at q6 ⊢
      exact wpo_g rfl (wpo_s (Or.inr ⟨N, j, _, acc, rfl, q2, q3, q4, q5, Or.inr ⟨⟨t, l, lp, rfl⟩, q6.symm, q7 t l lp rfl⟩⟩))
end
