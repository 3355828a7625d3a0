/-! fords -/
theorem M_fords_eq {lv : Nat} {I J : MI} {ρ : RIV} {s : BSt} (hρ : RivOK ρ) (hr : RivM I lv ρ) (hl : I 296 18 = (lv : Int)) (hv : VOK ρ s) (hn : ∀ k, k < 250 → I 331 k = s.1 k) : ∃ (r : Int) (N : MI), f_M_fords FU I J = some (r, N) ∧ FrQ I N ∧ (enB ρ 96 = true → r = -2) ∧ (enB ρ 96 ≠ true → FMax ρ (wSt ρ s.2) r) := by
  have hF := FU_big
  obtain ⟨I1, e1, fr1, v1⟩ := M_isOverBy2 (I := I) (J := J) set_255 hρ hr hl hv hn
  rw [ovr_congr hρ hr hl (fun c hc => hBy_all hv (fun _ _ => rfl) hc)] at e1
  have v1' : ∀ c, c < 96 → (I1 335 c ≠ 0 ↔ 0 ≤ wSt ρ s.2 c) := fun c hc => by
    rw [v1 c hc, wSt_congr (hBy_all hv (fun _ _ => rfl) hc)]
  obtain ⟨D, hD⟩ := sol_ex hρ hr hl s.2
  unfold f_M_fords
  rw [e1, Option.bind_some]
  dsimp only
  have hr1 : RivM I1 lv ρ := rivm_congr hr (fun a b1 b2 => fr1.1 a (by unfold scrM; omega) (by omega))
  have hl1 : I1 296 18 = (lv : Int) := by rw [fr1.2 18 (by decide) (by decide)]; exact hl
  by_cases h0 : ovr ρ s.2 = 0
  · rw [if_neg (fun h => h h0)]
    have hfar : ¬ D 96 < 2000000000 := fun h => by rw [ovr_eq hD, if_pos h] at h0; omega
    refine ⟨0, I1, rfl, fr1, fun h => ?_, fun _ => ovr0_max hD hfar⟩
    have := (hD 96 (Or.inl rfl)).2.2.1 h
    omega
  · rw [if_pos h0]
    have e96 := M_ends (F := FU) (lv := lv) (k := 96) (J := J) hρ hr1 hl1 (by omega)
    rw [show (((96 : Nat)) : Int) = 96 from rfl] at e96
    rw [e96, Option.bind_some]
    by_cases g : enB ρ 96 = true
    · rw [if_pos g, if_neg (by decide)]
      exact ⟨-2, I1, rfl, fr1, fun _ => rfl, fun h => absurd g h⟩
    · rw [if_neg g, if_pos rfl]
      have k1 := wpo_iter (step := fun q : Int × MI => f_M_fords_L26 FU q.1 q.2 J) (Q := fun N => (∀ c, c < 96 → N 344 c = 0 ∧ N 345 c = 0 ∧ N 347 c = 0) ∧ ∀ a, a ≠ 344 → a ≠ 345 → a ≠ 347 → N a = I1 a) (fun q => ∃ n : Nat, n ≤ 96 ∧ q.1 = (n : Int) ∧ (∀ c, c < n → q.2 344 c = 0 ∧ q.2 345 c = 0 ∧ q.2 347 c = 0) ∧ ∀ a, a ≠ 344 → a ≠ 345 → a ≠ 347 → q.2 a = I1 a) (fun q => 96 - q.1.toNat) ?_ (F := FU) (s := ((0 : Int), I1)) (by dsimp only; omega) ⟨0, by omega, rfl, fun c hc => absurd hc (by omega), fun _ _ _ _ => rfl⟩
      · obtain ⟨I2, e2, z2, fr2⟩ := k1
        rw [e2, Option.bind_some]
        rw [fill_loop 346 0 9216 (fun _ => 0) (by omega) (fun M => by dsimp only; unfold f_M_fords_L61; rw [if_pos (by omega)]) (fun j hj => by
          dsimp only
          unfold f_M_fords_L61
          rw [if_neg (by omega), if_pos (by omega), w32i (by omega) (by omega)]
          simp)]
        rw [Option.bind_some]
        have z3 : ∀ k, k < 9216 → fillR I2 346 0 9216 (fun _ => 0) 346 k = 0 := fun k hk => fillR_in0 hk
        have fr3 : ∀ a, a ≠ 346 → fillR I2 346 0 9216 (fun _ => 0) a = I2 a := fun a ha => fillR_r ha
        revert z3 fr3
        generalize fillR I2 346 0 9216 (fun _ => 0) = I3
        intro z3 fr3
        have frI : ∀ a, a < 344 ∨ 349 < a → I3 a = I1 a := fun a ha => by rw [fr3 a (by omega), fr2 a (by omega) (by omega) (by omega)]
        have k2 := wpo_iter (step := fun q : Int × MI => f_M_fords_L83 FU q.1 q.2 J) (Q := fun e => FMax ρ (wSt ρ s.2) e.1 ∧ (∀ a, a ≠ 296 → (a < 344 ∨ 349 < a) → e.2 a = I1 a) ∧ ∀ k, k ≠ 75 → e.2 296 k = I1 296 k) (fun q => ∃ n : Nat, n ≤ 96 ∧ q.1 = (n : Int) ∧ FVal ρ (wSt ρ s.2) (q.2 344) (q.2 345) (q.2 347) (fzA (q.2 346)) ∧ sumN (q.2 344) 96 = (n : Int) ∧ (∀ a, a ≠ 296 → (a < 344 ∨ 349 < a) → q.2 a = I1 a) ∧ ∀ k, k ≠ 75 → q.2 296 k = I1 296 k) (fun q => 97 - q.1.toNat) ?_ (F := FU) (s := ((0 : Int), I3)) (by dsimp only; omega) ?_
        · obtain ⟨⟨r, N⟩, e4, q1, q2, q3⟩ := k2
          rw [e4, Option.bind_some]
          refine ⟨r, N, rfl, frQ_trans fr1 ⟨fun a b1 b2 => q2 a b2 (by unfold scrM at b1; omega), fun k b1 b2 => q3 k (by omega)⟩, fun h => absurd h g, fun _ => q1⟩
        · rintro ⟨x, N⟩ ⟨n, p1, p2, p3, p4, p5, p6⟩
          dsimp only at p2 p3 p4 p5 p6 ⊢
          subst p2
          unfold f_M_fords_L83
          obtain ⟨r, N', o1, o2, o3, o4⟩ := oneMore_eq (F := FU) (lv := lv) (I := N) (J := J) (w := wSt ρ s.2) hF hρ (rivm_congr hr1 (fun a b1 b2 => p5 a (by omega) (by omega))) (by rw [p6 18 (by decide)]; exact hl1) (fun c hc => by rw [p5 335 (by decide) (by decide)]; exact v1' c hc) p3
          rw [o1, Option.bind_some]
          dsimp only
          rcases o4 with ⟨o5, o6, o7⟩ | ⟨o5, o6⟩
          · rw [o5]
            have hle := (sumN_bd (f := N' 344) (n := 96) (b := 1) (fun k hk => by rcases (o6.2.1 k hk).1 with a | a <;> omega)).2
            refine wpo_n (by decide) (wpo_s ?_)
            rw [w32i (by omega) (by omega)]
            exact ⟨⟨n + 1, by omega, by dsimp only; omega, o6, by dsimp only; omega, fun a b1 b2 => (o2 a b1 b2).trans (p5 a b1 b2), fun k hk => (o3 k hk).trans (p6 k hk)⟩, by dsimp only; omega⟩
          · rw [o5]
            refine wpo_g rfl (wpo_s ⟨?_, fun a b1 b2 => (o2 a b1 b2).trans (p5 a b1 b2), fun k hk => (o3 k hk).trans (p6 k hk)⟩)
            dsimp only
            rw [← p4]; exact o6
        · refine ⟨0, by omega, rfl, ⟨fun c hc => ?_, fun c hc => ?_, fun d c hd hc => ?_⟩, ?_, fun a b1 b2 => frI a b2, fun k hk => by dsimp only; rw [frI 296 (by decide)]⟩
          · dsimp only
            rw [fr3 344 (by decide), fr3 345 (by decide), fr3 347 (by decide), (z2 c hc).1, (z2 c hc).2.1, (z2 c hc).2.2, sumN_none (f := fun d => fzA (I3 346) d c) (n := 96) (fun d hd => z3 (96 * d + c) (by omega)), sumN_none (f := fun d => fzA (I3 346) c d) (n := 96) (fun d hd => z3 (96 * c + d) (by omega))]
            exact ⟨rfl, rfl⟩
          · dsimp only
            rw [fr3 344 (by decide), fr3 345 (by decide), fr3 347 (by decide), (z2 c hc).1, (z2 c hc).2.1, (z2 c hc).2.2]
            exact ⟨Or.inl rfl, Or.inl rfl, Or.inl rfl⟩
          · exact Or.inl (z3 (96 * d + c) (by omega))
          · dsimp only
            rw [fr3 344 (by decide)]
            exact sumN_none (fun c hc => (z2 c hc).1)
      · rintro ⟨x, N⟩ ⟨n, p1, p2, p3, p4⟩
        dsimp only at p2 p3 p4 ⊢
        subst p2
        unfold f_M_fords_L26
        refine wpo_i (fun hc => wpo_s ?_) (fun hc => wpo_g (by omega) (wpo_s ?_))
        · have : n = 96 := by omega
          subst this
          exact ⟨p3, p4⟩
        · rw [w32i (by omega) (by omega), Int.toNat_natCast]
          refine ⟨⟨n + 1, by omega, by dsimp only; omega, fun c hc2 => ?_, fun a b1 b2 b3 => by dsimp only; rw [up2_off b3, up2_off b2, up2_off b1]; exact p4 a b1 b2 b3⟩, by dsimp only; omega⟩
          dsimp only
          by_cases e : c = n
          · rw [e]
            refine ⟨?_, ?_, ?_⟩
            · rw [up2_r (by decide), up2_r (by decide), up2_same]
            · rw [up2_r (by decide), up2_same]
            · rw [up2_same]
          · rw [up2_r (show (344 : Nat) ≠ 347 by decide), up2_r (show (344 : Nat) ≠ 345 by decide), up2_k e, up2_r (show (345 : Nat) ≠ 347 by decide), up2_k e, up2_r (show (345 : Nat) ≠ 344 by decide), up2_k e, up2_r (show (347 : Nat) ≠ 345 by decide), up2_r (show (347 : Nat) ≠ 344 by decide)]
            exact p3 c (by omega)
theorem ag_fords (j : Nat) (hj : j < 512) : ag_19 (InvQ j) (InvQ (j + 1)) := by
  intro I J rv sp hrr hss hI
  have hF := FU_big
  have hI0 := hI
  obtain ⟨ρ, s, lv, hp, hρ, hx, hm, hl, hb, hn, hd, ht, hpl, hpa, hs, htl, hk⟩ := hI
  have hp' := hp
  unfold isPair at hp'
  have mod : ∀ I1 : MI, (∀ a, 275 ≤ a → I1 a = I a) → ∃ (r : Int) (N : MI), f_M_fords FU I1 J = some (r, N) ∧ FrQ I1 N ∧ (enB ρ 96 = true → r = -2) ∧ (enB ρ 96 ≠ true → FMax ρ (wSt ρ s.2) r) := fun I1 h1 =>
    M_fords_eq (I := I1) (J := J) hρ (rivm_congr hm (fun a b1 b2 => h1 a (by omega))) (by rw [h1 296 (by omega)]; exact hl) hb.1 (fun k hk => by rw [h1 331 (by omega)]; exact hn k hk)
  by_cases g : enB ρ 96 = true
  · obtain ⟨r, N, e2, fr2, m1, _⟩ := mod I (fun _ _ => rfl)
    refine ag_mk (r := -2) (M := I) (N := N) (fm := fun M => f_M_fords FU M J) (V := fun M => InvQ (j + 1) M J rv sp) ?_ ?_ (invq_keep hI0 frX_refl fr2) hrr hss
    · unfold f_X_fords
      rw [once_eq hx.2.1 hx.2.2.1, Option.bind_some, if_pos g, if_neg (by decide)]
    · show f_M_fords FU I J = _
      rw [e2, m1 g]
  · obtain ⟨I1, e1, w1, f1⟩ := weighSt_eq (F := FU) (b := 49) (rv := rv) hF ⟨Or.inl rfl, by omega⟩ hx hb.2.1
    obtain ⟨r, I2, e2, m2, f2⟩ := most_eq (F := FU) (rv := rv) (I := I1) (w := wSt ρ s.2) hF (by omega) hρ (rivx_congr hx (fun a b1 b2 b3 b4 => f1 a (by omega))) w1 (fun c hc h => (isSt_in (wSt_nn.mp h)).1)
    have frx : FrX rv I I2 := fun a ha => by
      unfold scrX at ha
      rw [f2 a (by omega), f1 a (by omega)]
    obtain ⟨r', N, e3, fr3, _, m3⟩ := mod I2 (fun a ha => frx a (by unfold scrX; omega))
    have hrr' : r' = r := fmax_uniq (m3 g) m2
    refine ag_mk (r := r) (M := I2) (N := N) (fm := fun M => f_M_fords FU M J) (V := fun M => InvQ (j + 1) M J rv sp) ?_ ?_ (invq_keep hI0 frx fr3) hrr hss
    · unfold f_X_fords
      rw [once_eq hx.2.1 hx.2.2.1, Option.bind_some, if_neg g, if_pos rfl, e1, Option.bind_some, e2, Option.bind_some]
    · show f_M_fords FU I2 J = _
      rw [e3, hrr']
