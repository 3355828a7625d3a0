/-! the call read agrees -/
theorem ag_read (j : Nat) (hj : j < 512) : ag_2 (InvQ j) (InvQ (j + 1)) := by
  intro I J rv sp hrr hss hI
  obtain ⟨ρ, s, lv, hp, hρ, hx, hm, hl, hb, hn, hd, ht, hpl, hpa, hs, htl, hk⟩ := hI
  obtain ⟨n, n1, n2, n3, n4⟩ := ht
  have hF := FU_big
  have hp' := hp
  unfold isPair at hp'
  have hsp : isSp sp := by unfold isSp; omega
  have hlv : lv < 2 := hm.1
  have hTp : TpX I (fun k => and32 (I 3 k) 255) n := ⟨n1, n2, fun _ _ => rfl, fun _ _ => and255⟩
  obtain ⟨I1, nt, hN, e1, fp, f1, fin, al⟩ := readTextX (F := FU) hF hsp hTp
  -- what stands elsewhere
  have fr1 : ∀ a, a ≠ 4 → a ≠ 10 → a ≠ 6 → a ≠ 7 → a ≠ 8 → a ≠ 9 → a ≠ 2 → a ≠ 1 → (a < sp ∨ sp + 18 < a) → ∀ v, up2 (up2 I1 2 1 0) 1 2 v a = I a := fun a b1 b2 b3 b4 b5 b6 b7 b8 b9 v => by rw [up2_off b8, up2_off b7]; exact f1 a b1 b2 b3 b4 b5 b6 b9
  have fr11 : ∀ v k, k ≠ 2 → up2 (up2 I1 2 1 0) 1 2 v 1 k = I 1 k := fun v k hk => by rw [up2_k hk, up2_r (by decide), f1 1 (by decide) (by decide) (by decide) (by decide) (by decide) (by decide) (by omega)]
  have rm : ∀ M : MI, (∀ a, 242 ≤ a → M a = I a) → ∃ (I' J' : MI) (nt' : Nat), NTk (fun k => and32 (I 3 k) 255) n nt' ∧ f_M_read FU M J = some ((codeA (textA (fun k => and32 (I 3 k) 255) n nt' 402 sg0).1).1, I', J') ∧ KeyQ J' ∧ I' 296 17 = (codeA (textA (fun k => and32 (I 3 k) 255) n nt' 402 sg0).1).2 ∧ I' 296 2 = 0 ∧ OthM (1 - lv) M I' ∧ (∀ a, a ≠ 296 → (a < 298 ∨ 328 < a) → a ≠ 331 → a ≠ 352 → I' a = M a) ∧ (((codeA (textA (fun k => and32 (I 3 k) 255) n nt' 402 sg0).1).1 ≠ 0 ∧ I' 331 = M 331 ∧ I' 352 = M 352 ∧ I' 296 18 = M 296 18 ∧ I' 296 55 = M 296 55 ∧ I' 296 76 = M 296 76) ∨ ((codeA (textA (fun k => and32 (I 3 k) 255) n nt' 402 sg0).1).1 = 0 ∧ (∃ t lp, (textA (fun k => and32 (I 3 k) 255) n nt' 402 sg0).1 = .inr (t, 0, lp)) ∧ (∀ k, k < 250 → I' 331 k = bs0.1 k) ∧ (∀ i, i < 3 → I' 352 i = 0) ∧ I' 296 18 = ((1 - lv : Nat) : Int) ∧ I' 296 55 = 0 ∧ I' 296 76 = 0 ∧ (RivOK (textA (fun k => and32 (I 3 k) 255) n nt' 402 sg0).2.1 → RivM I' (1 - lv) (textA (fun k => and32 (I 3 k) 255) n nt' 402 sg0).2.1))) := fun M hM => readTextM (F := FU) hF n1 (by rw [hM 296 (by decide)]; exact n3) (fun k hk => by
    rw [hM 297 (by decide), n4 k hk]) (fun _ _ => and255) hk hlv (by rw [hM 296 (by decide)]; exact hl)
  unfold f_X_read
  rw [e1, Option.bind_some]
  dsimp only
  by_cases hc : (codeA (textA (fun k => and32 (I 3 k) 255) n nt 402 sg0).1).1 = 0
  · -- it is read
    rw [if_neg (fun h => h hc)]
    unfold f_X_read_b40
    rw [if_neg (fun h => h hc), hc]
    obtain ⟨q9, e2, b1, b2, b3, b4, b5, b6, b7⟩ := X_begin (F := FU) (rv := rv) (I := up2 (up2 I1 2 1 0) 1 2 (-1)) (ρ := (textA (fun k => and32 (I 3 k) 255) n nt 402 sg0).2.1) hF
    rw [e2, Option.bind_some]
    obtain ⟨I', J', nt', hN', e3, k1, k2, k3, k4, k5, k6⟩ := rm q9 (fun a ha => by rw [b7 a (by omega) (by omega) (by omega) (by omega)]; exact fr1 a (by omega) (by omega) (by omega) (by omega) (by omega) (by omega) (by omega) (by omega) (by omega) _)
    have hnt := nt_uniq hN hN'
    subst hnt
    rw [hc] at e3
    rcases k6 with ⟨k6, _⟩ | ⟨_, ⟨t, lp, k7⟩, k8, k9, k10, k11, k12, k13⟩
    · exact absurd hc k6
    obtain ⟨a1, a2⟩ := al t 0 lp k7
    obtain ⟨u, nx, hu, hnx, p63, _⟩ := hpa
    have lo : ∀ a, a < 296 → I' a = q9 a := fun a ha => k5 a (by omega) (by omega) (by omega) (by omega)
    refine ⟨_, _, rfl, e3, rfl, ?_, hss, hrr⟩
    dsimp only
    generalize textA (fun k => and32 (I 3 k) 255) n nt 402 sg0 = R at *
    have d0 : bs0.1 240 = 0 := by decide
    refine ⟨R.2.1, bs0, 1 - lv, ?_, a2, ?_, k13 a2, k10, bedq_congr b1 (fun a c1 c2 => lo a (by omega)), k8, ?_, ⟨0, by omega, ?_, k3, fun k hk => absurd hk (by omega)⟩, ?_, ⟨0, nx, by omega, hnx, ?_, ?_, k11, fun i hi => absurd hi (by omega)⟩, ?_, ⟨0, by omega, ?_, k12, fun i hi => absurd hi (by omega)⟩, k1⟩
    · unfold isPair; omega
    · refine rivx_congr a1 (fun a c1 c2 _ _ => ?_)
      rw [lo a (by omega), b7 a (by omega) (by omega) (by omega) (by omega), up2_off (by omega), up2_off (by omega)]
    · rw [d0]; omega
    · rw [lo 2 (by decide), b7 2 (by omega) (by decide) (by decide) (by decide), up2_r (by decide), up2_same]; rfl
    · show I' 1 2 = I' 296 17
      rw [lo 1 (by decide), b5 2 (by decide), up2_same, k2, k7]
      rfl
    · rw [lo 63 (by decide), b3 1 (by decide), fr1 63 (by decide) (by decide) (by decide) (by decide) (by decide) (by decide) (by decide) (by decide) (by omega)]
      exact p63
    · rw [lo 63 (by decide)]; exact b2
    · intro i hi
      have c1 : I' 241 i = 0 := by rw [lo 241 (by decide)]; exact b6 i hi
      exact ⟨by rw [c1, k9 i hi], Or.inl c1, fun h => by rw [c1] at h; exact absurd h (by decide)⟩
    · rw [lo 1 (by decide)]; exact b4
  · -- it is not
    rw [if_pos hc, fp hc, Option.bind_some]
    unfold f_X_read_b40
    rw [if_pos hc]
    obtain ⟨I', J', nt', hN', e3, k1, k2, k3, k4, k5, k6⟩ := rm (up2 (up2 I1 2 1 0) 1 2 (codeA (textA (fun k => and32 (I 3 k) 255) n nt 402 sg0).1).2) (fun a ha => fr1 a (by omega) (by omega) (by omega) (by omega) (by omega) (by omega) (by omega) (by omega) (by omega) _)
    have hnt := nt_uniq hN hN'
    subst hnt
    rcases k6 with ⟨_, k7, k8, k9, k10, k11⟩ | ⟨k6, _⟩
    rotate_left
    · exact absurd k6 hc
    have lo : ∀ a, a ≠ 296 → (a < 298 ∨ 328 < a) → a ≠ 4 → a ≠ 10 → a ≠ 6 → a ≠ 7 → a ≠ 8 → a ≠ 9 → a ≠ 2 → a ≠ 1 → (a < sp ∨ sp + 18 < a) → I' a = I a := fun a c1 c2 c3 c4 c5 c6 c7 c8 c9 c10 c11 => by
      by_cases g1 : a = 331
      · subst g1
        rw [k7]; exact fr1 331 c3 c4 c5 c6 c7 c8 c9 c10 c11 _
      by_cases g2 : a = 352
      · subst g2
        rw [k8]; exact fr1 352 c3 c4 c5 c6 c7 c8 c9 c10 c11 _
      rw [k5 a c1 c2 g1 g2]; exact fr1 a c3 c4 c5 c6 c7 c8 c9 c10 c11 _
    have hi : ∀ a, 49 ≤ a → a ≠ 296 → (a < 298 ∨ 328 < a) → I' a = I a := fun a c1 c2 c3 => lo a c2 c3 (by omega) (by omega) (by omega) (by omega) (by omega) (by omega) (by omega) (by omega) (by omega)
    have mk : ∀ v, up2 (up2 I1 2 1 0) 1 2 v 296 = I 296 := fun v => fr1 296 (by decide) (by decide) (by decide) (by decide) (by decide) (by decide) (by decide) (by decide) (by omega) v
    refine ⟨_, _, rfl, e3, rfl, ?_, hrr, hss⟩
    dsimp only
    have hmM : RivM (up2 (up2 I1 2 1 0) 1 2 (codeA (textA (fun k => and32 (I 3 k) 255) n nt 402 sg0).1).2) lv ρ := rivm_congr hm (fun a c1 c2 => fr1 a (by omega) (by omega) (by omega) (by omega) (by omega) (by omega) (by omega) (by omega) (by omega) _)
    refine ⟨ρ, s, lv, hp, hρ, rivx_congr hx (fun a c1 c2 _ _ => lo a (by omega) (by omega) (by omega) (by omega) (by omega) (by omega) (by omega) (by omega) (by omega) (by omega) (by omega)), rivm_oth (h := 1 - lv) (by omega) (by omega) hmM k4 hρ.2.2.2.1.2 hρ.2.2.2.2.1.2, by rw [k9, mk]; exact hl, bedq_congr hb (fun a c1 c2 => hi a c1 (by omega) (by omega)), fun k hk => by rw [hi 331 (by omega) (by omega) (by omega)]; exact hn k hk, by omega, ⟨0, by omega, ?_, k3, fun k hk => absurd hk (by omega)⟩, ?_, pasq_congr hpa (by omega) (fun a c1 c2 => hi a (by omega) (by omega) (by omega)) (by rw [k10, mk]) (hi 334 (by omega) (by omega) (by omega)), sloq_congr hs (by omega) (hi 241 (by omega) (by omega) (by omega)) (fun a c1 c2 => hi a (by omega) (by omega) (by omega)) (hi 352 (by omega) (by omega) (by omega)) (hi 353 (by omega) (by omega) (by omega)), tolq_congr htl ?_ (by rw [k11, mk]) (hi 242 (by omega) (by omega) (by omega)) (hi 243 (by omega) (by omega) (by omega)) (hi 350 (by omega) (by omega) (by omega)) (hi 351 (by omega) (by omega) (by omega)), k1⟩
    · rw [k5 2 (by decide) (by omega) (by decide) (by decide), up2_r (by decide), up2_same]; rfl
    · show I' 1 2 = I' 296 17
      rw [k5 1 (by decide) (by omega) (by decide) (by decide), up2_same, k2]
    · rw [k5 1 (by decide) (by omega) (by decide) (by decide)]
      exact fr11 _ 12 (by decide)
theorem agQ : AG InvQ := agQ_of ag_read ag_grief ag_gives ag_fords
