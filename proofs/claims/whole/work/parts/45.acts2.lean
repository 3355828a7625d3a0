/-! hold, restore, tell, forget -/
theorem ag_hold (j : Nat) (hj : j < 512) : ag_23 (InvQ j) (InvQ (j + 1)) := by
  intro I J rv sp x1 hrr hss hI _
  have hF := FU_big
  have hI0 := hI
  obtain ⟨ρ, s, lv, hp, hρ, hx, hm, hl, hb, hn, hd, ht, hpl, hpa, hs, htl, hk⟩ := hI
  have hp' := hp
  unfold isPair at hp'
  by_cases h1 : 0 ≤ x1 ∧ x1 ≤ 2
  · obtain ⟨q, rfl⟩ : ∃ q : Nat, x1 = (q : Int) := ⟨x1.toNat, by omega⟩
    obtain ⟨I1, c1, c2, c3⟩ := copy_eq (F := FU) (r0 := 275 + 7 * q) (r1 := 49) hb (by omega)
    have ex : f_X_hold FU (q : Int) I = some (1, up2 I1 241 q 1) := by
      unfold f_X_hold
      rw [if_neg (by omega), if_pos (by omega), if_pos (by omega), Int.toNat_natCast, c1]
      rfl
    generalize hM : up2 I1 241 q 1 = M at ex
    have fM : ∀ a, a ≠ 241 → (a < 275 + 7 * q ∨ 275 + 7 * q + 6 < a) → M a = I a := fun a b1 b2 => by rw [← hM, up2_off b1, c3 a b2]
    have em : f_M_hold FU (q : Int) M J = some (1, fillR (up2 M 352 q 1) 353 (250 * q) 250 (I 331)) := by
      unfold f_M_hold
      rw [M_in, if_pos h1, Option.bind_some, if_pos (by decide), if_pos (by omega), Int.toNat_natCast]
      rw [fill_loop 353 (250 * q) 250 (I 331) (by omega) (fun N => by dsimp only; unfold f_M_hold_L20; rw [if_pos (by omega)]) (fun i hi => by
        dsimp only
        unfold f_M_hold_L20
        rw [if_neg (by omega), if_pos (by omega), w32i (x := 250 * (q : Int)) (by omega) (by omega), w32i (by omega) (by omega), if_pos (by omega), w32i (by omega) (by omega), fillR_r (by decide), up2_r (by decide), fM 331 (by decide) (by omega), show (250 * (q : Int) + (i : Int)).toNat = 250 * q + i by omega, Int.toNat_natCast])]
      rfl
    generalize hN : fillR (up2 M 352 q 1) 353 (250 * q) 250 (I 331) = N at em
    have gN : ∀ a, a ≠ 352 → a ≠ 353 → N a = M a := fun a b1 b2 => by rw [← hN, fillR_r b2, up2_off b1]
    refine ag_mk (fm := fun M => f_M_hold FU (q : Int) M J) (V := fun M => InvQ (j + 1) M J rv sp) ex em ?_ hrr hss
    refine invq_act (s := s) hp hρ hx hm hl ht hpl htl hk (fun a b1 b2 b3 b4 b5 => ?_) (fun a b1 => ?_) (fun k b1 b2 b3 => ?_) ?_ ?_ (by omega) ?_ ?_
    · rw [gN a (by omega) (by omega), fM a (by omega) (by omega)]
    · rw [gN a (by omega) (by omega), fM a (by omega) (by omega)]
    · rw [gN 296 (by decide) (by decide), fM 296 (by decide) (by omega)]
    · exact bedq_congr hb (fun a b1 b2 => by rw [gN a (by omega) (by omega), fM a (by omega) (by omega)])
    · intro k hk
      rw [gN 331 (by decide) (by decide), fM 331 (by decide) (by omega)]; exact hn k hk
    · exact pasq_congr hpa (by omega) (fun a b1 b2 => by rw [gN a (by omega) (by omega), fM a (by omega) (by omega)]) (by rw [gN 296 (by decide) (by decide), fM 296 (by decide) (by omega)]) (by rw [gN 334 (by decide) (by decide), fM 334 (by decide) (by omega)])
    · intro i hi
      by_cases e : i = q
      · subst e
        have e1 : N 241 i = 1 := by rw [gN 241 (by decide) (by decide), ← hM, up2_same]
        have e2 : N 352 i = 1 := by rw [← hN, fillR_r (by decide), up2_same]
        refine ⟨e1.trans e2.symm, Or.inr e1, fun _ => ⟨s, ?_, fun k hk => ?_, by omega⟩⟩
        · exact bedq_congr c2 (fun a b1 b2 => by rw [gN a (by omega) (by omega), ← hM, up2_off (by omega)])
        · rw [← hN, fillR_in (by omega) (by omega), show 250 * i + k - 250 * i = k by omega]; exact hn k hk
      · obtain ⟨a1, a2, a3⟩ := hs i hi
        have e1 : N 241 i = I 241 i := by rw [gN 241 (by decide) (by decide), ← hM, up2_k e, c3 241 (by omega)]
        have e2 : N 352 i = I 352 i := by rw [← hN, fillR_r (by decide), up2_k e, fM 352 (by decide) (by omega)]
        rw [e1, e2]
        refine ⟨a1, a2, fun h => ?_⟩
        obtain ⟨t, t1, t2, t3⟩ := a3 h
        refine ⟨t, bedq_congr t1 (fun a b1 b2 => by rw [gN a (by omega) (by omega), fM a (by omega) (by omega)]), fun k hk => ?_, by omega⟩
        rw [← hN, fillR_out (by omega), up2_r (by decide), fM 353 (by decide) (by omega)]
        exact t2 k hk
  · refine ag_mk (r := 0) (M := I) (N := I) (fm := fun M => f_M_hold FU x1 M J) (V := fun M => InvQ (j + 1) M J rv sp) ?_ ?_ (invq_more j I J rv sp hI0) hrr hss
    · unfold f_X_hold
      by_cases h2 : x1 < 0
      · rw [if_pos h2]
      · rw [if_neg h2, if_neg (by omega)]
    · show f_M_hold FU x1 I J = _
      unfold f_M_hold
      rw [M_in, if_neg h1, Option.bind_some, if_neg (by decide)]
theorem ag_restore (j : Nat) (hj : j < 512) : ag_24 (InvQ j) (InvQ (j + 1)) := by
  intro I J rv sp x1 hrr hss hI _
  have hF := FU_big
  have hI0 := hI
  obtain ⟨ρ, s, lv, hp, hρ, hx, hm, hl, hb, hn, hd, ht, hpl, hpa, hs, htl, hk⟩ := hI
  have hp' := hp
  unfold isPair at hp'
  by_cases h1 : 0 ≤ x1 ∧ x1 ≤ 2
  · obtain ⟨q, rfl⟩ : ∃ q : Nat, x1 = (q : Int) := ⟨x1.toNat, by omega⟩
    obtain ⟨a1, a2, a3⟩ := hs q (by omega)
    by_cases h0 : I 241 q = 0
    · refine ag_mk (r := 0) (M := I) (N := I) (fm := fun M => f_M_restore FU (q : Int) M J) (V := fun M => InvQ (j + 1) M J rv sp) ?_ ?_ (invq_more j I J rv sp hI0) hrr hss
      · unfold f_X_restore
        rw [if_neg (by omega), if_neg (by omega), if_pos (by omega), Int.toNat_natCast, if_neg (by omega)]
      · show f_M_restore FU (q : Int) I J = _
        unfold f_M_restore
        rw [M_in, if_pos h1, Option.bind_some, if_neg (by decide), if_pos (by omega), Int.toNat_natCast, if_neg (by omega)]
    · obtain ⟨t, t1, t2, t3⟩ := a3 (a2.resolve_left h0)
      clear a3
      obtain ⟨I1, c1, c2, c3⟩ := copy_eq (F := FU) (r0 := 49) (r1 := 275 + 7 * q) t1 (by omega)
      have ex : f_X_restore FU (q : Int) I = some (1, up2 I1 63 2 0) := by
        unfold f_X_restore
        rw [if_neg (by omega), if_neg (by omega), if_pos (by omega), Int.toNat_natCast, if_pos h0, c1]
        rfl
      generalize hM : up2 I1 63 2 0 = M at ex
      have fM : ∀ a, a ≠ 63 → (a < 49 ∨ 55 < a) → M a = I a := fun a b1 b2 => by rw [← hM, up2_off b1, c3 a (by omega)]
      have em : f_M_restore FU (q : Int) M J = some (1, up2 (fillR M 331 0 250 (fun k => I 353 (250 * q + k))) 296 55 0) := by
        unfold f_M_restore
        rw [M_in, if_pos h1, Option.bind_some, if_neg (by decide), if_pos (by omega), Int.toNat_natCast, fM 352 (by decide) (by omega), if_pos (by omega)]
        rw [fill_loop 331 0 250 (fun k => I 353 (250 * q + k)) (by omega) (fun N => by dsimp only; unfold f_M_restore_L22; rw [if_pos (by omega)]) (fun i hi => by
          dsimp only
          unfold f_M_restore_L22
          rw [if_neg (by omega), w32i (x := 250 * (q : Int)) (by omega) (by omega), w32i (by omega) (by omega), if_pos (by omega), if_pos (by omega), w32i (by omega) (by omega), fillR_r (by decide), fM 353 (by decide) (by omega), show (250 * (q : Int) + (i : Int)).toNat = 250 * q + i by omega, Int.toNat_natCast, Nat.zero_add])]
        rfl
      generalize hN : up2 (fillR M 331 0 250 (fun k => I 353 (250 * q + k))) 296 55 0 = N at em
      have gN : ∀ a, a ≠ 331 → a ≠ 296 → N a = M a := fun a b1 b2 => by rw [← hN, up2_off b2, fillR_r b1]
      have g296 : ∀ k, k ≠ 55 → N 296 k = I 296 k := fun k hk => by rw [← hN, up2_k hk, fillR_r (by decide), fM 296 (by decide) (by omega)]
      refine ag_mk (fm := fun M => f_M_restore FU (q : Int) M J) (V := fun M => InvQ (j + 1) M J rv sp) ex em ?_ hrr hss
      refine invq_act (s := t) hp hρ hx hm hl ht hpl htl hk (fun a b1 b2 b3 b4 b5 => ?_) (fun a b1 => ?_) (fun k b1 b2 b3 => g296 k b2) ?_ ?_ (by omega) ?_ ?_
      · rw [gN a (by omega) (by omega), fM a (by omega) (by omega)]
      · rw [gN a (by omega) (by omega), fM a (by omega) (by omega)]
      · exact bedq_congr c2 (fun a b1 b2 => by rw [gN a (by omega) (by omega), ← hM, up2_off (by omega)])
      · intro k hk
        rw [← hN, up2_r (by decide), fillR_in0 hk]
        exact t2 k hk
      · obtain ⟨u, nx, hu, hnx, p1, p2, p3, p4⟩ := hpa
        refine ⟨0, nx, by omega, hnx, ?_, ?_, ?_, fun i hi => absurd hi (by omega)⟩
        · rw [gN 63 (by decide) (by decide), ← hM, up2_k (by decide), c3 63 (by omega)]; exact p1
        · rw [gN 63 (by decide) (by decide), ← hM, up2_same]; rfl
        · rw [← hN, up2_same]; rfl
      · refine sloq_congr hs (by omega) ?_ (fun a b1 b2 => ?_) ?_ ?_
        · rw [gN 241 (by decide) (by decide), fM 241 (by decide) (by omega)]
        · rw [gN a (by omega) (by omega), fM a (by omega) (by omega)]
        · rw [gN 352 (by decide) (by decide), fM 352 (by decide) (by omega)]
        · rw [gN 353 (by decide) (by decide), fM 353 (by decide) (by omega)]
  · refine ag_mk (r := 0) (M := I) (N := I) (fm := fun M => f_M_restore FU x1 M J) (V := fun M => InvQ (j + 1) M J rv sp) ?_ ?_ (invq_more j I J rv sp hI0) hrr hss
    · unfold f_X_restore
      by_cases h2 : x1 < 0
      · rw [if_pos h2]
      · rw [if_neg h2, if_pos (by omega)]
    · show f_M_restore FU x1 I J = _
      unfold f_M_restore
      rw [M_in, if_neg h1, Option.bind_some, if_pos rfl]
theorem invq_tol {n lv : Nat} {I I2 J : MI} {rv sp : Nat} {ρ : RIV} {s : BSt} (hp : isPair rv sp) (hρ : RivOK ρ) (hx : RivX I rv ρ) (hm : RivM I lv ρ) (hl : I 296 18 = (lv : Int)) (hb : BedQ I 49 ρ s) (hn : ∀ k, k < 250 → I 331 k = s.1 k) (hd : s.1 240 ≤ 100 * (n : Int)) (htp : TapQ I) (hpl : PlaQ I) (hpa : PasQ I ρ (100 * (n : Int))) (hs : SloQ I ρ (100 * (n : Int))) (hk : KeyQ J) (g : ∀ a, a ≠ 1 → a ≠ 242 → a ≠ 243 → a ≠ 296 → a ≠ 350 → a ≠ 351 → I2 a = I a) (g1 : ∀ k, k ≠ 12 → I2 1 k = I 1 k) (g2 : ∀ k, k ≠ 76 → I2 296 k = I 296 k) (ht : TolQ I2 ρ) : InvQ (n + 1) I2 J rv sp := by
  have hp' := hp
  unfold isPair at hp'
  refine ⟨ρ, s, lv, hp, hρ, rivx_congr hx (fun a b1 b2 b3 b4 => g a (by omega) (by omega) (by omega) (by omega) (by omega) (by omega)), rivm_congr hm (fun a b1 b2 => g a (by omega) (by omega) (by omega) (by omega) (by omega) (by omega)), by rw [g2 18 (by decide)]; exact hl, bedq_congr hb (fun a b1 b2 => g a (by omega) (by omega) (by omega) (by omega) (by omega) (by omega)), fun k hk => by rw [g 331 (by decide) (by decide) (by decide) (by decide) (by decide) (by decide)]; exact hn k hk, by omega, tapq_congr htp (by rw [g 2 (by decide) (by decide) (by decide) (by decide) (by decide) (by decide)]) (g2 2 (by decide)) (g 3 (by decide) (by decide) (by decide) (by decide) (by decide) (by decide)) (g 297 (by decide) (by decide) (by decide) (by decide) (by decide) (by decide)), ?_, pasq_congr hpa (by omega) (fun a b1 b2 => g a (by omega) (by omega) (by omega) (by omega) (by omega) (by omega)) (g2 55 (by decide)) (g 334 (by decide) (by decide) (by decide) (by decide) (by decide) (by decide)), sloq_congr hs (by omega) (g 241 (by decide) (by decide) (by decide) (by decide) (by decide) (by decide)) (fun a b1 b2 => g a (by omega) (by omega) (by omega) (by omega) (by omega) (by omega)) (g 352 (by decide) (by decide) (by decide) (by decide) (by decide) (by decide)) (g 353 (by decide) (by decide) (by decide) (by decide) (by decide) (by decide)), ht, hk⟩
  unfold PlaQ
  rw [g1 2 (by decide), g2 17 (by decide)]
  exact hpl
theorem ag_forget (j : Nat) (hj : j < 512) : ag_21 (InvQ j) (InvQ (j + 1)) := by
  intro I J rv sp hrr hss hI
  have hI0 := hI
  obtain ⟨ρ, s, lv, hp, hρ, hx, hm, hl, hb, hn, hd, ht, hpl, hpa, hs, htl, hk⟩ := hI
  obtain ⟨td, q1, q2, q3, q4⟩ := htl
  refine ag_mk (r := (td : Int)) (M := up2 I 1 12 0) (N := up2 (up2 I 1 12 0) 296 76 0) (fm := fun M => f_M_forget FU M J) (V := fun M => InvQ (j + 1) M J rv sp) ?_ ?_ ?_ hrr hss
  · unfold f_X_forget
    rw [q2]
  · show f_M_forget FU _ J = _
    unfold f_M_forget
    rw [up2_r (by decide), q3]
  · refine invq_tol hp hρ hx hm hl hb hn hd ht hpl hpa hs hk (fun a b1 b2 b3 b4 b5 b6 => by rw [up2_off b4, up2_off b1]) (fun k hk => by rw [up2_r (by decide), up2_k hk]) (fun k hk => by rw [up2_k hk, up2_r (by decide)]) ⟨0, by omega, ?_, ?_, fun i hi => absurd hi (by omega)⟩
    · rw [up2_r (by decide), up2_same]; rfl
    · rw [up2_same]; rfl
theorem ag_tell (j : Nat) (hj : j < 512) : ag_20 (InvQ j) (InvQ (j + 1)) := by
  intro I J rv sp x1 x2 x3 hrr hss hI _ _ _
  have hI0 := hI
  obtain ⟨ρ, s, lv, hp, hρ, hx, hm, hl, hb, hn, hd, ht, hpl, hpa, hs, htl, hk⟩ := hI
  have hL := hρ.1
  have hW := hρ.2.1
  obtain ⟨td, q1, q2, q3, q4⟩ := htl
  by_cases hok : td < 20 ∧ (0 ≤ x1 ∧ x1 < aL ρ ∧ 0 ≤ x2 ∧ x2 < aW ρ) ∧ 0 ≤ x3 ∧ x3 ≤ 99
  · obtain ⟨h1, h2, h3⟩ := hok
    obtain ⟨x, rfl⟩ : ∃ x : Nat, x1 = (x : Int) := ⟨x1.toNat, by omega⟩
    obtain ⟨y, rfl⟩ : ∃ y : Nat, x2 = (y : Int) := ⟨x2.toNat, by omega⟩
    have ex : f_X_tell FU (x : Int) (y : Int) x3 rv I = some ((td : Int), up2 (up2 (up2 I 242 td ((12 * y + x : Nat) : Int)) 243 td x3) 1 12 ((td : Int) + 1)) := by
      unfold f_X_tell
      rw [q2, if_neg (by omega), has_t (by rw [hx.1, hx.2.1]; exact h2), Option.bind_some, if_neg (by decide), if_neg (by omega), if_pos (by omega), cnum_eq (by omega) (by omega), Option.bind_some, if_pos (by omega), Int.toNat_natCast, up2_r (show (1 : Nat) ≠ 242 by decide), q2, if_pos (by omega), up2_same, Int.toNat_natCast, up2_r (show (1 : Nat) ≠ 243 by decide), up2_r (show (1 : Nat) ≠ 242 by decide), q2, w32i (x := (td : Int) + 1) (by omega) (by omega), w32i (by omega) (by omega)]
      congr 2; omega
    generalize hM : up2 (up2 (up2 I 242 td ((12 * y + x : Nat) : Int)) 243 td x3) 1 12 ((td : Int) + 1) = M at ex
    have fM : ∀ a, a ≠ 1 → a ≠ 242 → a ≠ 243 → M a = I a := fun a b1 b2 b3 => by rw [← hM, up2_off b1, up2_off b3, up2_off b2]
    have em : f_M_tell_ FU (x : Int) (y : Int) x3 M J = some ((td : Int), up2 (up2 (up2 M 350 td ((12 * y + x : Nat) : Int)) 351 td x3) 296 76 ((td : Int) + 1)) := by
      have q3M : M 296 76 = (td : Int) := by rw [fM 296 (by decide) (by decide) (by decide)]; exact q3
      unfold f_M_tell_
      rw [q3M, if_neg (by omega), M_isCell hρ (rivm_congr hm (fun a b1 b2 => fM a (by omega) (by omega) (by omega))) (by rw [fM 296 (by decide) (by decide) (by decide)]; exact hl), Option.bind_some, if_pos h2, if_neg (by decide), M_in, if_pos (by omega), Option.bind_some, if_pos (by decide), if_pos (by omega), Int.toNat_natCast, up2_r (show (296 : Nat) ≠ 350 by decide), q3M, if_pos (by omega), up2_same, Int.toNat_natCast, up2_r (show (296 : Nat) ≠ 351 by decide), up2_r (show (296 : Nat) ≠ 350 by decide), q3M, w32i (x := (td : Int) + 1) (by omega) (by omega), w32i (x := 12 * (y : Int)) (by omega) (by omega), w32i (x := 12 * (y : Int) + (x : Int)) (by omega) (by omega), w32i (by omega) (by omega), show 12 * (y : Int) + (x : Int) = ((12 * y + x : Nat) : Int) by omega]
      congr 2; omega
    generalize hN : up2 (up2 (up2 M 350 td ((12 * y + x : Nat) : Int)) 351 td x3) 296 76 ((td : Int) + 1) = N at em
    refine ag_mk (fm := fun M => f_M_tell_ FU (x : Int) (y : Int) x3 M J) (V := fun M => InvQ (j + 1) M J rv sp) ex em ?_ hrr hss
    have gN : ∀ a, a ≠ 296 → a ≠ 350 → a ≠ 351 → N a = M a := fun a b1 b2 b3 => by rw [← hN, up2_off b1, up2_off b3, up2_off b2]
    have k242 : ∀ i, N 242 i = if i = td then ((12 * y + x : Nat) : Int) else I 242 i := fun i => by rw [gN 242 (by decide) (by decide) (by decide), ← hM, up2_r (by decide), up2_r (by decide)]; unfold up2; simp
    have k243 : ∀ i, N 243 i = if i = td then x3 else I 243 i := fun i => by rw [gN 243 (by decide) (by decide) (by decide), ← hM, up2_r (by decide)]; unfold up2; simp
    have k350 : ∀ i, N 350 i = if i = td then ((12 * y + x : Nat) : Int) else I 350 i := fun i => by rw [← hN, up2_r (by decide), up2_r (by decide)]; unfold up2; simp [fM 350]
    have k351 : ∀ i, N 351 i = if i = td then x3 else I 351 i := fun i => by rw [← hN, up2_r (by decide)]; unfold up2; simp [fM 351]
    refine invq_tol hp hρ hx hm hl hb hn hd ht hpl hpa hs hk (fun a b1 b2 b3 b4 b5 b6 => by rw [gN a b4 b5 b6, fM a b1 b2 b3]) (fun k hk => ?_) (fun k hk => ?_) ⟨td + 1, by omega, ?_, ?_, fun i hi => ?_⟩
    · rw [gN 1 (by decide) (by decide) (by decide), ← hM, up2_k hk, up2_r (by decide), up2_r (by decide)]
    · rw [← hN, up2_k hk, up2_r (by decide), up2_r (by decide), fM 296 (by decide) (by decide) (by decide)]
    · rw [gN 1 (by decide) (by decide) (by decide), ← hM, up2_same]; omega
    · rw [← hN, up2_same]; omega
    · rw [k242, k243, k350, k351]
      by_cases e : i = td
      · rw [if_pos e, if_pos e, if_pos e, if_pos e]
        exact ⟨⟨12 * y + x, by omega, rfl, rfl, by omega, by omega⟩, rfl⟩
      · rw [if_neg e, if_neg e, if_neg e, if_neg e]
        exact q4 i (by omega)
  · refine ag_mk (r := -1) (M := I) (N := I) (fm := fun M => f_M_tell_ FU x1 x2 x3 M J) (V := fun M => InvQ (j + 1) M J rv sp) ?_ ?_ (invq_more j I J rv sp hI0) hrr hss
    · unfold f_X_tell
      rw [q2]
      by_cases h1 : 20 ≤ (td : Int)
      · rw [if_pos h1]
      rw [if_neg h1]
      by_cases h2 : 0 ≤ x1 ∧ x1 < aL ρ ∧ 0 ≤ x2 ∧ x2 < aW ρ
      · rw [has_t (by rw [hx.1, hx.2.1]; exact h2), Option.bind_some, if_neg (by decide)]
        by_cases h3 : x3 < 0
        · rw [if_pos h3]
        · rw [if_neg h3, if_neg (by omega)]
      · rw [has_f (by rw [hx.1, hx.2.1]; exact h2), Option.bind_some, if_pos rfl]
    · show f_M_tell_ FU x1 x2 x3 I J = _
      unfold f_M_tell_
      rw [q3]
      by_cases h1 : (td : Int) = 20
      · rw [if_pos h1]
      rw [if_neg h1, M_isCell hρ hm hl, Option.bind_some]
      by_cases h2 : 0 ≤ x1 ∧ x1 < aL ρ ∧ 0 ≤ x2 ∧ x2 < aW ρ
      · rw [if_pos h2, if_neg (by decide), M_in, if_neg (by omega), Option.bind_some, if_neg (by decide)]
      · rw [if_neg h2, if_pos rfl]
