/-! what is done: hurl, days, undo, hold, restore, tell, forget -/
theorem invq_act {n : Nat} {I I2 J : MI} {rv sp lv : Nat} {ρ : RIV} {s : BSt} (hp : isPair rv sp) (hρ : RivOK ρ) (hx : RivX I rv ρ) (hm : RivM I lv ρ) (hl : I 296 18 = (lv : Int)) (ht : TapQ I) (hpl : PlaQ I) (htl : TolQ I ρ) (hk : KeyQ J)
    (g1 : ∀ a, a ≤ 48 → a ≠ rv + 12 → a ≠ rv + 13 → a ≠ rv + 17 → a ≠ rv + 18 → I2 a = I a) (g2 : ∀ a, a = 242 ∨ a = 243 ∨ (297 ≤ a ∧ a ≤ 328) ∨ a = 350 ∨ a = 351 → I2 a = I a) (g3 : ∀ k, k ≠ 51 → k ≠ 55 → (k ≤ 55 ∨ k = 76) → I2 296 k = I 296 k)
    (hb : BedQ I2 49 ρ s) (hn : ∀ k, k < 250 → I2 331 k = s.1 k) (hd : s.1 240 ≤ 100 * ((n + 1 : Nat) : Int)) (hpa : PasQ I2 ρ (100 * ((n + 1 : Nat) : Int))) (hs : SloQ I2 ρ (100 * ((n + 1 : Nat) : Int))) : InvQ (n + 1) I2 J rv sp := by
  have hp' := hp
  unfold isPair at hp'
  refine ⟨ρ, s, lv, hp, hρ, rivx_congr hx (fun a b1 b2 b3 b4 => g1 a (by omega) (by omega) (by omega) (by omega) (by omega)), rivm_congr hm (fun a b1 b2 => g2 a (by omega)), by rw [g3 18 (by decide) (by decide) (by decide)]; exact hl, hb, hn, hd, tapq_congr ht (by rw [g1 2 (by omega) (by omega) (by omega) (by omega) (by omega)]) (g3 2 (by decide) (by decide) (by decide)) (g1 3 (by omega) (by omega) (by omega) (by omega) (by omega)) (g2 297 (by omega)), ?_, hpa, hs, tolq_congr htl (by rw [g1 1 (by omega) (by omega) (by omega) (by omega) (by omega)]) (g3 76 (by decide) (by decide) (by decide)) (g2 242 (by omega)) (g2 243 (by omega)) (g2 350 (by omega)) (g2 351 (by omega)), hk⟩
  unfold PlaQ
  rw [g1 1 (by omega) (by omega) (by omega) (by omega) (by omega), g3 17 (by decide) (by decide) (by decide)]
  exact hpl
theorem X_isLeaver {F rv : Nat} {m : Int} {I : MI} : f_X_isLeaver F m rv I = some (if 0 ≤ m ∧ m < I rv 5 then 1 else 0) := by
  unfold f_X_isLeaver
  by_cases h1 : m < 0
  · rw [if_pos h1, if_neg (by omega)]
  rw [if_neg h1]
  by_cases h2 : I rv 5 ≤ m
  · rw [if_pos h2, if_neg (by omega)]
  rw [if_neg h2, if_pos (by omega)]
theorem M_in {F : Nat} {x a b : Int} {I J : MI} : f_M_in F x a b I J = some (if a ≤ x ∧ x ≤ b then 1 else 0) := by
  unfold f_M_in
  by_cases h1 : x < a
  · rw [if_pos h1, if_neg (by omega)]
  rw [if_neg h1]
  by_cases h2 : b < x
  · rw [if_pos h2, if_neg (by omega)]
  rw [if_neg h2, if_pos (by omega)]
theorem M_isLeaver {F lv : Nat} {m : Int} {I J : MI} {ρ : RIV} (hρ : RivOK ρ) (hr : RivM I lv ρ) (hl : I 296 18 = (lv : Int)) : f_M_isLeaver F m I J = some (if 0 ≤ m ∧ m < aN ρ then 1 else 0) := by
  have h8 := hρ.2.2.2.1
  have hlv := hr.1
  unfold f_M_isLeaver
  rw [hl, if_pos (by omega), Int.toNat_natCast, hr.2.2.2.2.1, w32i (by omega) (by omega), M_in, Option.bind_some]
  by_cases h : 0 ≤ m ∧ m < aN ρ
  · rw [if_pos h, if_pos (by omega)]
  · rw [if_neg h, if_neg (by omega)]
theorem M_isCell {F lv : Nat} {x y : Int} {I J : MI} {ρ : RIV} (hρ : RivOK ρ) (hr : RivM I lv ρ) (hl : I 296 18 = (lv : Int)) : f_M_isCell F x y I J = some (if 0 ≤ x ∧ x < aL ρ ∧ 0 ≤ y ∧ y < aW ρ then 1 else 0) := by
  have hL := hρ.1
  have hW := hρ.2.1
  have hlv := hr.1
  unfold f_M_isCell
  rw [hl, if_pos (by omega), Int.toNat_natCast, hr.2.1, hr.2.2.1, w32i (x := aL ρ - 1) (by omega) (by omega), w32i (x := aW ρ - 1) (by omega) (by omega), M_in, Option.bind_some, M_in]
  by_cases h1 : 0 ≤ x ∧ x ≤ aL ρ - 1
  · rw [if_pos h1, if_neg (by decide), Option.bind_some]
    by_cases h2 : 0 ≤ y ∧ y ≤ aW ρ - 1
    · rw [if_pos h2, if_neg (by decide), if_pos (by omega)]
    · rw [if_neg h2, if_pos rfl, if_neg (by omega)]
  · rw [if_neg h1, if_pos rfl, if_neg (by omega)]
theorem mayA_01 {ρ : RIV} {s : BSt} {m : Nat} : mayA ρ s m = 0 ∨ (mayA ρ s m = 1 ∧ 0 < man ρ m - thA s m) := by
  unfold mayA
  split
  · right; omega
  · left; rfl
/-- whether a leaver may throw, on both sides -/
theorem M_can {F lv : Nat} (hF : 1000000 ≤ F) {m : Int} {I J : MI} {ρ : RIV} {s : BSt} (hρ : RivOK ρ) (hr : RivM I lv ρ) (hl : I 296 18 = (lv : Int)) (hv : VOK ρ s) (hn : ∀ k, k < 250 → I 331 k = s.1 k) : ∃ I', f_M_canThrow F m I J = some ((if 0 ≤ m ∧ m < aN ρ then mayA ρ s m.toNat else 0), I') ∧ (0 ≤ m ∧ m < aN ρ → MSt I' s) ∧ ∀ a, a ≠ 332 → a ≠ 333 → I' a = I a := by
  unfold f_M_canThrow
  rw [M_isLeaver hρ hr hl, Option.bind_some]
  by_cases h : 0 ≤ m ∧ m < aN ρ
  · rw [if_pos h, if_pos (by decide), if_pos h]
    obtain ⟨I', e, q, fr⟩ := M_copyq (F := F) (J := J) hF hv hn
    rw [e, Option.bind_some]
    have := M_may (F := F) (J := J) (m := m.toNat) hF hρ (rivm_congr hr (fun a b1 b2 => fr a (by omega) (by omega))) (by rw [fr 296 (by decide) (by decide)]; exact hl) hv q (by omega)
    rw [show ((m.toNat : Nat) : Int) = m by omega] at this
    rw [this, Option.bind_some]
    exact ⟨I', rfl, fun _ => q, fr⟩
  · rw [if_neg h, if_neg (by decide), if_neg h]
    exact ⟨I, rfl, fun h' => absurd h' h, fun _ _ _ => rfl⟩
theorem cname_eq {F c : Nat} {I : MI} (hc : c < 96) : f_X_cellName F (c : Int) I = some (((100 * (c / 12) + c % 12 : Nat) : Int)) := by
  unfold f_X_cellName
  rw [div32_eq (by omega) (by omega) (by omega) (by omega), rem32_eq (by omega) (by omega) (by omega) (by omega), w32i (x := 100 * ((c : Int) / 12)) (by omega) (by omega), w32i (by omega) (by omega)]
  congr 1 <;> omega
theorem ag_hurl (j : Nat) (hj : j < 512) : ag_7 (InvQ j) (InvQ (j + 1)) := by
  intro I J rv sp x1 x2 x3 hrr hss hI _ _ _
  have hF := FU_big
  have hI0 := hI
  obtain ⟨ρ, s, lv, hp, hρ, hx, hm, hl, hb, hn, hd, ht, hpl, hpa, hs, htl, hk⟩ := hI
  have hp' := hp
  unfold isPair at hp'
  have hN := hρ.2.2.2.1
  have hL := hρ.1
  have hW := hρ.2.1
  have hno : ∀ M, FrQ I M → f_X_hurl FU x1 x2 x3 rv I = some (-1, I) → f_M_hurl FU x1 x2 x3 I J = some (-1, M) → ∃ rx rm, f_X_hurl FU x1 x2 x3 rv I = some rx ∧ f_M_hurl FU x1 x2 x3 rx.2 J = some rm ∧ rx.1 = rm.1 ∧ InvQ (j + 1) rm.2 J rv sp ∧ isRiv rv ∧ isRiv sp := fun M fr e1 e2 =>
    ag_mk (fm := fun M => f_M_hurl FU x1 x2 x3 M J) (V := fun M => InvQ (j + 1) M J rv sp) e1 e2 (invq_keep hI0 frX_refl fr) hrr hss
  by_cases hcell : 0 ≤ x2 ∧ x2 < aL ρ ∧ 0 ≤ x3 ∧ x3 < aW ρ
  · obtain ⟨M1, c1, c2, c3⟩ := M_can (F := FU) (m := x1) (J := J) hF hρ hm hl hb.1 hn
    have em : f_M_hurl FU x1 x2 x3 I J = (f_M_canThrow FU x1 I J).bind fun q5 => (if ¬ q5.1 = 0 then ((f_M_throwsAt FU x1 x2 x3 q5.2 J).bind fun q9 => ((f_M_keeps FU q9.2 J).bind fun q12 => (if 0 ≤ q9.1 then (some ((w32 ((w32 (1000 + (w32 (100 * (div32 q9.1 12))))) + (rem32 q9.1 12))), q12)) else (some ((-2), q12))))) else (some ((-1), q5.2))) := by
      unfold f_M_hurl
      rw [M_isCell hρ hm hl, Option.bind_some, if_pos hcell, if_neg (by decide)]
    rw [c1, Option.bind_some] at em
    by_cases hlv : 0 ≤ x1 ∧ x1 < aN ρ
    · rw [if_pos hlv] at em
      obtain ⟨m, rfl⟩ : ∃ m : Nat, x1 = (m : Int) := ⟨x1.toNat, by omega⟩
      obtain ⟨x, rfl⟩ : ∃ x : Nat, x2 = (x : Int) := ⟨x2.toNat, by omega⟩
      obtain ⟨y, rfl⟩ : ∃ y : Nat, x3 = (y : Int) := ⟨x3.toNat, by omega⟩
      rw [Int.toNat_natCast] at em
      have emay := may_eq (F := FU) (b := 49) hρ hx hb.1 (hb.2.1.2.2.2.2.2.2.1 m (by omega)) hb.2.2 hlv.2
      rcases mayA_01 (ρ := ρ) (s := s) (m := m) with h0 | ⟨h1, hleft⟩
      · rw [h0] at em emay
        refine hno M1 (fr32_Q c3) ?_ (by rw [em, if_neg (by simp)])
        unfold f_X_hurl
        rw [X_isLeaver, if_pos (by rw [hx.2.2.2.1]; exact hlv), Option.bind_some, if_neg (by decide), has_t (by rw [hx.1, hx.2.1]; exact hcell), Option.bind_some, if_neg (by decide), emay, Option.bind_some, if_neg (by decide)]
      · rw [h1] at em emay
        rw [if_pos (by simp)] at em
        -- the class
        have hpa0 := hpa
        obtain ⟨u, nx, hu, hnx, p1, p2, p3, p4⟩ := hpa
        obtain ⟨I1, k1, k2, k3, k4, k5⟩ := X_keep (F := FU) hb hu hnx p1 p2
        have hb1 : BedQ I1 49 ρ s := bedq_congr hb (fun a b1 b2 => k5 a (by omega) (by omega))
        have hx1 : RivX I1 rv ρ := rivx_congr hx (fun a b1 b2 b3 b4 => k5 a (by omega) (by omega))
        obtain ⟨I2, t1, t2, t3⟩ := throw_eq (F := FU) (b := 49) (rv := rv) (m := m) (x := x) (y := y) hF ⟨Or.inl rfl, by omega⟩ hρ hx1 hb1 hlv.2 hcell.2.1 hcell.2.2.2 hleft
        generalize hS' : thrA ρ m x y (9 * m + (thA s m).toNat) s = s' at t2
        have hday' : s'.1 240 = s.1 240 := by
          rw [← hS']
          have h9 := thA_nn (s := s) (m := m)
          have hman := (hρ.2.2.2.2.2.2.2.1 m hlv.2).2.2.1
          exact thr_day (by omega) (by omega) (by omega) (drift_nn hρ hlv.2 (by omega)) hL.2
        have fr2 : ∀ a, a ≠ 63 → (a < 65 + 7 * nx ∨ 65 + 7 * nx + 6 < a) → (a < 49 ∨ 55 < a) → I2 a = I a := fun a b1 b2 b3 => (t3 a (by omega)).trans (k5 a b1 b2)
        have hrange : thrR ρ m x y = -2 ∨ (0 ≤ thrR ρ m x y ∧ thrR ρ m x y < 96) := by
          have := drift_nn hρ hlv.2 (y := y) (by omega)
          unfold thrR
          split
          · exact Or.inl rfl
          · right; omega
        have ex : f_X_hurl FU (m : Int) (x : Int) (y : Int) rv I = some ((if thrR ρ m x y = -2 then -2 else 1000 + ((100 * ((thrR ρ m x y).toNat / 12) + (thrR ρ m x y).toNat % 12 : Nat) : Int)), I2) := by
          unfold f_X_hurl
          rw [X_isLeaver, if_pos (by rw [hx.2.2.2.1]; exact hlv), Option.bind_some, if_neg (by decide), has_t (by rw [hx.1, hx.2.1]; exact hcell), Option.bind_some, if_neg (by decide), emay, Option.bind_some, if_pos (by decide), k1, Option.bind_some, t1, Option.bind_some]
          dsimp only
          by_cases hr2 : thrR ρ m x y = -2
          · rw [if_neg (by omega), if_pos hr2]
          · rw [if_pos hr2, if_neg hr2, show thrR ρ m x y = (((thrR ρ m x y).toNat : Nat) : Int) by omega, cname_eq (by omega), Option.bind_some, w32i (by omega) (by omega), Int.toNat_natCast]
        -- the model, on what the class left
        have g32 : ∀ a, 240 ≤ a → I2 a = I a := fun a b1 => fr2 a (by omega) (by omega) (by omega)
        obtain ⟨N1, c1', c2', c3'⟩ := M_can (F := FU) (m := (m : Int)) (I := I2) (J := J) hF hρ (rivm_congr hm (fun a b1 b2 => g32 a (by omega))) (by rw [g32 296 (by omega)]; exact hl) hb.1 (fun k hk => by rw [g32 331 (by omega)]; exact hn k hk)
        have hmN : RivM N1 lv ρ := rivm_congr hm (fun a b1 b2 => by rw [c3' a (by omega) (by omega), g32 a (by omega)])
        have hlN : N1 296 18 = (lv : Int) := by rw [c3' 296 (by decide) (by decide), g32 296 (by omega)]; exact hl
        obtain ⟨N2, d1, d2, d3⟩ := M_throw (F := FU) (J := J) (m := m) (x := x) (y := y) hF hρ hmN hlN hb.1 (c2' hlv) hlv.2 hcell.2.1 hcell.2.2.2 hleft
        rw [hS'] at d2
        have hN255 : N2 296 55 = (u : Int) := by rw [d3 296 (by decide) (by decide), c3' 296 (by decide) (by decide), g32 296 (by omega)]; exact p3
        obtain ⟨N3, f0, f1, f2, f3, f4, f5, f6⟩ := M_keeps (F := FU) (J := J) hF hu hN255
        have em2 : f_M_hurl FU (m : Int) (x : Int) (y : Int) I2 J = some ((if thrR ρ m x y = -2 then -2 else 1000 + ((100 * ((thrR ρ m x y).toNat / 12) + (thrR ρ m x y).toNat % 12 : Nat) : Int)), N3) := by
          unfold f_M_hurl
          rw [M_isCell hρ (rivm_congr hm (fun a b1 b2 => g32 a (by omega))) (by rw [g32 296 (by omega)]; exact hl), Option.bind_some, if_pos hcell, if_neg (by decide), c1', Option.bind_some, if_pos hlv, Int.toNat_natCast, h1, if_pos (by simp), d1, Option.bind_some, f0, Option.bind_some]
          dsimp only
          by_cases hr2 : thrR ρ m x y = -2
          · rw [if_neg (by omega), if_pos hr2]
          · rw [if_pos (by omega), if_neg hr2, div32_eq (by omega) (by omega) (by omega) (by omega), rem32_eq (by omega) (by omega) (by omega) (by omega), w32i (x := 100 * (thrR ρ m x y / 12)) (by omega) (by omega), w32i (x := 1000 + 100 * (thrR ρ m x y / 12)) (by omega) (by omega), w32i (by omega) (by omega)]
            congr 2
            omega
        have gN : ∀ a, a ≠ 331 → a ≠ 334 → a ≠ 296 → a ≠ 332 → a ≠ 333 → N3 a = I2 a := fun a b1 b2 b3 b4 b5 => by rw [f6 a b1 b2 b3, d3 a b4 b5, c3' a b4 b5]
        have g296 : ∀ k, k ≠ 55 → N3 296 k = I 296 k := fun k hk => by rw [f1 k hk, d3 296 (by decide) (by decide), c3' 296 (by decide) (by decide), g32 296 (by omega)]
        refine ag_mk (fm := fun M => f_M_hurl FU (m : Int) (x : Int) (y : Int) M J) (V := fun M => InvQ (j + 1) M J rv sp) ex em2 ?_ hrr hss
        refine invq_act (s := s') hp hρ hx hm hl ht hpl htl hk (fun a b1 b2 b3 b4 b5 => ?_) (fun a b1 => ?_) (fun k b1 b2 b3 => g296 k b2) ?_ ?_ (by omega) ?_ ?_
        · rw [gN a (by omega) (by omega) (by omega) (by omega) (by omega), fr2 a (by omega) (by omega) (by omega)]
        · rw [gN a (by omega) (by omega) (by omega) (by omega) (by omega), g32 a (by omega)]
        · exact bedq_congr t2 (fun a b1 b2 => gN a (by omega) (by omega) (by omega) (by omega) (by omega))
        · intro k hk
          rw [f3 k hk, d2.1 k hk]
        · refine pas_new (d := 100 * (j : Int)) (s := s) (I := I) (I1 := I2) (by omega) hu hnx p4 ?_ ?_ ?_ ?_ (by omega) hn ?_ f2 (fun j' k hj' hj0 hk => ?_) (fun k hk => ?_)
          · rw [t3 63 (by omega)]; exact k2
          · rw [t3 63 (by omega)]; exact k3
          · exact bedq_congr k4 (fun a b1 b2 => t3 a (by omega))
          · intro a b1 b2 b3
            exact fr2 a (by omega) b3 (by omega)
          · intro a b1 b2
            exact gN a (by omega) (by omega) (by omega) (by omega) (by omega)
          · rw [f4 j' k hj' hj0 hk, d3 334 (by decide) (by decide), c3' 334 (by decide) (by decide), g32 334 (by omega)]
          · rw [f5 k hk, d3 331 (by decide) (by decide), c3' 331 (by decide) (by decide), g32 331 (by omega)]
        · refine sloq_congr hs (by omega) ?_ (fun a b1 b2 => ?_) ?_ ?_
          · rw [gN 241 (by omega) (by omega) (by omega) (by omega) (by omega), g32 241 (by omega)]
          · rw [gN a (by omega) (by omega) (by omega) (by omega) (by omega), g32 a (by omega)]
          · rw [gN 352 (by omega) (by omega) (by omega) (by omega) (by omega), g32 352 (by omega)]
          · rw [gN 353 (by omega) (by omega) (by omega) (by omega) (by omega), g32 353 (by omega)]
    · rw [if_neg hlv] at em
      refine hno M1 (fr32_Q c3) ?_ (by rw [em, if_neg (by simp)])
      unfold f_X_hurl
      rw [X_isLeaver, if_neg (by rw [hx.2.2.2.1]; exact hlv), Option.bind_some, if_pos rfl]
  · refine hno I frQ_refl ?_ ?_
    · unfold f_X_hurl
      rw [X_isLeaver, Option.bind_some]
      by_cases hlv : 0 ≤ x1 ∧ x1 < I rv 5
      · rw [if_pos hlv, if_neg (by decide), has_f (by rw [hx.1, hx.2.1]; exact hcell), Option.bind_some, if_pos rfl]
      · rw [if_neg hlv, if_pos rfl]
    · unfold f_M_hurl
      rw [M_isCell hρ hm hl, Option.bind_some, if_neg hcell, if_pos rfl]
theorem days_loop {F lv n : Nat} {I J : MI} {ρ : RIV} {s : BSt} (hF : 1000000 ≤ F) (hρ : RivOK ρ) (hr : RivM I lv ρ) (hl : I 296 18 = (lv : Int)) (hv : VOK ρ s) (hs : MSt I s) (hd : s.1 240 ≤ 900000) (hn : n ≤ 1000) {st : Int × MI → Option (MI ⊕ (Int × MI))} (he : ∀ M, st ((n : Int), M) = some (.inl M)) (hst : ∀ (i : Nat) (M : MI), i < n → st ((i : Int), M) = (f_M_dayGoes F M J).bind fun q => some (.inr ((i : Int) + 1, q))) : ∃ I', iter st F (0, I) = some I' ∧ MSt I' (daysA ρ 0 (aW ρ).toNat n s) ∧ VOK ρ (daysA ρ 0 (aW ρ).toNat n s) ∧ FrM I I' := by
  refine wpo_iter (Q := fun I' => MSt I' (daysA ρ 0 (aW ρ).toNat n s) ∧ VOK ρ (daysA ρ 0 (aW ρ).toNat n s) ∧ FrM I I') (fun q => ∃ i : Nat, i ≤ n ∧ q.1 = (i : Int) ∧ MSt q.2 (daysA ρ 0 (aW ρ).toNat i s) ∧ VOK ρ (daysA ρ 0 (aW ρ).toNat i s) ∧ FrM I q.2) (fun q => n - q.1.toNat) ?_ (by dsimp only; omega) ⟨0, by omega, rfl, hs, hv, frM_refl⟩
  rintro ⟨x, N⟩ ⟨i, h1, h2, h3, h4, h5⟩
  dsimp only at h2 h3 h4 h5 ⊢
  subst h2
  by_cases e : i = n
  · subst e
    rw [he]
    exact wpo_s ⟨h3, h4, h5⟩
  · have hdi := daysA_day (ρ := ρ) (a := 0) (w := (aW ρ).toNat) i s
    obtain ⟨I', e1, c1, c2, c3⟩ := M_day (F := F) (J := J) hF hρ (rivm_fr hr h5) (by rw [h5.2 18 (by decide)]; exact hl) h4 h3 (by omega)
    rw [hst i N (by omega), e1, Option.bind_some]
    exact wpo_s ⟨⟨i + 1, by omega, by dsimp only; omega, c1, c2, frM_trans h5 c3⟩, by dsimp only; omega⟩
theorem ag_days (j : Nat) (hj : j < 512) : ag_8 (InvQ j) (InvQ (j + 1)) := by
  intro I J rv sp x1 hrr hss hI _
  have hF := FU_big
  have hI0 := hI
  obtain ⟨ρ, s, lv, hp, hρ, hx, hm, hl, hb, hn, hd, ht, hpl, hpa, hs, htl, hk⟩ := hI
  have hp' := hp
  unfold isPair at hp'
  have hW := hρ.2.1
  by_cases h1 : 0 ≤ x1 ∧ x1 ≤ 100
  · by_cases h0 : x1 = 0
    · refine ag_mk (r := s.1 240) (M := I) (N := I) (fm := fun M => f_M_days FU x1 M J) (V := fun M => InvQ (j + 1) M J rv sp) ?_ ?_ (invq_more j I J rv sp hI0) hrr hss
      · unfold f_X_days
        rw [if_neg (by omega), if_pos (by omega), if_pos (by omega)]
        unfold f_X_days_b47
        rw [hb.2.2]
      · show f_M_days FU x1 I J = _
        unfold f_M_days
        rw [M_in, if_pos h1, Option.bind_some, if_pos (by decide), if_neg (by omega), hn 240 (by omega)]
    · obtain ⟨n, rfl⟩ : ∃ n : Nat, x1 = (n : Int) := ⟨x1.toNat, by omega⟩
      have hpa0 := hpa
      obtain ⟨u, nx, hu, hnx, p1, p2, p3, p4⟩ := hpa
      obtain ⟨I1, k1, k2, k3, k4, k5⟩ := X_keep (F := FU) hb hu hnx p1 p2
      have hb1 : BedQ I1 49 ρ s := bedq_congr hb (fun a b1 b2 => k5 a (by omega) (by omega))
      have hx1 : RivX I1 rv ρ := rivx_congr hx (fun a b1 b2 b3 b4 => k5 a (by omega) (by omega))
      obtain ⟨I2, t1, t2, t3⟩ := passDays_eq (F := FU) (b := 49) (rv := rv) (a := 0) (w := (aW ρ).toNat) (n := n) hF ⟨Or.inl rfl, by omega⟩ hρ hx1 hb1 (by omega) (by omega) (by omega)
      have hday := daysA_day (ρ := ρ) (a := 0) (w := (aW ρ).toNat) n s
      generalize hS' : daysA ρ 0 (aW ρ).toNat n s = s' at t2 hday
      have fr2 : ∀ a, a ≠ 63 → (a < 65 + 7 * nx ∨ 65 + 7 * nx + 6 < a) → (a < 49 ∨ 55 < a) → a ≠ rv + 12 → a ≠ rv + 13 → a ≠ rv + 17 → a ≠ rv + 18 → I2 a = I a := fun a b1 b2 b3 b4 b5 b6 b7 => (t3 a (by omega) b4 b5 b6 b7).trans (k5 a b1 b2)
      have ex : f_X_days FU (n : Int) rv I = some (s.1 240 + n, I2) := by
        unfold f_X_days
        rw [if_neg (by omega), if_pos (by omega), if_neg (by omega), k1, Option.bind_some, hx1.2.1]
        have e9 : f_B_passDays FU 49 rv (n : Int) 0 (aW ρ) I1 = some I2 := by
          rw [show aW ρ = ((0 + (aW ρ).toNat : Nat) : Int) by omega]
          exact t1
        rw [e9, Option.bind_some]
        unfold f_X_days_b47
        rw [t2.2.2, hday]
      have g32 : ∀ a, 240 ≤ a → I2 a = I a := fun a b1 => fr2 a (by omega) (by omega) (by omega) (by omega) (by omega) (by omega) (by omega)
      obtain ⟨N1, c1, c2, c3⟩ := M_copyq (F := FU) (I := I2) (J := J) hF hb.1 (fun k hk => by rw [g32 331 (by omega)]; exact hn k hk)
      have hmN : RivM N1 lv ρ := rivm_congr hm (fun a b1 b2 => by rw [c3 a (by omega) (by omega), g32 a (by omega)])
      have hlN : N1 296 18 = (lv : Int) := by rw [c3 296 (by decide) (by decide), g32 296 (by omega)]; exact hl
      obtain ⟨N2, d1, d2, d2', d3⟩ := days_loop (F := FU) (n := n) (J := J) (st := fun s : Int × MI => f_M_days_L31 FU (n : Int) s.1 s.2 J) hF hρ hmN hlN hb.1 c2 (by omega) (by omega) (fun M => by dsimp only; unfold f_M_days_L31; rw [if_pos (by omega)]) (fun i M hi => by
        dsimp only
        unfold f_M_days_L31
        rw [if_neg (by omega), w32i (by omega) (by omega)])
      rw [hS'] at d2
      have hN255 : N2 296 55 = (u : Int) := by rw [d3.2 55 (by decide), c3 296 (by decide) (by decide), g32 296 (by omega)]; exact p3
      obtain ⟨N3, f0, f1, f2, f3, f4, f5, f6⟩ := M_keeps (F := FU) (J := J) hF hu hN255
      have em2 : f_M_days FU (n : Int) I2 J = some (s.1 240 + n, N3) := by
        unfold f_M_days
        rw [M_in, if_pos h1, Option.bind_some, if_pos (by decide), if_pos h0, c1, Option.bind_some, d1, Option.bind_some, f0, Option.bind_some, f3 240 (by omega), d2.1 240 (by omega), hday]
      have gN : ∀ a, a ≠ 331 → a ≠ 334 → a ≠ 296 → a ≠ 332 → a ≠ 333 → a ≠ 329 → a ≠ 330 → N3 a = I2 a := fun a b1 b2 b3 b4 b5 b6 b7 => by rw [f6 a b1 b2 b3, d3.1 a b6 b7 b4 b5 b3, c3 a b4 b5]
      have g296 : ∀ k, k ≠ 55 → k ≠ 51 → N3 296 k = I 296 k := fun k hk hk2 => by rw [f1 k hk, d3.2 k hk2, c3 296 (by decide) (by decide), g32 296 (by omega)]
      refine ag_mk (fm := fun M => f_M_days FU (n : Int) M J) (V := fun M => InvQ (j + 1) M J rv sp) ex em2 ?_ hrr hss
      refine invq_act (s := s') hp hρ hx hm hl ht hpl htl hk (fun a b1 b2 b3 b4 b5 => ?_) (fun a b1 => ?_) (fun k b1 b2 b3 => g296 k b2 b1) ?_ ?_ (by omega) ?_ ?_
      · rw [gN a (by omega) (by omega) (by omega) (by omega) (by omega) (by omega) (by omega), fr2 a (by omega) (by omega) (by omega) b2 b3 b4 b5]
      · rw [gN a (by omega) (by omega) (by omega) (by omega) (by omega) (by omega) (by omega), g32 a (by omega)]
      · exact bedq_congr t2 (fun a b1 b2 => gN a (by omega) (by omega) (by omega) (by omega) (by omega) (by omega) (by omega))
      · intro k hk
        rw [f3 k hk, d2.1 k hk]
      · refine pas_new (d := 100 * (j : Int)) (s := s) (I := I) (I1 := I2) (by omega) hu hnx p4 ?_ ?_ ?_ ?_ (by omega) hn ?_ f2 (fun j' k hj' hj0 hk => ?_) (fun k hk => ?_)
        · rw [t3 63 (by omega) (by omega) (by omega) (by omega) (by omega)]; exact k2
        · rw [t3 63 (by omega) (by omega) (by omega) (by omega) (by omega)]; exact k3
        · exact bedq_congr k4 (fun a b1 b2 => t3 a (by omega) (by omega) (by omega) (by omega) (by omega))
        · intro a b1 b2 b3
          exact fr2 a (by omega) b3 (by omega) (by omega) (by omega) (by omega) (by omega)
        · intro a b1 b2
          exact gN a (by omega) (by omega) (by omega) (by omega) (by omega) (by omega) (by omega)
        · rw [f4 j' k hj' hj0 hk, d3.1 334 (by decide) (by decide) (by decide) (by decide) (by decide), c3 334 (by decide) (by decide), g32 334 (by omega)]
        · rw [f5 k hk, d3.1 331 (by decide) (by decide) (by decide) (by decide) (by decide), c3 331 (by decide) (by decide), g32 331 (by omega)]
      · refine sloq_congr hs (by omega) ?_ (fun a b1 b2 => ?_) ?_ ?_
        · rw [gN 241 (by omega) (by omega) (by omega) (by omega) (by omega) (by omega) (by omega), g32 241 (by omega)]
        · rw [gN a (by omega) (by omega) (by omega) (by omega) (by omega) (by omega) (by omega), g32 a (by omega)]
        · rw [gN 352 (by omega) (by omega) (by omega) (by omega) (by omega) (by omega) (by omega), g32 352 (by omega)]
        · rw [gN 353 (by omega) (by omega) (by omega) (by omega) (by omega) (by omega) (by omega), g32 353 (by omega)]
  · refine ag_mk (r := -1) (M := I) (N := I) (fm := fun M => f_M_days FU x1 M J) (V := fun M => InvQ (j + 1) M J rv sp) ?_ ?_ (invq_more j I J rv sp hI0) hrr hss
    · unfold f_X_days
      by_cases h2 : x1 < 0
      · rw [if_pos h2]
      · rw [if_neg h2, if_neg (by omega)]
    · show f_M_days FU x1 I J = _
      unfold f_M_days
      rw [M_in, if_neg h1, Option.bind_some, if_neg (by decide)]
theorem ag_undo (j : Nat) (hj : j < 512) : ag_9 (InvQ j) (InvQ (j + 1)) := by
  intro I J rv sp hrr hss hI
  have hF := FU_big
  have hI0 := hI
  obtain ⟨ρ, s, lv, hp, hρ, hx, hm, hl, hb, hn, hd, ht, hpl, hpa, hs, htl, hk⟩ := hI
  have hp' := hp
  unfold isPair at hp'
  obtain ⟨u, nx, hu, hnx, p1, p2, p3, p4⟩ := hpa
  by_cases h0 : u = 0
  · refine ag_mk (r := 0) (M := I) (N := I) (fm := fun M => f_M_undo FU M J) (V := fun M => InvQ (j + 1) M J rv sp) ?_ ?_ (invq_more j I J rv sp hI0) hrr hss
    · unfold f_X_undo f_P_bringBack
      rw [p2, if_neg (by omega)]
      rfl
    · show f_M_undo FU I J = _
      unfold f_M_undo
      rw [p3, if_neg (by omega)]
  · obtain ⟨t, t1, t2, t3⟩ := p4 (u - 1) (by omega)
    have en : (nx + 25 - u + (u - 1)) % 25 = (nx + 24) % 25 := by omega
    rw [en] at t1
    generalize hK : (nx + 24) % 25 = nk at t1
    have hM : up2 (up2 I 63 1 (nk : Int)) 63 2 ((u : Int) - 1) = up2 (up2 I 63 1 (nk : Int)) 63 2 ((u : Int) - 1) := rfl
    obtain ⟨I1, c1, c2, c3⟩ := copy_eq (F := FU) (r0 := 49) (r1 := 65 + 7 * nk) (I := up2 (up2 I 63 1 (nk : Int)) 63 2 ((u : Int) - 1)) (bedq_congr t1 (fun a b1 b2 => by rw [up2_off (by omega), up2_off (by omega)])) (by omega)
    have ex : f_X_undo FU I = some (1, I1) := by
      unfold f_X_undo f_P_bringBack
      have e1 : rem32 (w32 (w32 (I 63 1 + 25) - 1)) 25 = (nk : Int) := by
        rw [p1, w32i (x := (nx : Int) + 25) (by omega) (by omega), w32i (by omega) (by omega), rem32_eq (by omega) (by omega) (by omega) (by omega)]
        omega
      rw [e1, p2, if_pos (by omega)]
      simp only [up2_same, up2_k (show (2 : Nat) ≠ 1 by decide), up2_k (show (1 : Nat) ≠ 2 by decide)]
      rw [p2, w32i (x := (u : Int) - 1) (by omega) (by omega), if_pos (by omega), Int.toNat_natCast, c1]
      rfl
    have fr : ∀ a, a ≠ 63 → (a < 49 ∨ 55 < a) → I1 a = I a := fun a b1 b2 => by rw [c3 a (by omega), up2_off b1, up2_off b1]
    have em : f_M_undo FU I1 J = some (1, fillR (up2 I1 296 55 ((u : Int) - 1)) 331 0 250 (fun k => I 334 (250 * (u - 1) + k))) := by
      unfold f_M_undo
      rw [fr 296 (by decide) (by decide), p3, if_pos (by omega), w32i (by omega) (by omega)]
      rw [fill_loop 331 0 250 (fun k => I 334 (250 * (u - 1) + k)) (by omega) (fun N => by dsimp only; unfold f_M_undo_L21; rw [if_pos (by omega)]) (fun i hi => by
        dsimp only
        unfold f_M_undo_L21
        rw [if_neg (by omega), fillR_r (by decide), up2_same, w32i (x := 250 * ((u : Int) - 1)) (by omega) (by omega), w32i (by omega) (by omega), if_pos (by omega), if_pos (by omega), w32i (by omega) (by omega), fillR_r (by decide), up2_r (by decide), fr 334 (by decide) (by decide), show (250 * ((u : Int) - 1) + (i : Int)).toNat = 250 * (u - 1) + i by omega, Int.toNat_natCast, Nat.zero_add])]
      rfl
    generalize hN : fillR (up2 I1 296 55 ((u : Int) - 1)) 331 0 250 (fun k => I 334 (250 * (u - 1) + k)) = N at em
    have gN : ∀ a, a ≠ 331 → a ≠ 296 → N a = I1 a := fun a b1 b2 => by rw [← hN, fillR_r b1, up2_off b2]
    have g296 : ∀ k, k ≠ 55 → N 296 k = I 296 k := fun k hk => by rw [← hN, fillR_r (by decide), up2_k hk, fr 296 (by decide) (by decide)]
    refine ag_mk (fm := fun M => f_M_undo FU M J) (V := fun M => InvQ (j + 1) M J rv sp) ex em ?_ hrr hss
    refine invq_act (s := t) hp hρ hx hm hl ht hpl htl hk (fun a b1 b2 b3 b4 b5 => ?_) (fun a b1 => ?_) (fun k b1 b2 b3 => g296 k b2) ?_ ?_ (by omega) ?_ ?_
    · rw [gN a (by omega) (by omega), fr a (by omega) (by omega)]
    · rw [gN a (by omega) (by omega), fr a (by omega) (by omega)]
    · exact bedq_congr c2 (fun a b1 b2 => gN a (by omega) (by omega))
    · intro k hk
      rw [← hN, fillR_in0 hk]
      exact t2 k hk
    · refine ⟨u - 1, nk, by omega, by omega, ?_, ?_, ?_, fun i hi => ?_⟩
      · rw [gN 63 (by decide) (by decide), c3 63 (by omega), up2_k (by decide), up2_same]
      · rw [gN 63 (by decide) (by decide), c3 63 (by omega), up2_same]; omega
      · rw [← hN, fillR_r (by decide), up2_same]; omega
      · obtain ⟨t', q1, q2, q3⟩ := p4 i (by omega)
        have e : (nx + 25 - u + i) % 25 = (nk + 25 - (u - 1) + i) % 25 := by omega
        rw [e] at q1
        refine ⟨t', bedq_congr q1 (fun a b1 b2 => ?_), fun k hk => ?_, by omega⟩
        · rw [gN a (by omega) (by omega), fr a (by omega) (by omega)]
        · rw [gN 334 (by decide) (by decide), fr 334 (by decide) (by decide)]; exact q2 k hk
    · refine sloq_congr hs (by omega) ?_ (fun a b1 b2 => ?_) ?_ ?_
      · rw [gN 241 (by decide) (by decide), fr 241 (by decide) (by decide)]
      · rw [gN a (by omega) (by omega), fr a (by omega) (by omega)]
      · rw [gN 352 (by decide) (by decide), fr 352 (by decide) (by decide)]
      · rw [gN 353 (by decide) (by decide), fr 353 (by decide) (by decide)]
