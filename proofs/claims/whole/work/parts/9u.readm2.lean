/-! texts: the model's read -/
theorem rivm_of {B : Nat → Int} {n nt h b p : Nat} {I J : MI} {s : RIV × Nat × (Nat → Nat)} {full : Prop} (hh : h < 2) (H : DaM B n nt h I J s b p full) (hf : full) (hρ : RivOK s.1) (hb : b ≤ 130 * h + 130) (hp : p ≤ 420 * h + 420) : RivM I h s.1 := by
  obtain ⟨_, w2, w3, _, _, _, w7, w8, w9⟩ := H
  obtain ⟨r1, r2, r3, r4, r5, r6, r7⟩ := w9 hf
  exact ⟨hh, r1, r2, r3, w2.1, w3.1, r4, r5, r6, r7, lwO_M (Or.inl rfl) hh w7 hb hp hρ.2.2.2.2.2.2.2.2.2.1, lwO_M (Or.inr rfl) hh w8 hb hp hρ.2.2.2.2.2.2.2.2.2.2⟩
theorem helds {F : Nat} {I J : MI} (hF : 1000000 ≤ F) : ∃ I', iter (fun s : Int × MI => f_M_read_L215 F s.1 s.2 J) F (0, I) = some I' ∧ (∀ i, i < 3 → I' 352 i = 0) ∧ ∀ a, a ≠ 352 → I' a = I a := by
  have key := wpo_iter (step := fun s : Int × MI => f_M_read_L215 F s.1 s.2 J) (Q := fun N => (∀ k, k < 3 → N 352 k = 0) ∧ ∀ a, a ≠ 352 → N a = I a) (fun s => ∃ i : Nat, i ≤ 3 ∧ s.1 = (i : Int) ∧ (∀ k, k < i → s.2 352 k = 0) ∧ ∀ a, a ≠ 352 → s.2 a = I a) (fun s => 3 - s.1.toNat) ?_ (F := F) (s := ((0 : Int), I)) (by dsimp only; omega) ⟨0, by omega, rfl, fun k hk => absurd hk (by omega), fun _ _ => rfl⟩
  · obtain ⟨N, e, q1, q2⟩ := key
    exact ⟨N, e, q1, q2⟩
  rintro ⟨x, N⟩ ⟨i, h1, h2, h3, h5⟩
  dsimp only at h2 h3 h5 ⊢
  subst h2
  unfold f_M_read_L215
  refine wpo_i (fun hc => wpo_s ⟨fun k hk => h3 k (by omega), h5⟩) (fun hc => wpo_g (by omega) ?_)
  rw [Int.toNat_natCast, w32i (by omega) (by omega)]
  refine wpo_s ⟨⟨i + 1, by omega, by dsimp only; omega, fun k hk => ?_, fun a ha => ?_⟩, by dsimp only; omega⟩
  · dsimp only
    by_cases e : k = i
    · rw [e, up2_same]
    · rw [up2_k e]; exact h3 k (by omega)
  · dsimp only
    rw [up2_off ha]; exact h5 a ha
theorem readTextM {F n lv : Nat} {B : Nat → Int} {I J : MI} (hF : 1000000 ≤ F) (hn : n ≤ 2000) (h2 : I 296 2 = (n : Int)) (hB : ∀ k, k < n → and32 (I 297 k) 255 = B k) (hB2 : ∀ k, k < n → 0 ≤ B k ∧ B k ≤ 255) (hJ : KeyQ J) (hlv : lv < 2) (h18 : I 296 18 = (lv : Int)) : ∃ (I' J' : MI) (nt : Nat), NTk B n nt ∧ f_M_read F I J = some ((codeA (textA B n nt 402 sg0).1).1, I', J') ∧ KeyQ J' ∧ I' 296 17 = (codeA (textA B n nt 402 sg0).1).2 ∧ I' 296 2 = 0 ∧ OthM (1 - lv) I I' ∧ (∀ a, a ≠ 296 → (a < 298 ∨ 328 < a) → a ≠ 331 → a ≠ 352 → I' a = I a) ∧ (((codeA (textA B n nt 402 sg0).1).1 ≠ 0 ∧ I' 331 = I 331 ∧ I' 352 = I 352 ∧ I' 296 18 = I 296 18 ∧ I' 296 55 = I 296 55 ∧ I' 296 76 = I 296 76) ∨ ((codeA (textA B n nt 402 sg0).1).1 = 0 ∧ (∃ t lp, (textA B n nt 402 sg0).1 = .inr (t, 0, lp)) ∧ (∀ k, k < 250 → I' 331 k = bs0.1 k) ∧ (∀ i, i < 3 → I' 352 i = 0) ∧ I' 296 18 = ((1 - lv : Nat) : Int) ∧ I' 296 55 = 0 ∧ I' 296 76 = 0 ∧ (RivOK (textA B n nt 402 sg0).2.1 → RivM I' (1 - lv) (textA B n nt 402 sg0).2.1))) := by
  generalize hh' : 1 - lv = h at *
  have hh : h < 2 := by omega
  unfold f_M_read
  -- the copy
  obtain ⟨C, e1, c1, c2⟩ := copyM (F := F) (n := n) (J := J) (I := up2 I 296 4 (I 296 2)) hF hn (by rw [up2_same]; exact h2)
  rw [e1, Option.bind_some]
  have hC : TpM (up2 C 296 2 0) B n := by
    refine ⟨hn, by rw [up2_k (by decide), c2 296 (by decide), up2_same]; exact h2, fun k hk => ?_, hB2⟩
    rw [up2_off (by decide), c1 k hk, b8_and, up2_off (by decide)]
    exact hB k hk
  -- the cut
  obtain ⟨T, K, nt, e2, t1, t2, t3, t4⟩ := cutAllM (F := F) hF hC hJ
  rw [e2, Option.bind_some]
  dsimp only
  have kT : ∀ k, k ≠ 10 → k ≠ 2 → k ≠ 4 → T 296 k = I 296 k := fun k k1 k2 k3 => by rw [t3 k k1, up2_k k2, c2 296 (by decide), up2_k k3]
  have aT : ∀ a, a ≠ 296 → a ≠ 298 → a ≠ 299 → a ≠ 300 → a ≠ 301 → T a = I a := fun a a1 a2 a3 a4 a5 => by rw [t2 a a1 a3 a4 a5, up2_off a1, c2 a a2, up2_off a1]
  have hT18 : (up2 (up2 (up2 (up2 T 296 11 0) 296 12 0) 296 13 0) 296 15 0) 296 18 = (lv : Int) := by rw [up2_k (by decide), up2_k (by decide), up2_k (by decide), up2_k (by decide), kT 18 (by decide) (by decide) (by decide)]; exact h18
  have hw1 : w32 (1 - (lv : Int)) = (h : Int) := by rw [w32i (by omega) (by omega)]; omega
  rw [hT18, hw1]
  have y19 : (up2 (up2 (up2 (up2 (up2 (up2 T 296 11 0) 296 12 0) 296 13 0) 296 15 0) 296 19 (h : Int)) 296 20 0) 296 19 = (h : Int) := by rw [up2_k (by decide), up2_same]
  have y11 : (up2 (up2 (up2 (up2 (up2 (up2 T 296 11 0) 296 12 0) 296 13 0) 296 15 0) 296 19 (h : Int)) 296 20 0) 296 11 = 0 := by rw [up2_k (by decide), up2_k (by decide), up2_k (by decide), up2_k (by decide), up2_k (by decide), up2_same]
  have y12 : (up2 (up2 (up2 (up2 (up2 (up2 T 296 11 0) 296 12 0) 296 13 0) 296 15 0) 296 19 (h : Int)) 296 20 0) 296 12 = 0 := by rw [up2_k (by decide), up2_k (by decide), up2_k (by decide), up2_k (by decide), up2_same]
  have y13 : (up2 (up2 (up2 (up2 (up2 (up2 T 296 11 0) 296 12 0) 296 13 0) 296 15 0) 296 19 (h : Int)) 296 20 0) 296 13 = 0 := by rw [up2_k (by decide), up2_k (by decide), up2_k (by decide), up2_same]
  have y15 : (up2 (up2 (up2 (up2 (up2 (up2 T 296 11 0) 296 12 0) 296 13 0) 296 15 0) 296 19 (h : Int)) 296 20 0) 296 15 = 0 := by rw [up2_k (by decide), up2_k (by decide), up2_same]
  have y20 : (up2 (up2 (up2 (up2 (up2 (up2 T 296 11 0) 296 12 0) 296 13 0) 296 15 0) 296 19 (h : Int)) 296 20 0) 296 20 = 0 := up2_same
  have yk : ∀ k, k = 18 ∨ k = 55 ∨ k = 76 → (up2 (up2 (up2 (up2 (up2 (up2 T 296 11 0) 296 12 0) 296 13 0) 296 15 0) 296 19 (h : Int)) 296 20 0) 296 k = I 296 k := fun k hk => by rw [up2_k (by omega), up2_k (by omega), up2_k (by omega), up2_k (by omega), up2_k (by omega), up2_k (by omega), kT k (by omega) (by omega) (by omega)]
  have y2 : (up2 (up2 (up2 (up2 (up2 (up2 T 296 11 0) 296 12 0) 296 13 0) 296 15 0) 296 19 (h : Int)) 296 20 0) 296 2 = 0 := by rw [up2_k (by decide), up2_k (by decide), up2_k (by decide), up2_k (by decide), up2_k (by decide), up2_k (by decide), t3 2 (by decide), up2_same]
  have ya : ∀ a, a ≠ 296 → (up2 (up2 (up2 (up2 (up2 (up2 T 296 11 0) 296 12 0) 296 13 0) 296 15 0) 296 19 (h : Int)) 296 20 0) a = T a := fun a ha => by rw [up2_off ha, up2_off ha, up2_off ha, up2_off ha, up2_off ha, up2_off ha]
  rw [y19]
  generalize (up2 (up2 (up2 (up2 (up2 (up2 T 296 11 0) 296 12 0) 296 13 0) 296 15 0) 296 19 (h : Int)) 296 20 0) = Y at *
  -- the plain half
  obtain ⟨P, e3, p1, p2, p3, p4, p5⟩ := M_plain2 (F := F) (lv := h) hF hh (I := Y) (J := K)
  rw [e3, Option.bind_some]
  have pk : P 296 = Y 296 := p2 296 (by omega)
  have z19 : P 296 19 = (h : Int) := by rw [pk]; exact y19
  have z19' : up2 P 296 38 (w32 (130 * (P 296 19))) 296 19 = (h : Int) := by rw [up2_k (by decide)]; exact z19
  rw [z19', z19, w32i (x := 130 * (h : Int)) (by omega) (by omega), w32i (x := 420 * (h : Int)) (by omega) (by omega)]
  have zk : ∀ k, k ≠ 38 → k ≠ 44 → (up2 (up2 P 296 38 (130 * (h : Int))) 296 44 (420 * (h : Int))) 296 k = Y 296 k := fun k k1 k2 => by rw [up2_k k2, up2_k k1, pk]
  have z38 : (up2 (up2 P 296 38 (130 * (h : Int))) 296 44 (420 * (h : Int))) 296 38 = ((130 * h : Nat) : Int) := by rw [up2_k (by decide), up2_same]; omega
  have z44 : (up2 (up2 P 296 38 (130 * (h : Int))) 296 44 (420 * (h : Int))) 296 44 = ((420 * h : Nat) : Int) := by rw [up2_same]; omega
  have za : ∀ a, a ≠ 296 → (up2 (up2 P 296 38 (130 * (h : Int))) 296 44 (420 * (h : Int))) a = P a := fun a ha => by rw [up2_off ha, up2_off ha]
  generalize (up2 (up2 P 296 38 (130 * (h : Int))) 296 44 (420 * (h : Int))) = Z at *
  have hTk : TkM Z K B n nt := tkm_congr t1 (fun a a1 a2 => by rw [za a (by omega), p2 a (by omega), ya a (by omega)]) rfl
  obtain ⟨g0, g1, g2, g3, g4, g5, g6, g7, g8, g9, _⟩ := p1
  have hSg : SgM B n nt h Z K Z K sg0 := by
    refine ⟨hTk, ⟨Nat.zero_le _, Nat.zero_le _, by rw [zk 13 (by decide) (by decide)]; exact y13, by rw [zk 11 (by decide) (by decide)]; exact y11, by rw [zk 15 (by decide) (by decide)]; exact y15, by decide, fun hx => absurd rfl hx⟩, frR_refl, fun _ _ => rfl, fun t l lp hx => ?_⟩
    cases hx
    refine ⟨130 * h, 420 * h, ⟨⟨by rw [zk 12 (by decide) (by decide)]; exact y12, z38, z44⟩, ⟨by rw [za 311 (by decide)]; exact g4, by decide, by decide⟩, ⟨by rw [za 316 (by decide)]; exact g5, by decide, by decide⟩, ⟨by rw [za 307 (by decide)]; exact p4, by decide⟩, by rw [zk 20 (by decide) (by decide)]; exact y20, fun j hj => absurd hj (by show ¬ (j : Int) < 0; omega), ?_, ?_, fun _ => ?_⟩, by omega, Nat.le_refl _, Nat.le_refl _, by omega⟩
    · exact ⟨0, 0, by rw [za 319 (by decide)]; exact (p5 0 (by omega)).1, by rw [za 320 (by decide)]; exact (p5 0 (by omega)).2, Nat.zero_le _, Or.inl ⟨rfl, rfl⟩⟩
    · exact ⟨0, 0, by rw [za 319 (by decide)]; exact (p5 1 (by omega)).1, by rw [za 320 (by decide)]; exact (p5 1 (by omega)).2, Nat.zero_le _, Or.inl ⟨rfl, rfl⟩⟩
    · exact rvf_congr ⟨g1, g2, g3, g6, g7, g8, g9⟩ (fun a _ _ _ _ _ => za a (by omega))
  obtain ⟨E, J', e4, hE⟩ := textLM (F := F) hF hh (by rw [zk 19 (by decide) (by decide)]; exact y19) hSg
  rw [e4, Option.bind_some]
  dsimp only
  have tail : ∀ R : SgT, SgM B n nt h Z K E J' R → ∃ I' : MI, (if (E 296 13) ≤ 0 then (if (E 296 15) ≤ 0 then (f_M_read_b164 F (-1) E J') else (f_M_read_b164 F (E 296 16) E J')) else (f_M_read_b164 F (E 296 14) E J')) = some ((codeA R.1).1, I', J') ∧ KeyQ J' ∧ I' 296 17 = (codeA R.1).2 ∧ I' 296 2 = 0 ∧ OthM h I I' ∧ (∀ a, a ≠ 296 → (a < 298 ∨ 328 < a) → a ≠ 331 → a ≠ 352 → I' a = I a) ∧ (((codeA R.1).1 ≠ 0 ∧ I' 331 = I 331 ∧ I' 352 = I 352 ∧ I' 296 18 = I 296 18 ∧ I' 296 55 = I 296 55 ∧ I' 296 76 = I 296 76) ∨ ((codeA R.1).1 = 0 ∧ (∃ t lp, R.1 = .inr (t, 0, lp)) ∧ (∀ k, k < 250 → I' 331 k = bs0.1 k) ∧ (∀ i, i < 3 → I' 352 i = 0) ∧ I' 296 18 = ((h : Nat) : Int) ∧ I' 296 55 = 0 ∧ I' 296 76 = 0 ∧ (RivOK R.2.1 → RivM I' h R.2.1))) := by
    intro R hE
    obtain ⟨x1, x2, x3, x4, x5⟩ := hE
    have hKey : KeyQ J' := fun k hk => by rw [x4 303 (by decide), t4 303 (by decide)]; exact hJ k hk
    have ea : ∀ a, a ≠ 296 → (a < 298 ∨ 328 < a) → E a = I a := fun a a1 a2 => by rw [x3.1 a a1 (by omega), za a a1, p2 a (by omega), ya a a1, aT a a1 (by omega) (by omega) (by omega) (by omega)]
    have eo : OthM h I E := othM_trans (I' := P) (fun a a1 a2 k hk => by
      rw [p3 a a1 a2 k hk, ya a (by omega), aT a (by omega) (by omega) (by omega) (by omega) (by omega)]) (othM_trans (I' := Z) (fun a a1 a2 k _ => by rw [za a (by omega)]) x3.2.1)
    have ek : ∀ k, k = 18 ∨ k = 55 ∨ k = 76 → E 296 k = I 296 k := fun k hk => by rw [x3.2.2 k (by unfold keyR keyL keyE; omega), zk k (by omega) (by omega), yk k hk]
    have e2' : E 296 2 = 0 := by rw [x3.2.2 2 (by unfold keyR keyL keyE; omega), zk 2 (by decide) (by decide)]; exact y2
    have e19 : E 296 19 = (h : Int) := by rw [x3.2.2 19 (by unfold keyR keyL keyE; omega), zk 19 (by decide) (by decide)]; exact y19
    -- where it fails
    have fails : ∀ (c pl : Int), codeA R.1 = (c, pl) → c ≠ 0 → f_M_read_b164 F pl E J' = some (c, up2 E 296 17 pl, J') → ∃ I' : MI, f_M_read_b164 F pl E J' = some ((codeA R.1).1, I', J') ∧ KeyQ J' ∧ I' 296 17 = (codeA R.1).2 ∧ I' 296 2 = 0 ∧ OthM h I I' ∧ (∀ a, a ≠ 296 → (a < 298 ∨ 328 < a) → a ≠ 331 → a ≠ 352 → I' a = I a) ∧ (((codeA R.1).1 ≠ 0 ∧ I' 331 = I 331 ∧ I' 352 = I 352 ∧ I' 296 18 = I 296 18 ∧ I' 296 55 = I 296 55 ∧ I' 296 76 = I 296 76) ∨ ((codeA R.1).1 = 0 ∧ (∃ t lp, R.1 = .inr (t, 0, lp)) ∧ (∀ k, k < 250 → I' 331 k = bs0.1 k) ∧ (∀ i, i < 3 → I' 352 i = 0) ∧ I' 296 18 = ((h : Nat) : Int) ∧ I' 296 55 = 0 ∧ I' 296 76 = 0 ∧ (RivOK R.2.1 → RivM I' h R.2.1))) := by
      intro c pl hc hne hb
      rw [hc]
      refine ⟨_, hb, hKey, up2_same, by rw [up2_k (by decide)]; exact e2', othM_trans eo (othM_put (fun hx => by omega)), fun a a1 a2 _ _ => by rw [up2_off a1]; exact ea a a1 a2, Or.inl ⟨hne, by rw [up2_off (by decide)]; exact ea 331 (by decide) (by omega), by rw [up2_off (by decide)]; exact ea 352 (by decide) (by omega), by rw [up2_k (by decide)]; exact ek 18 (by omega), by rw [up2_k (by decide)]; exact ek 55 (by omega), by rw [up2_k (by decide)]; exact ek 76 (by omega)⟩⟩
    have u13 : ∀ v, up2 E 296 17 v 296 13 = E 296 13 := fun v => up2_k (by decide)
    have u15 : ∀ v, up2 E 296 17 v 296 15 = E 296 15 := fun v => up2_k (by decide)
    obtain ⟨r, s⟩ := R
    match r, x2, x5, fails with
    | .inl e, x2, x5, fails =>
      obtain ⟨k1, k2, k3⟩ := x2
      rw [if_neg (by rw [k2]; omega), k3]
      refine fails e.1 e.2 rfl (by omega) ?_
      unfold f_M_read_b164
      rw [u13, if_neg (by rw [k2]; omega), k2]
    | .inr (t, l, lp), x2, x5, fails =>
      obtain ⟨k1, k2, k3, k4, k5, k6, k7⟩ := x2
      have hc : codeA (.inr (t, l, lp)) = if l = 0 then (0, -1) else (l, lp) := rfl
      by_cases g : l = 0
      · subst g
        rw [if_pos (by omega), if_pos (by omega)]
        unfold f_M_read_b164
        rw [u13, u15, if_pos (by omega), if_pos (by omega)]
        obtain ⟨N, n1, n2, n3⟩ := M_begin (F := F) hF (I := up2 (up2 E 296 17 (-1)) 296 18 (up2 E 296 17 (-1) 296 19)) (J := J')
        obtain ⟨H, m1, m2, m3⟩ := helds (F := F) (J := J') (I := up2 (up2 N 296 55 0) 296 76 0) hF
        rw [n1, Option.bind_some, m1, Option.bind_some]
        obtain ⟨b, p, d, d1, d2, d3, d4⟩ := x5 t 0 lp rfl
        have hz : ∀ a, a ≠ 296 → a ≠ 331 → a ≠ 352 → H a = E a := fun a a1 a2 a3 => by rw [m3 a a3, up2_off a1, up2_off a1, n3 a a2, up2_off a1, up2_off a1]
        have hN : ∀ k, N 296 k = up2 (up2 E 296 17 (-1)) 296 18 (up2 E 296 17 (-1) 296 19) 296 k := fun k => by rw [n3 296 (by decide)]
        have hH : ∀ k, H 296 k = up2 (up2 N 296 55 0) 296 76 0 296 k := fun k => by rw [m3 296 (by decide)]
        refine ⟨H, rfl, hKey, ?_, ?_, othM_trans eo (fun a a1 a2 k _ => by rw [hz a (by omega) (by omega) (by omega)]), fun a a1 a2 a3 a4 => by rw [hz a a1 a3 a4]; exact ea a a1 a2, Or.inr ⟨rfl, ⟨t, lp, rfl⟩, fun k hk => ?_, m2, ?_, ?_, ?_, fun hρ => ?_⟩⟩
        · rw [hH, up2_k (by decide), up2_k (by decide), hN, up2_k (by decide), up2_same]; rfl
        · rw [hH, up2_k (by decide), up2_k (by decide), hN, up2_k (by decide), up2_k (by decide)]; exact e2'
        · rw [m3 331 (by decide), up2_off (by decide), up2_off (by decide)]; exact n2 k hk
        · rw [hH, up2_k (by decide), up2_k (by decide), hN, up2_same, up2_k (by decide)]; exact e19
        · rw [hH, up2_k (by decide), up2_same]
        · rw [hH, up2_same]
        · exact rivm_congr (rivm_of hh d rfl hρ (by omega) (by omega)) (fun a a1 a2 => hz a (by omega) (by omega) (by omega))
      · rw [if_neg g] at hc
        rw [if_pos (by omega), if_neg (by omega), (k7 g).1]
        refine fails l lp hc g ?_
        unfold f_M_read_b164
        rw [u13, u15, if_pos (by omega), if_neg (by omega), k5]
  obtain ⟨I', q⟩ := tail _ hE
  exact ⟨I', J', nt, t1.1, q⟩
