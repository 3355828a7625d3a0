/-! texts: the model reads, whole -/
theorem M_plain2 {F lv : Nat} (hF : 1000000 ≤ F) (hlv : lv < 2) {I J : MI} : ∃ I', f_M_plain F (lv : Int) I J = some I' ∧ RivM I' lv riv0 ∧ (∀ a, (a < 305 ∨ 320 < a) → I' a = I a) ∧ OthM lv I I' ∧ I' 307 lv = 0 ∧ ∀ q, q < 2 → I' 319 (2 * lv + q) = 0 ∧ I' 320 (2 * lv + q) = 0 := by
  have k3 := wpo_iter (F := F) (step := fun s : Int × MI => f_M_plain_L97 F (lv : Int) s.1 s.2 J) (Q := fun N => (∀ q, q < 2 → N 319 (2 * lv + q) = 0 ∧ N 320 (2 * lv + q) = 0) ∧ (∀ k, (k < 2 * lv ∨ 2 * lv + 2 ≤ k) → N 319 k = I 319 k ∧ N 320 k = I 320 k) ∧ ∀ a, a ≠ 319 → a ≠ 320 → N a = (fillR (fillR (up2 (up2 (up2 (up2 (up2 (up2 I 305 lv 8) 306 lv 4) 307 lv 0) 310 lv 1) 311 lv 0) 316 lv 0) 308 (96 * lv) 96 (fun _ => 1)) 309 (8 * lv) 8 (fun _ => 0)) a) (fun s => ∃ i : Nat, i ≤ 2 ∧ s.1 = (i : Int) ∧ (∀ q, q < i → s.2 319 (2 * lv + q) = 0 ∧ s.2 320 (2 * lv + q) = 0) ∧ (∀ k, (k < 2 * lv ∨ 2 * lv + 2 ≤ k) → s.2 319 k = I 319 k ∧ s.2 320 k = I 320 k) ∧ ∀ a, a ≠ 319 → a ≠ 320 → s.2 a = (fillR (fillR (up2 (up2 (up2 (up2 (up2 (up2 I 305 lv 8) 306 lv 4) 307 lv 0) 310 lv 1) 311 lv 0) 316 lv 0) 308 (96 * lv) 96 (fun _ => 1)) 309 (8 * lv) 8 (fun _ => 0)) a) (fun s => 2 - s.1.toNat) ?_ (s := (0, fillR (fillR (up2 (up2 (up2 (up2 (up2 (up2 I 305 lv 8) 306 lv 4) 307 lv 0) 310 lv 1) 311 lv 0) 316 lv 0) 308 (96 * lv) 96 (fun _ => 1)) 309 (8 * lv) 8 (fun _ => 0))) (by dsimp only; omega) ⟨0, by omega, rfl, fun q hq => absurd hq (by omega), fun k _ => by
    dsimp only
    rw [fillR_r (by decide), fillR_r (by decide), fillR_r (by decide), fillR_r (by decide), up2_r (by decide), up2_r (by decide), up2_r (by decide), up2_r (by decide), up2_r (by decide), up2_r (by decide), up2_r (by decide), up2_r (by decide), up2_r (by decide), up2_r (by decide), up2_r (by decide), up2_r (by decide)]
    exact ⟨rfl, rfl⟩, fun _ _ _ => rfl⟩
  · obtain ⟨N, e, h1, h3, h2⟩ := k3
    obtain ⟨N', e', r', f'⟩ := M_plain (F := F) (lv := lv) hF hlv (I := I) (J := J)
    have hN : f_M_plain F (lv : Int) I J = some N := by
      unfold f_M_plain
      rw [if_pos (by omega), Int.toNat_natCast, fill_loop 308 (96 * lv) 96 (fun _ => 1) (by omega) (fun M => by
        dsimp only
        unfold f_M_plain_L45
        rw [if_pos (by omega)]) (fun j hj => by
        dsimp only
        unfold f_M_plain_L45
        rw [if_neg (by omega), w32i (x := 96 * (lv : Int)) (by omega) (by omega), w32i (by omega) (by omega), if_pos (by omega), w32i (by omega) (by omega), show (96 * (lv : Int) + (j : Int)).toNat = 96 * lv + j by omega]), Option.bind_some, fill_loop 309 (8 * lv) 8 (fun _ => 0) (by omega) (fun M => by
        dsimp only
        unfold f_M_plain_L71
        rw [if_pos (by omega)]) (fun j hj => by
        dsimp only
        unfold f_M_plain_L71
        rw [if_neg (by omega), w32i (x := 8 * (lv : Int)) (by omega) (by omega), w32i (by omega) (by omega), if_pos (by omega), w32i (by omega) (by omega), show (8 * (lv : Int) + (j : Int)).toNat = 8 * lv + j by omega]), Option.bind_some, e]
      rfl
    have hNN : N' = N := Option.some.inj (e'.symm.trans hN)
    subst hNN
    refine ⟨N', e', r', f', fun a a1 a2 k hk => ?_, ?_, h1⟩
    · by_cases c1 : a = 319
      · subst c1; exact (h3 k hk).1
      by_cases c2 : a = 320
      · subst c2; exact (h3 k hk).2
      by_cases c3 : 320 < a
      · rw [f' a (Or.inr c3)]
      rw [h2 a c1 c2]
      by_cases d1 : a = 309
      · subst d1
        have hk' : k < 8 * lv ∨ 8 * lv + 8 ≤ k := hk
        rw [fillR_out hk', fillR_r (by decide), up2_r (by decide), up2_r (by decide), up2_r (by decide), up2_r (by decide), up2_r (by decide), up2_r (by decide)]
      rw [fillR_r d1]
      by_cases d2 : a = 308
      · subst d2
        have hk' : k < 96 * lv ∨ 96 * lv + 96 ≤ k := hk
        rw [fillR_out hk', up2_r (by decide), up2_r (by decide), up2_r (by decide), up2_r (by decide), up2_r (by decide), up2_r (by decide)]
      rw [fillR_r d2]
      by_cases d3 : a ≤ 307 ∨ a = 310 ∨ a = 311 ∨ a = 316
      · have hw : wdR a = 1 := by
          have : a = 305 ∨ a = 306 ∨ a = 307 ∨ a = 310 ∨ a = 311 ∨ a = 316 := by omega
          rcases this with e | e | e | e | e | e <;> rw [e] <;> rfl
        rw [hw] at hk
        have hne : k ≠ lv := by omega
        rw [up2_ne (Or.inr hne), up2_ne (Or.inr hne), up2_ne (Or.inr hne), up2_ne (Or.inr hne), up2_ne (Or.inr hne), up2_ne (Or.inr hne)]
      · rw [up2_r (by omega), up2_r (by omega), up2_r (by omega), up2_r (by omega), up2_r (by omega), up2_r (by omega)]
    · rw [h2 307 (by decide) (by decide), fillR_r (by decide), fillR_r (by decide), up2_r (by decide), up2_r (by decide), up2_r (by decide), up2_same]
  · rintro ⟨x, N⟩ ⟨i, h1, h2, h3, h5, h4⟩
    dsimp only at h2 h3 h4 h5 ⊢
    subst h2
    unfold f_M_plain_L97
    refine wpo_i (fun hc => wpo_s ⟨fun q hq => h3 q (by omega), h5, h4⟩) (fun hc => ?_)
    rw [w32i (x := 2 * (lv : Int)) (by omega) (by omega), w32i (x := 2 * (lv : Int) + (i : Int)) (by omega) (by omega), w32i (x := (i : Int) + 1) (by omega) (by omega), show (2 * (lv : Int) + (i : Int)).toNat = 2 * lv + i by omega]
    refine wpo_g (by omega) (wpo_s ⟨⟨i + 1, by omega, by dsimp only; omega, fun q hq => ?_, fun k hk => ?_, fun a b1 b2 => ?_⟩, by dsimp only; omega⟩) <;> dsimp only
    · by_cases e : q = i
      · rw [e, up2_r (by decide), up2_same, up2_same]; exact ⟨rfl, rfl⟩
      · rw [up2_r (by decide), up2_k (by omega), up2_k (by omega)]; exact h3 q (by omega)
    · rw [up2_r (by decide), up2_k (by omega), up2_k (by omega)]; exact h5 k hk
    · rw [up2_off b2, up2_off b1]; exact h4 a b1 b2
/-- the copy of the tape -/
theorem copyM {F n : Nat} {I J : MI} (hF : 1000000 ≤ F) (hn : n ≤ 2000) (h4 : I 296 4 = (n : Int)) : ∃ I', iter (fun s : Int × MI => f_M_read_L10 F s.1 s.2 J) F (0, I) = some I' ∧ (∀ k, k < n → I' 298 k = b8 (I 297 k)) ∧ ∀ a, a ≠ 298 → I' a = I a := by
  have key := wpo_iter (step := fun s : Int × MI => f_M_read_L10 F s.1 s.2 J) (Q := fun N => (∀ k, k < n → N 298 k = b8 (I 297 k)) ∧ ∀ a, a ≠ 298 → N a = I a) (fun s => ∃ i : Nat, i ≤ n ∧ s.1 = (i : Int) ∧ (∀ k, k < i → s.2 298 k = b8 (I 297 k)) ∧ ∀ a, a ≠ 298 → s.2 a = I a) (fun s => n - s.1.toNat) ?_ (F := F) (s := ((0 : Int), I)) (by dsimp only; omega) ⟨0, by omega, rfl, fun k hk => absurd hk (by omega), fun _ _ => rfl⟩
  · obtain ⟨N, e, q1, q2⟩ := key
    exact ⟨N, e, q1, q2⟩
  rintro ⟨x, N⟩ ⟨i, h1, h2, h3, h5⟩
  dsimp only at h2 h3 h5 ⊢
  subst h2
  unfold f_M_read_L10
  rw [h5 296 (by decide), h4]
  refine wpo_i (fun hc => wpo_s ⟨fun k hk => h3 k (by omega), h5⟩) (fun hc => wpo_g (by omega) ?_)
  rw [Int.toNat_natCast, w32i (by omega) (by omega), h5 297 (by decide)]
  refine wpo_s ⟨⟨i + 1, by omega, by dsimp only; omega, fun k hk => ?_, fun a ha => ?_⟩, by dsimp only; omega⟩
  · dsimp only
    by_cases e : k = i
    · rw [e, up2_same]
    · rw [up2_k e]; exact h3 k (by omega)
  · dsimp only
    rw [up2_off ha]; exact h5 a ha
theorem cutAllM {F n : Nat} {I J : MI} {B : Nat → Int} (hF : 1000000 ≤ F) (h : TpM I B n) (hJ : KeyQ J) : ∃ (I' J' : MI) (nt : Nat), f_M_cut F I J = some (I', J') ∧ TkM I' J' B n nt ∧ (∀ a, a ≠ 296 → a ≠ 299 → a ≠ 300 → a ≠ 301 → I' a = I a) ∧ (∀ k, k ≠ 10 → I' 296 k = I 296 k) ∧ ∀ a, a ≠ 302 → J' a = J a := by
  have h0 : TpM (up2 I 296 10 0) B n := tpm_congr h (up2_k (by decide)) (up2_off (by decide))
  obtain ⟨I1, J1, nt, hc, h1, h2, h3, h4, h5⟩ := cutM (F := F) hF h0 hJ up2_same
  unfold f_M_cut
  have k4 : ∀ k, k ≠ 10 → I1 296 k = I 296 k := fun k hk => by rw [h4 k hk, up2_k hk]
  have ka : ∀ a, a ≠ 296 → a ≠ 299 → a ≠ 300 → a ≠ 301 → I1 a = I a := fun a a1 a2 a3 a4 => by rw [h3 a a1 a2 a3 a4, up2_off a1]
  rcases hc with ⟨e, hnt, h10, hns⟩ | ⟨e, hnt⟩
  · rw [e, Option.bind_some]
    dsimp only
    rw [tokenM h10 (by omega), Option.bind_some]
    refine ⟨_, _, nt, rfl, ⟨h1, fun j hj => ?_, fun _ => ⟨?_, ?_⟩⟩, fun a a1 a2 a3 a4 => ?_, fun k hk => ?_, fun a ha => ?_⟩
    · obtain ⟨g1, g2, g3, g4, g5⟩ := h2 j hj
      have hne : j ≠ nt := by omega
      have z9 : (up2 (up2 (up2 (up2 I1 299 nt 0) 300 nt (I1 296 4)) 301 nt 0) 296 10 ((nt : Int) + 1)) 299 j = I1 299 j := by rw [up2_r (by decide), up2_r (by decide), up2_r (by decide), up2_k hne]
      have z0 : (up2 (up2 (up2 (up2 I1 299 nt 0) 300 nt (I1 296 4)) 301 nt 0) 296 10 ((nt : Int) + 1)) 300 j = I1 300 j := by rw [up2_r (by decide), up2_r (by decide), up2_k hne, up2_r (by decide)]
      have z1 : (up2 (up2 (up2 (up2 I1 299 nt 0) 300 nt (I1 296 4)) 301 nt 0) 296 10 ((nt : Int) + 1)) 301 j = I1 301 j := by rw [up2_r (by decide), up2_k hne, up2_r (by decide), up2_r (by decide)]
      have z2 : up2 J1 302 nt 0 302 j = J1 302 j := up2_k hne
      dsimp only
      rw [z9, z0, z1, z2]
      exact ⟨g1, g2, g3, g4, g5⟩
    · dsimp only
      rw [up2_r (by decide), up2_r (by decide), up2_r (by decide), up2_same]
    · dsimp only
      rw [up2_r (by decide), up2_r (by decide), up2_same, k4 4 (by decide)]
      exact h.2.1
    · dsimp only
      rw [up2_off a1, up2_off a4, up2_off a3, up2_off a2]
      exact ka a a1 a2 a3 a4
    · dsimp only
      rw [up2_k hk, up2_r (by decide), up2_r (by decide), up2_r (by decide)]
      exact k4 k hk
    · dsimp only
      rw [up2_off ha]; exact h5 a ha
  · rw [e, Option.bind_some]
    exact ⟨I1, J1, nt, rfl, ⟨h1, h2, fun hx => by omega⟩, ka, k4, h5⟩
