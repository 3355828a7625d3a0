/-! the model's throw, what is kept on both sides -/
theorem ix8 {lv m : Nat} (h : lv < 2) (hm : m < 8) : w32 (w32 (8 * (lv : Int)) + (m : Int)) = ((8 * lv + m : Nat) : Int) := by
  rw [w32i (x := 8 * (lv : Int)) (by omega) (by omega), w32i (by omega) (by omega)]; omega
theorem M_left {F lv m : Nat} {I J : MI} {ρ : RIV} {s : BSt} (hF : 1000000 ≤ F) (hρ : RivOK ρ) (hr : RivM I lv ρ) (hl : I 296 18 = (lv : Int)) (hv : VOK ρ s) (hs : MSt I s) (hm : (m : Int) < aN ρ) : f_M_leftOf F (m : Int) I J = some (man ρ m - thA s m) := by
  have h8 := hρ.2.2.2.1.2
  have hman := (hρ.2.2.2.2.2.2.2.1 m hm).2.2.1
  have h9 := thA_nn (s := s) (m := m)
  have hth := thA_man hρ hv hm
  have hlv := hr.1
  unfold f_M_leftOf
  rw [iter_eq (e := man ρ m - thA s m) (fun q => ∃ j : Nat, (j : Int) ≤ man ρ m ∧ q.2 = (j : Int) ∧ q.1 = if (j : Int) ≤ thA s m then 0 else (j : Int) - thA s m) (fun q => (man ρ m - q.2).toNat) ?_ (by dsimp only; omega) ⟨0, by omega, rfl, by rw [if_pos (by omega)]⟩]
  · rfl
  rintro ⟨x, i⟩ ⟨j, h1, h2, h3⟩
  dsimp only at h2 h3 ⊢
  subst h2
  unfold f_M_leftOf_L4
  rw [hl, ix8 hlv (by omega)]
  refine wpo_g (by omega) ?_
  rw [Int.toNat_natCast, (hr.2.2.2.2.2.2.2.2.1 m hm).2.2.1]
  refine wpo_i (fun hc => wpo_s ?_) (fun hc => ?_)
  · have : (j : Int) = man ρ m := by omega
    show x = _
    rw [h3]
    split <;> omega
  have hj9 : j < 9 := by omega
  rw [w32i (x := 9 * (m : Int)) (by omega) (by omega), w32i (x := 9 * (m : Int) + (j : Int)) (by omega) (by omega)]
  refine wpo_g (by omega) ?_
  rw [show (9 * (m : Int) + (j : Int)).toNat = 9 * m + j by omega, hs.1 _ (by omega)]
  have hi := thA_iff hv (m := m) (j := j) (by omega) hj9
  rw [w32i (x := (j : Int) + 1) (by omega) (by omega)]
  refine wpo_i (fun hc2 => wpo_s ?_) (fun hc2 => wpo_s ?_)
  · refine ⟨⟨j + 1, by omega, by dsimp only; omega, ?_⟩, by dsimp only; omega⟩
    dsimp only
    rw [h3, if_pos (by omega), if_pos (by omega)]
  · have hx : x = (j : Int) - thA s m := by rw [h3]; split <;> omega
    rw [w32i (by omega) (by omega)]
    refine ⟨⟨j + 1, by omega, by dsimp only; omega, ?_⟩, by dsimp only; omega⟩
    dsimp only
    rw [if_neg (by omega)]
    omega
theorem M_may {F lv m : Nat} {I J : MI} {ρ : RIV} {s : BSt} (hF : 1000000 ≤ F) (hρ : RivOK ρ) (hr : RivM I lv ρ) (hl : I 296 18 = (lv : Int)) (hv : VOK ρ s) (hs : MSt I s) (hm : (m : Int) < aN ρ) : f_M_mayThrow F (m : Int) I J = some (mayA ρ s m) := by
  have h8 := hρ.2.2.2.1.2
  have hlv := hr.1
  unfold f_M_mayThrow
  rw [M_left hF hρ hr hl hv hs hm, Option.bind_some]
  unfold mayA
  by_cases h : man ρ m - thA s m ≤ 0
  · rw [if_pos h, if_neg (by omega)]
  · rw [if_neg h, hl, ix8 hlv (by omega), if_pos (by omega), Int.toNat_natCast, hs.1 240 (by omega), (hr.2.2.2.2.2.2.2.2.1 m hm).1]
    by_cases h2 : s.1 240 < fsd ρ m
    · rw [if_pos h2, if_neg (by omega)]
    · rw [if_neg h2, if_pos (by omega)]
theorem M_drift {F lv m y : Nat} {I J : MI} {ρ : RIV} (hρ : RivOK ρ) (hr : RivM I lv ρ) (hl : I 296 18 = (lv : Int)) (hm : (m : Int) < aN ρ) (hy : y < 8) : f_M_driftOf F (m : Int) (y : Int) I J = some (flo ρ y / siz ρ m) := by
  have h8 := hρ.2.2.2.1.2
  have hs := (hρ.2.2.2.2.2.2.2.1 m hm).2.1
  have hf := hρ.2.2.2.2.2.2.1 y hy
  have hlv := hr.1
  unfold f_M_driftOf
  rw [hl, ix8 hlv hy, ix8 hlv (by omega), if_pos (by omega), if_pos (by omega), Int.toNat_natCast, Int.toNat_natCast, hr.2.2.2.2.2.2.2.1 y hy, (hr.2.2.2.2.2.2.2.2.1 m hm).2.1, if_pos (by omega), div32_eq (by omega) (by omega) (by omega) (by omega)]
theorem M_throw {F lv m x y : Nat} {I J : MI} {ρ : RIV} {s : BSt} (hF : 1000000 ≤ F) (hρ : RivOK ρ) (hr : RivM I lv ρ) (hl : I 296 18 = (lv : Int)) (hv : VOK ρ s) (hs : MSt I s) (hm : (m : Int) < aN ρ) (hx : (x : Int) < aL ρ) (hy : (y : Int) < aW ρ) (hlf : 0 < man ρ m - thA s m) : ∃ I', f_M_throwsAt F (m : Int) (x : Int) (y : Int) I J = some (thrR ρ m x y, I') ∧ MSt I' (thrA ρ m x y (9 * m + (thA s m).toNat) s) ∧ ∀ a, a ≠ 332 → a ≠ 333 → I' a = I a := by
  have h8 := hρ.2.2.2.1.2
  have hL := hρ.1.2
  have hW := hρ.2.1.2
  have hman := (hρ.2.2.2.2.2.2.2.1 m hm).2.2.1
  have h9 := thA_nn (s := s) (m := m)
  have hd := drift_nn hρ hm (y := y) (by omega)
  have hlv := hr.1
  obtain ⟨j0, hj0⟩ : ∃ j : Nat, (j : Int) = thA s m := ⟨(thA s m).toNat, by omega⟩
  have hst : s.1 (9 * m + j0) = -1 := (thA_iff hv (by omega) (by omega)).mpr (by omega)
  have hloop : iter (fun q : Int => f_M_throwsAt_L6 F (m : Int) (x : Int) (y : Int) q I J) F (w32 (9 * (m : Int))) = some ((9 * m + j0 : Nat) : Int) := by
    rw [w32i (by omega) (by omega)]
    refine iter_eq (fun q => ∃ j : Nat, j ≤ j0 ∧ q = ((9 * m + j : Nat) : Int)) (fun q => (((9 * m + j0 : Nat) : Int) - q).toNat) ?_ (by omega) ⟨0, by omega, by omega⟩
    rintro q ⟨j, h1, h2⟩
    subst h2
    unfold f_M_throwsAt_L6
    refine wpo_g (by omega) ?_
    rw [Int.toNat_natCast, hs.1 _ (by omega)]
    have hi := thA_iff hv (m := m) (j := j) (by omega) (by omega)
    refine wpo_i (fun hc => wpo_s ?_) (fun hc => wpo_s ?_)
    · have : j = j0 := by omega
      rw [this]; rfl
    · rw [w32i (by omega) (by omega)]
      exact ⟨⟨j + 1, by omega, by omega⟩, by omega⟩
  unfold f_M_throwsAt
  rw [hloop, Option.bind_some, M_drift hρ hr hl hm (by omega), Option.bind_some, hl, if_pos (by omega), Int.toNat_natCast, hr.2.1, w32i (x := (x : Int) + flo ρ y / siz ρ m) (by omega) (by omega)]
  rw [← hj0, Int.toNat_natCast]
  have hs72 : 9 * m + j0 < 72 := by omega
  by_cases hin : (x : Int) + flo ρ y / siz ρ m < aL ρ
  · obtain ⟨c, hc⟩ : ∃ c : Nat, (c : Int) = 12 * (y : Int) + ((x : Int) + flo ρ y / siz ρ m) := ⟨(12 * (y : Int) + ((x : Int) + flo ρ y / siz ρ m)).toNat, by omega⟩
    have hc9 : c < 96 := by omega
    have h72 := vok_72 hv hc9
    have hres : thrR ρ m x y = (c : Int) := by unfold thrR; rw [if_neg (by omega)]; omega
    obtain ⟨p1, p2, p3, p4, p5⟩ := thr_in (s := s) hin hd.1 hc hs72 hc9
    have p6 : ∀ k, 240 ≤ k → (thrA ρ m x y (9 * m + j0) s).1 k = s.1 k := by
      intro k hk
      unfold thrA
      dsimp only
      rw [if_neg (by omega)]
      dsimp only
      rw [if_neg (by omega), if_neg (by omega), if_neg (by omega)]
    rw [if_pos hin, if_pos (by omega), w32i (x := 12 * (y : Int)) (by omega) (by omega), ← hc, w32i (x := (c : Int)) (by omega) (by omega), if_pos (by omega), w32i (x := 72 + ((9 * m + j0 : Nat) : Int)) (by omega) (by omega), if_pos (by omega), w32i (x := 144 + (c : Int)) (by omega) (by omega), if_pos (by omega), hres]
    simp only [Int.toNat_natCast, show (72 + ((9 * m + j0 : Nat) : Int)).toNat = 72 + (9 * m + j0) by omega, show (144 + (c : Int)).toNat = 144 + c by omega, up2_r (show (333 : Nat) ≠ 332 by decide)]
    rw [hs.2 c hc9, w32i (x := s.2 c + 1) (by omega) (by omega)]
    refine ⟨_, rfl, ⟨fun k hk => ?_, fun a ha => ?_⟩, fun a h1 h2 => by rw [up2_off h1, up2_off h2, up2_off h1, up2_off h1]⟩
    · by_cases e1 : k < 72
      · rw [p1 k e1, up2_k (by omega), up2_r (by decide), up2_k (by omega)]
        by_cases e : k = 9 * m + j0
        · rw [if_pos e, e, up2_same]
        · rw [if_neg e, up2_k e]; exact hs.1 k hk
      · by_cases e2 : k < 144
        · have := p2 (k - 72) (by omega)
          rw [show 72 + (k - 72) = k by omega] at this
          rw [this, up2_k (by omega), up2_r (by decide)]
          by_cases e : k - 72 = 9 * m + j0
          · rw [if_pos e, show k = 72 + (9 * m + j0) by omega, up2_same]
          · rw [if_neg e, up2_k (by omega), up2_k (by omega)]; exact hs.1 k hk
        · by_cases e3 : k < 240
          · have := p3 (k - 144) (by omega)
            rw [show 144 + (k - 144) = k by omega] at this
            rw [this]
            by_cases e : k - 144 = c
            · rw [if_pos e, show k = 144 + c by omega, up2_same]
            · rw [if_neg e, up2_k (by omega), up2_r (by decide), up2_k (by omega), up2_k (by omega)]; exact hs.1 k hk
          · rw [p6 k (by omega), up2_k (by omega), up2_r (by decide), up2_k (by omega), up2_k (by omega)]; exact hs.1 k hk
    · rw [p4, up2_r (by decide)]
      by_cases e : a = c
      · rw [if_pos e, e, up2_same]
      · rw [if_neg e, up2_k e, up2_r (by decide), up2_r (by decide)]; exact hs.2 a ha
  · have hres : thrR ρ m x y = -2 := by unfold thrR; rw [if_pos (by omega)]
    rw [if_neg hin, if_pos (by omega), hres, thr_out (by omega), Int.toNat_natCast]
    refine ⟨_, rfl, ⟨fun k hk => ?_, fun a ha => ?_⟩, fun a h1 h2 => by rw [up2_off h1]⟩ <;> dsimp only
    · by_cases e : k = 9 * m + j0
      · rw [if_pos e, e, up2_same]
      · rw [if_neg e, up2_k e]; exact hs.1 k hk
    · rw [up2_r (by decide)]; exact hs.2 a ha
theorem M_keeps {F u : Nat} (hF : 1000000 ≤ F) {I J : MI} (hu : u ≤ 25) (h : I 296 55 = (u : Int)) : ∃ I', f_M_keeps F I J = some I' ∧ (∀ k, k ≠ 55 → I' 296 k = I 296 k) ∧ I' 296 55 = ((if u = 25 then 25 else u + 1 : Nat) : Int) ∧ (∀ k, k < 250 → I' 331 k = I 332 k) ∧ (∀ j k, j < u → (u = 25 → 0 < j) → k < 250 → I' 334 (250 * (if u = 25 then j - 1 else j) + k) = I 334 (250 * j + k)) ∧ (∀ k, k < 250 → I' 334 (250 * (if u = 25 then 24 else u) + k) = I 331 k) ∧ ∀ a, a ≠ 331 → a ≠ 334 → a ≠ 296 → I' a = I a := by
  have body : ∀ (M : MI) (w : Nat), w < 25 → M 296 55 = (w : Int) → f_M_keeps_b50 F M J = some (fillR (up2 (fillR M 334 (250 * w) 250 (M 331)) 296 55 ((w : Int) + 1)) 331 0 250 (M 332)) := by
    intro M w hw hM
    unfold f_M_keeps_b50
    rw [fill_loop 334 (250 * w) 250 (M 331) (by omega) (fun N => by dsimp only; unfold f_M_keeps_L52; rw [if_pos (by omega)]) (fun j hj => by
      dsimp only
      unfold f_M_keeps_L52
      rw [if_neg (by omega), if_pos (by omega), fillR_r (by decide), fillR_r (by decide), hM, w32i (x := 250 * (w : Int)) (by omega) (by omega), w32i (by omega) (by omega), if_pos (by omega), w32i (by omega) (by omega), show (250 * (w : Int) + (j : Int)).toNat = 250 * w + j by omega, Int.toNat_natCast])]
    rw [Option.bind_some, fillR_r (show (296 : Nat) ≠ 334 by decide), hM, w32i (by omega) (by omega)]
    rw [fill_loop 331 0 250 (M 332) (by omega) (fun N => by dsimp only; unfold f_M_keeps_L98; rw [if_pos (by omega)]) (fun j hj => by
      dsimp only
      unfold f_M_keeps_L98
      rw [if_neg (by omega), if_pos (by omega), fillR_r (by decide), up2_r (by decide), fillR_r (by decide), w32i (by omega) (by omega)]
      simp)]
    rfl
  unfold f_M_keeps
  by_cases h25 : u = 25
  · subst h25
    rw [if_neg (by omega)]
    obtain ⟨n6, hn6⟩ : ∃ n : Nat, n = 6000 := ⟨_, rfl⟩
    have key : iter (fun s : Int × MI => f_M_keeps_L11 F s.1 s.2 J) F (0, I) = some (fillR I 334 0 n6 (fun k => I 334 (k + 250))) := by
      refine fill_loop 334 0 n6 (fun k => I 334 (k + 250)) (by omega) (fun N => by dsimp only; unfold f_M_keeps_L11; rw [if_pos (by omega)]) (fun j hj => ?_)
      dsimp only
      unfold f_M_keeps_L11
      rw [if_neg (by omega), w32i (by omega) (by omega), if_pos (by omega), if_pos (by omega), w32i (by omega) (by omega), show ((j : Int) + 250).toNat = j + 250 by omega, fillR_out (by omega), Int.toNat_natCast, Nat.zero_add]
    rw [key, Option.bind_some, fillR_r (show (296 : Nat) ≠ 334 by decide), h, w32i (by omega) (by omega), body _ 24 (by omega) (by rw [up2_same]; rfl)]
    refine ⟨_, rfl, fun k hk => ?_, ?_, fun k hk => ?_, fun j k hj hj0 hk => ?_, fun k hk => ?_, fun a h1 h2 h3 => ?_⟩
    · rw [fillR_r (by decide), up2_k hk, fillR_r (by decide), up2_k hk, fillR_r (by decide)]
    · rw [fillR_r (by decide), up2_same]; rfl
    · rw [fillR_in0 hk, up2_r (by decide), fillR_r (by decide)]
    · rw [if_pos rfl, fillR_r (by decide), up2_r (by decide), fillR_out (by omega), up2_r (by decide), fillR_in0 (by omega)]
      have := hj0 rfl
      congr 1; omega
    · rw [if_pos rfl, fillR_r (by decide), up2_r (by decide), fillR_in (by omega) (by omega), up2_r (by decide), fillR_r (by decide), show 250 * 24 + k - 250 * 24 = k by omega]
    · rw [fillR_r h1, up2_off h3, fillR_r h2, up2_off h3, fillR_r h2]
  · rw [if_pos (by omega), body I u (by omega) h]
    refine ⟨_, rfl, fun k hk => ?_, ?_, fun k hk => ?_, fun j k hj hj0 hk => ?_, fun k hk => ?_, fun a h1 h2 h3 => ?_⟩
    · rw [fillR_r (by decide), up2_k hk, fillR_r (by decide)]
    · rw [fillR_r (by decide), up2_same, if_neg h25]; omega
    · rw [fillR_in0 hk]
    · rw [if_neg h25, fillR_r (by decide), up2_r (by decide), fillR_out (by omega)]
    · rw [if_neg h25, fillR_r (by decide), up2_r (by decide), fillR_in (by omega) (by omega)]
      congr 1; omega
    · rw [fillR_r h1, up2_off h3, fillR_r h2]
theorem X_keep {F u nx : Nat} {I : MI} {ρ : RIV} {s : BSt} (hb : BedQ I 49 ρ s) (hu : u ≤ 25) (hn : nx < 25) (h1 : I 63 1 = (nx : Int)) (h2 : I 63 2 = (u : Int)) : ∃ I', f_P_keep F 49 I = some I' ∧ I' 63 1 = (((nx + 1) % 25 : Nat) : Int) ∧ I' 63 2 = ((if u = 25 then 25 else u + 1 : Nat) : Int) ∧ BedQ I' (65 + 7 * nx) ρ s ∧ ∀ a, a ≠ 63 → (a < 65 + 7 * nx ∨ 65 + 7 * nx + 6 < a) → I' a = I a := by
  obtain ⟨M, e, q, fr⟩ := copy_eq (F := F) (r0 := 65 + 7 * nx) hb (by omega)
  unfold f_P_keep
  rw [h1, if_pos (by omega), Int.toNat_natCast, e, Option.bind_some, fr 63 (by omega), h1, w32i (x := (nx : Int) + 1) (by omega) (by omega), rem32_eq (by omega) (by omega) (by omega) (by omega), up2_k (by decide), fr 63 (by omega), h2]
  have em : ((nx : Int) + 1) % 25 = (((nx + 1) % 25 : Nat) : Int) := by omega
  rw [em]
  by_cases h25 : 25 ≤ (u : Int)
  · rw [if_pos h25]
    refine ⟨_, rfl, up2_same, ?_, bedq_congr q (fun a b1 b2 => up2_off (by omega)), fun a b1 b2 => ?_⟩
    · rw [up2_k (by decide), fr 63 (by omega), h2, if_pos (by omega)]; omega
    · rw [up2_off b1]; exact fr a b2
  · rw [if_neg h25, w32i (by omega) (by omega)]
    refine ⟨_, rfl, ?_, ?_, bedq_congr q (fun a b1 b2 => by rw [up2_off (by omega), up2_off (by omega)]), fun a b1 b2 => ?_⟩
    · rw [up2_k (by decide), up2_same]
    · rw [up2_same, if_neg (by omega)]; omega
    · rw [up2_off b1, up2_off b1]; exact fr a b2
/-- what is kept, on both sides, after one thing more -/
theorem pas_new {I I1 I2 : MI} {ρ : RIV} {s : BSt} {d d' : Int} {u nx : Nat} (hd : d ≤ d') (hu : u ≤ 25) (hn : nx < 25) (hold : ∀ j, j < u → ∃ t : BSt, BedQ I (65 + 7 * ((nx + 25 - u + j) % 25)) ρ t ∧ (∀ k, k < 250 → I 334 (250 * j + k) = t.1 k) ∧ t.1 240 ≤ d)
    (x1 : I1 63 1 = (((nx + 1) % 25 : Nat) : Int)) (x2 : I1 63 2 = ((if u = 25 then 25 else u + 1 : Nat) : Int)) (x3 : BedQ I1 (65 + 7 * nx) ρ s) (x4 : ∀ a, 64 ≤ a → a ≤ 239 → (a < 65 + 7 * nx ∨ 65 + 7 * nx + 6 < a) → I1 a = I a) (hs : s.1 240 ≤ d') (hnow : ∀ k, k < 250 → I 331 k = s.1 k)
    (m0 : ∀ a, 63 ≤ a → a ≤ 239 → I2 a = I1 a) (m1 : I2 296 55 = ((if u = 25 then 25 else u + 1 : Nat) : Int)) (m2 : ∀ j k, j < u → (u = 25 → 0 < j) → k < 250 → I2 334 (250 * (if u = 25 then j - 1 else j) + k) = I 334 (250 * j + k)) (m3 : ∀ k, k < 250 → I2 334 (250 * (if u = 25 then 24 else u) + k) = I 331 k) : PasQ I2 ρ d' := by
  refine ⟨if u = 25 then 25 else u + 1, (nx + 1) % 25, by split <;> omega, by omega, by rw [m0 63 (by omega) (by omega)]; exact x1, by rw [m0 63 (by omega) (by omega)]; exact x2, m1, fun j hj => ?_⟩
  by_cases hlast : j = if u = 25 then 24 else u
  · refine ⟨s, ?_, fun k hk => ?_, hs⟩
    · have : ((nx + 1) % 25 + 25 - (if u = 25 then 25 else u + 1) + j) % 25 = nx := by
        rw [hlast]
        split <;> omega
      rw [this]
      exact bedq_congr x3 (fun a b1 b2 => m0 a (by omega) (by omega))
    · rw [hlast, m3 k hk]; exact hnow k hk
  · by_cases h25 : u = 25
    · rw [if_pos h25] at hj hlast ⊢
      obtain ⟨t, t1, t2, t3⟩ := hold (j + 1) (by omega)
      have e : (nx + 25 - u + (j + 1)) % 25 = ((nx + 1) % 25 + 25 - 25 + j) % 25 := by omega
      have hne : (nx + 25 - u + (j + 1)) % 25 ≠ nx := by omega
      rw [e] at t1 hne
      refine ⟨t, bedq_congr t1 (fun a b1 b2 => ?_), fun k hk => ?_, by omega⟩
      · rw [m0 a (by omega) (by omega)]
        exact x4 a (by omega) (by omega) (by omega)
      · have := m2 (j + 1) k (by omega) (by omega) hk
        rw [if_pos h25, show j + 1 - 1 = j by omega] at this
        rw [this]; exact t2 k hk
    · rw [if_neg h25] at hj hlast ⊢
      obtain ⟨t, t1, t2, t3⟩ := hold j (by omega)
      have e : (nx + 25 - u + j) % 25 = ((nx + 1) % 25 + 25 - (u + 1) + j) % 25 := by omega
      have hne : (nx + 25 - u + j) % 25 ≠ nx := by omega
      rw [e] at t1 hne
      refine ⟨t, bedq_congr t1 (fun a b1 b2 => ?_), fun k hk => ?_, by omega⟩
      · rw [m0 a (by omega) (by omega)]
        exact x4 a (by omega) (by omega) (by omega)
      · have := m2 j k (by omega) (by omega) hk
        rw [if_neg h25] at this
        rw [this]; exact t2 k hk
