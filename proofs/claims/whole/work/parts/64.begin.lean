/-! the two objects as they begin -/
def bs0 : BSt := (fun k => if k < 72 then -1 else 0, fun _ => 0)
theorem vok_0 {ρ : RIV} : VOK ρ bs0 := by
  refine ⟨fun k hk => Or.inl (if_pos hk), fun j k hj hk h => ?_, fun c l hc h1 h2 => absurd h2 (by show ¬ l < 0; omega), fun c hc => ⟨Int.le_refl 0, fun _ => if_neg (by omega), ?_, ?_⟩, fun m j hm hj h => absurd (if_pos (by omega)) h, ?_⟩
  · have : bs0.1 j = -1 := if_pos hj
    rw [this] at h
    exact absurd h (by decide)
  · have : bs0.1 (144 + c) = 0 := if_neg (by omega)
    rw [this]; decide
  · have : bs0.1 (144 + c) = 0 := if_neg (by omega)
    rw [this]; decide
  · exact Int.le_refl 0
theorem X_begin {F rv : Nat} (hF : 1000000 ≤ F) {I : MI} {ρ : RIV} : ∃ I', f_X_beginAnew F I = some I' ∧ BedQ I' 49 ρ bs0 ∧ I' 63 2 = 0 ∧ (∀ k, k ≠ 2 → I' 63 k = I 63 k) ∧ I' 1 12 = 0 ∧ (∀ k, k ≠ 12 → I' 1 k = I 1 k) ∧ (∀ i, i < 3 → I' 241 i = 0) ∧ ∀ a, (a < 49 ∨ 55 < a) → a ≠ 63 → a ≠ 1 → a ≠ 241 → I' a = I a := by
  refine ⟨fillR (up2 (up2 (fillA (fillA (fillA (fillA (fillA (fillA (up2 I 49 0 0) (49 + 1) 96 0) (49 + 2) 96 (-1)) (49 + 3) 96 0) (49 + 4) 72 (-1)) (49 + 5) 8 0) (49 + 6) 8 0) 63 2 0) 1 12 0) 241 0 3 (fun _ => 0), ?_, ⟨vok_0, ⟨?_, ?_, ?_, ?_, ?_, ?_, ?_, ?_⟩, ?_⟩, ?_, ?_, ?_, ?_, ?_, ?_⟩
  · unfold f_X_beginAnew f_B_clear f_P_clear
    rw [Option.bind_some, Option.bind_some, fill_loop 241 0 3 (fun _ => 0) (by omega) (fun M => by
      dsimp only
      unfold f_X_beginAnew_L21
      rw [if_pos (by omega)]) (fun j hj => by
      dsimp only
      unfold f_X_beginAnew_L21
      rw [if_neg (by omega), if_pos (by omega), w32i (by omega) (by omega), Int.toNat_natCast, Nat.zero_add])]
    rfl
  · intro c hc
    rw [fillR_r (by decide), up2_r (by decide), up2_r (by decide)]
    simp [fillA, hc, bs0]
  · intro c hc _
    rw [fillR_r (by decide), up2_r (by decide), up2_r (by decide)]
    simp [fillA, hc]
  · intro k hk h
    have : bs0.1 k = -1 := if_pos hk
    omega
  · intro k hk h
    have : bs0.1 k = -1 := if_pos hk
    omega
  · intro j k hj hk h
    have : bs0.1 j = -1 := if_pos hj
    omega
  · intro c hc h
    exact absurd h (Int.lt_irrefl 0)
  · intro m hm
    rw [cnt_none (fun j hj => by
      have : bs0.1 (9 * m + j) = -1 := if_pos (by omega)
      rw [this]; rfl), fillR_r (by decide), up2_r (by decide), up2_r (by decide)]
    simp [fillA, hm]
  · intro m hm
    rw [cnt_none (fun j hj => by
      have : bs0.1 (9 * m + j) = -1 := if_pos (by omega)
      rw [this]; rfl), fillR_r (by decide), up2_r (by decide), up2_r (by decide)]
    simp [fillA, hm]
  · rw [fillR_r (by decide), up2_r (by decide), up2_r (by decide)]
    simp [fillA, bs0, up2]
  · rw [fillR_r (by decide), up2_r (by decide), up2_same]
  · intro k hk
    rw [fillR_r (by decide), up2_r (by decide), up2_k hk]
    simp [fillA, up2]
  · rw [fillR_r (by decide), up2_same]
  · intro k hk
    rw [fillR_r (by decide), up2_k hk, up2_r (by decide)]
    simp [fillA, up2]
  · intro i hi
    rw [fillR_in (by omega) (by omega)]
  · intro a h1 h2 h3 h4
    funext k
    rw [fillR_r h4, up2_r h3, up2_r h2]
    unfold fillA
    rw [if_neg (by omega), if_neg (by omega), if_neg (by omega), if_neg (by omega), if_neg (by omega), if_neg (by omega), up2_r (by omega)]
theorem M_begin {F : Nat} (hF : 1000000 ≤ F) {I J : MI} : ∃ I', f_M_begins F I J = some I' ∧ (∀ k, k < 250 → I' 331 k = bs0.1 k) ∧ ∀ a, a ≠ 331 → I' a = I a := by
  refine ⟨fillR I 331 0 250 bs0.1, ?_, fun k hk => fillR_in0 hk, fun a h => fillR_r h⟩
  unfold f_M_begins
  rw [fill_loop 331 0 250 bs0.1 (by omega) (fun M => by
      dsimp only
      unfold f_M_begins_L2
      rw [if_pos (by omega)]) (fun j hj => by
      dsimp only
      unfold f_M_begins_L2
      rw [if_neg (by omega)]
      by_cases h : (72 : Int) ≤ (j : Int)
      · rw [if_pos h]
        unfold f_M_begins_b25in2
        rw [if_pos (by omega), w32i (by omega) (by omega), Int.toNat_natCast, Nat.zero_add, show bs0.1 j = 0 from if_neg (by omega)]
      · rw [if_neg h]
        unfold f_M_begins_b25in2
        rw [if_pos (by omega), w32i (by omega) (by omega), Int.toNat_natCast, Nat.zero_add, show bs0.1 j = -1 from if_pos (by omega)])]
  rfl
/-- the plain river -/
def riv0 : RIV := (fun a k => if a = 0 then (if k = 0 then 8 else if k = 1 then 4 else if k = 2 then 1 else 0) else if a = 1 then 1 else 0, noLaw, noLaw)
theorem riv0_ok : RivOK riv0 := by
  refine ⟨by decide, by decide, by decide, by decide, by decide, fun c _ => ?_, fun y _ => ?_, fun m h => ?_, fun f h => ?_, noLaw_B, noLaw_B⟩
  · show (0 : Int) ≤ 1 ∧ (1 : Int) ≤ 9; decide
  · show (0 : Int) ≤ 0 ∧ (0 : Int) ≤ 9; decide
  · exact absurd h (by show ¬ (m : Int) < 0; omega)
  · exact absurd h (by show ¬ (f : Int) < 0; omega)
theorem M_plain {F lv : Nat} (hF : 1000000 ≤ F) (hlv : lv < 2) {I J : MI} : ∃ I', f_M_plain F (lv : Int) I J = some I' ∧ RivM I' lv riv0 ∧ ∀ a, (a < 305 ∨ 320 < a) → I' a = I a := by
  have k3 := wpo_iter (F := F) (step := fun s : Int × MI => f_M_plain_L97 F (lv : Int) s.1 s.2 J) (Q := fun N => (∀ q, q < 2 → N 319 (2 * lv + q) = 0 ∧ N 320 (2 * lv + q) = 0) ∧ ∀ a, a ≠ 319 → a ≠ 320 → N a = (fillR (fillR (up2 (up2 (up2 (up2 (up2 (up2 I 305 lv 8) 306 lv 4) 307 lv 0) 310 lv 1) 311 lv 0) 316 lv 0) 308 (96 * lv) 96 (fun _ => 1)) 309 (8 * lv) 8 (fun _ => 0)) a) (fun s => ∃ i : Nat, i ≤ 2 ∧ s.1 = (i : Int) ∧ (∀ q, q < i → s.2 319 (2 * lv + q) = 0 ∧ s.2 320 (2 * lv + q) = 0) ∧ ∀ a, a ≠ 319 → a ≠ 320 → s.2 a = (fillR (fillR (up2 (up2 (up2 (up2 (up2 (up2 I 305 lv 8) 306 lv 4) 307 lv 0) 310 lv 1) 311 lv 0) 316 lv 0) 308 (96 * lv) 96 (fun _ => 1)) 309 (8 * lv) 8 (fun _ => 0)) a) (fun s => 2 - s.1.toNat) ?_ (s := (0, fillR (fillR (up2 (up2 (up2 (up2 (up2 (up2 I 305 lv 8) 306 lv 4) 307 lv 0) 310 lv 1) 311 lv 0) 316 lv 0) 308 (96 * lv) 96 (fun _ => 1)) 309 (8 * lv) 8 (fun _ => 0))) (by dsimp only; omega) ⟨0, by omega, rfl, fun q hq => absurd hq (by omega), fun _ _ _ => rfl⟩
  · obtain ⟨N, e, h1, h2⟩ := k3
    have hz : ∀ q, q < 2 → LawM N (2 * lv + q) noLaw := fun q hq => ⟨noLaw_B, 0, 0, (h1 q hq).1, (h1 q hq).2, by omega, Or.inl ⟨rfl, rfl⟩⟩
    refine ⟨N, ?_, ⟨hlv, ?_, ?_, ?_, ?_, ?_, fun c hc => ?_, fun y hy => ?_, fun m h => absurd h (by show ¬ (m : Int) < 0; omega), fun f h => absurd h (by show ¬ (f : Int) < 0; omega), hz 0 (by omega), hz 1 (by omega)⟩, fun a ha => ?_⟩
    · unfold f_M_plain
      rw [if_pos (by omega), Int.toNat_natCast, fill_loop 308 (96 * lv) 96 (fun _ => 1) (by omega) (fun M => by
        dsimp only
        unfold f_M_plain_L45
        rw [if_pos (by omega)]) (fun j hj => by
        dsimp only
        unfold f_M_plain_L45
        rw [if_neg (by omega), w32i (x := 96 * (lv : Int)) (by omega) (by omega), w32i (by omega) (by omega), if_pos (by omega), w32i (by omega) (by omega), show (96 * (lv : Int) + (j : Int)).toNat = 96 * lv + j by omega]), Option.bind_some, fill_loop 309 (8 * lv) 8 (fun _ => 0) (by omega) (fun M => by
        dsimp only
        unfold f_M_plain_L71
        rw [if_pos (by omega)]) (fun j hj => by
        dsimp only
        unfold f_M_plain_L71
        rw [if_neg (by omega), w32i (x := 8 * (lv : Int)) (by omega) (by omega), w32i (by omega) (by omega), if_pos (by omega), w32i (by omega) (by omega), show (8 * (lv : Int) + (j : Int)).toNat = 8 * lv + j by omega]), Option.bind_some, e]
      rfl
    · rw [h2 305 (by decide) (by decide), fillR_r (by decide), fillR_r (by decide), up2_r (by decide), up2_r (by decide), up2_r (by decide), up2_r (by decide), up2_r (by decide), up2_same]; rfl
    · rw [h2 306 (by decide) (by decide), fillR_r (by decide), fillR_r (by decide), up2_r (by decide), up2_r (by decide), up2_r (by decide), up2_r (by decide), up2_same]; rfl
    · rw [h2 310 (by decide) (by decide), fillR_r (by decide), fillR_r (by decide), up2_r (by decide), up2_r (by decide), up2_same]; rfl
    · rw [h2 311 (by decide) (by decide), fillR_r (by decide), fillR_r (by decide), up2_r (by decide), up2_same]; rfl
    · rw [h2 316 (by decide) (by decide), fillR_r (by decide), fillR_r (by decide), up2_same]; rfl
    · rw [h2 308 (by decide) (by decide), fillR_r (by decide), fillR_in (by omega) (by omega)]; rfl
    · rw [h2 309 (by decide) (by decide), fillR_in (by omega) (by omega)]; rfl
    · rw [h2 a (by omega) (by omega), fillR_r (by omega), fillR_r (by omega)]
      funext k
      rw [up2_r (by omega), up2_r (by omega), up2_r (by omega), up2_r (by omega), up2_r (by omega), up2_r (by omega)]
  · rintro ⟨x, N⟩ ⟨i, h1, h2, h3, h4⟩
    dsimp only at h2 h3 h4 ⊢
    subst h2
    unfold f_M_plain_L97
    refine wpo_i (fun hc => wpo_s ⟨fun q hq => h3 q (by omega), h4⟩) (fun hc => ?_)
    rw [w32i (x := 2 * (lv : Int)) (by omega) (by omega), w32i (x := 2 * (lv : Int) + (i : Int)) (by omega) (by omega), w32i (x := (i : Int) + 1) (by omega) (by omega), show (2 * (lv : Int) + (i : Int)).toNat = 2 * lv + i by omega]
    refine wpo_g (by omega) (wpo_s ⟨⟨i + 1, by omega, by dsimp only; omega, fun q hq => ?_, fun a b1 b2 => ?_⟩, by dsimp only; omega⟩) <;> dsimp only
    · by_cases e : q = i
      · rw [e, up2_r (by decide), up2_same, up2_same]; exact ⟨rfl, rfl⟩
      · rw [up2_r (by decide), up2_k (by omega), up2_k (by omega)]; exact h3 q (by omega)
    · rw [up2_off b2, up2_off b1]; exact h4 a b1 b2
