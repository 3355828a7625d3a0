/-! givers: the class's walks -/
def SW (N : Nat) (H : Nat → Prop) (A : Nat → Nat → Nat → Prop) (tf tk : Nat → Int) : Prop := ∃ rk : Nat → Nat, ∀ m, m < N → tf m ≠ -3 → rk m < N ∧ ((tf m = -2 ∧ H m) ∨ ∃ p s : Nat, p < N ∧ tf m = ((p : Nat) : Int) ∧ tk m = ((s : Nat) : Int) ∧ tf p ≠ -3 ∧ rk p < rk m ∧ A p s m)
theorem sq_walk {N : Nat} {H : Nat → Prop} {A : Nat → Nat → Nat → Prop} {tf tk q : Nat → Int} {tail : Nat} (h : SQ N H A tf tk q tail) : SW N H A tf tk := by
  have hle := sq_le h
  obtain ⟨rk, h1, h2, h3⟩ := h
  refine ⟨rk, fun m hm hf => ?_⟩
  obtain ⟨a, b, c⟩ := h3 m hm hf
  exact ⟨by omega, c⟩
/-- who is reached forwards and leads to one backwards: that one is reached -/
theorem sw_meet {N fr to x : Nat} {cap : Nat → Int} {ok : Nat → Nat → Prop} {a : Nat → Nat} {tf tk : Nat → Int} (h : SW N (fun m => m = x) (aBw cap ok fr to a) tf tk) {R : Nat → Prop} (hR : ∀ s m, fr ≤ s → s < to → m < N → R (a s) → caG cap ok s m → R m) {z : Nat} (hz : z < N) (hf : tf z ≠ -3) (hr : R z) : R x := by
  obtain ⟨rk, h1⟩ := h
  have key : ∀ (n z : Nat), rk z = n → z < N → tf z ≠ -3 → R z → R x := by
    intro n
    induction n using Nat.strongRecOn with
    | _ n ih =>
    intro z hn hz hf hr
    obtain ⟨a1, a2⟩ := h1 z hz hf
    rcases a2 with ⟨_, e⟩ | ⟨p, s, b1, b2, b3, b4, b5, b6, b7, b8, b9⟩
    · rw [← e]; exact hr
    · exact ih (rk p) (by omega) p rfl b1 b4 (hR s p b6 b7 b1 (by rw [b8]; exact hr) b9)
  exact key (rk z) z rfl hz hf hr
theorem passOn_eq {F N n k fr to last : Nat} (hF : 1000000 ≤ F) {I : MI} {cap : Nat → Int} {ok : Nat → Nat → Prop} {a : Nat → Nat} {H : Nat → Prop} (hN : N ≤ 8) (hn : n ≤ 72) (hto : to ≤ k) (hk : k ≤ n) (ha : ∀ s, s < k → I 267 s = ((a s : Nat) : Int)) (hw : SW N H (aFw cap ok fr to a) (I 270) (I 271)) (hl : last < N) (hf : I 270 last ≠ -3) : ∃ (h : Nat) (I' : MI) (a' : Nat → Nat), f_V_passOn F (last : Int) I = some ((h : Int), I') ∧ h < N ∧ H h ∧ (∀ s, s < k → I' 267 s = ((a' s : Nat) : Int)) ∧ (∀ b, b ≠ 267 → I' b = I b) ∧ (∀ s, a' s = a s ∨ (fr ≤ s ∧ s < to ∧ a s < N ∧ I 270 (a s) ≠ -3 ∧ caG cap ok s (a' s) ∧ a' s < N)) ∧ ∀ T : Nat → Bool, (∀ s, fr ≤ s → s < to → T s = true) → ∀ q, cT T n a' q = cT T n a q + dl last q - dl h q := by
  obtain ⟨rk, hw⟩ := hw
  unfold f_V_passOn
  have kk := wpo_iter (step := fun s : Int × Int × MI => f_V_passOn_L4 F s.1 s.2.1 s.2.2) (Q := fun e => ∃ (h : Nat) (a' : Nat → Nat), e.1 = (h : Int) ∧ h < N ∧ H h ∧ (∀ s, s < k → e.2 267 s = ((a' s : Nat) : Int)) ∧ (∀ b, b ≠ 267 → e.2 b = I b) ∧ (∀ s, a' s = a s ∨ (fr ≤ s ∧ s < to ∧ a s < N ∧ I 270 (a s) ≠ -3 ∧ caG cap ok s (a' s) ∧ a' s < N)) ∧ ∀ T : Nat → Bool, (∀ s, fr ≤ s → s < to → T s = true) → ∀ q, cT T n a' q = cT T n a q + dl last q - dl h q) (fun s => ∃ (m j : Nat) (a' : Nat → Nat), s.1 = (m : Int) ∧ s.2.1 = (j : Int) ∧ m < N ∧ I 270 m ≠ -3 ∧ j + rk m < N ∧ (∀ s', s' < k → s.2.2 267 s' = ((a' s' : Nat) : Int)) ∧ (∀ b, b ≠ 267 → s.2.2 b = I b) ∧ (∀ s', a' s' = a s' ∨ (fr ≤ s' ∧ s' < to ∧ a s' < N ∧ I 270 (a s') ≠ -3 ∧ rk m ≤ rk (a s') ∧ caG cap ok s' (a' s') ∧ a' s' < N)) ∧ ∀ T : Nat → Bool, (∀ s, fr ≤ s → s < to → T s = true) → ∀ q, cT T n a' q = cT T n a q + dl last q - dl m q) (fun s => rk s.1.toNat) ?_ (F := F) (s := ((last : Int), (0 : Int), I)) ?_ ?_
  · obtain ⟨⟨hh, I'⟩, e, h, a', q1, q2, q3, q4, q5, q6, q7⟩ := kk
    dsimp only at q1 q4 q5
    rw [e, Option.bind_some, q1]
    exact ⟨h, I', a', rfl, q2, q3, q4, q5, q6, q7⟩
  · rintro ⟨x, y, M⟩ ⟨m, j, a', p1, p2, p3, p4, p5, p6, p7, p8, p9⟩
    dsimp only at p1 p2 p6 p7 ⊢
    subst p1
    subst p2
    obtain ⟨r1, r2⟩ := hw m p3 p4
    unfold f_V_passOn_L4
    refine wpo_n (by omega) (wpo_g (by omega) ?_)
    rw [Int.toNat_natCast, p7 270 (by decide), p7 271 (by decide)]
    rcases r2 with ⟨e, hH⟩ | ⟨p, s, b1, b2, b3, b4, b5, b6, b7, b8, b9⟩
    · rw [e]
      refine wpo_g (by decide) (wpo_s ⟨m, a', rfl, p3, hH, p6, p7, fun s => ?_, p9⟩)
      rcases p8 s with c | ⟨c1, c2, c3, c4, c5, c6⟩
      · exact Or.inl c
      · exact Or.inr ⟨c1, c2, c3, c4, c6⟩
    · rw [b2, b3]
      refine wpo_n (by omega) (wpo_g (by omega) (wpo_s ?_))
      rw [Int.toNat_natCast, up2_r (show (270 : Nat) ≠ 267 by decide), p7 270 (by decide), b2, w32i (by omega) (by omega)]
      have es : a' s = p := by
        rcases p8 s with c | ⟨c1, c2, c3, c4, c5, c6⟩
        · rw [c]; exact b8
        · rw [b8] at c5; omega
      refine ⟨⟨p, j + 1, fun i => if i = s then m else a' i, rfl, by dsimp only; omega, b1, b4, by omega, fun s' hs' => ?_, fun b hb => ?_, fun s' => ?_, fun T hT q => ?_⟩, ?_⟩
      · dsimp only
        by_cases e : s' = s
        · rw [e, up2_same, if_pos rfl]
        · rw [up2_k e, if_neg e]; exact p6 s' hs'
      · dsimp only
        rw [up2_off hb]; exact p7 b hb
      · dsimp only
        by_cases e : s' = s
        · rw [if_pos e, e, b8]
          exact Or.inr ⟨b6, b7, b1, b4, Nat.le_refl _, b9, p3⟩
        · rw [if_neg e]
          rcases p8 s' with c | ⟨c1, c2, c3, c4, c5, c6⟩
          · exact Or.inl c
          · exact Or.inr ⟨c1, c2, c3, c4, by omega, c6⟩
      · rw [cT_upd (a := a') (b := fun i => if i = s then m else a' i) (by omega) (hT s b6 b7) (fun i _ hne => by rw [if_neg hne]) q, p9 T hT q, es]
        rw [if_pos rfl]
        omega
      · show rk ((p : Int)).toNat < rk ((m : Int)).toNat
        rw [Int.toNat_natCast, Int.toNat_natCast]; exact b5
  · have := (hw last hl hf).1
    show rk ((last : Int)).toNat < F
    rw [Int.toNat_natCast]; omega
  · exact ⟨last, 0, a, rfl, rfl, hl, hf, by have := (hw last hl hf).1; omega, ha, fun _ _ => rfl, fun _ => Or.inl rfl, fun T _ q => by omega⟩
theorem handOn_eq {F N n k fr to first : Nat} (hF : 1000000 ≤ F) {I : MI} {cap : Nat → Int} {ok : Nat → Nat → Prop} {a a1 : Nat → Nat} {H : Nat → Prop} (hN : N ≤ 8) (hn : n ≤ 72) (hto : to ≤ k) (hk : k ≤ n) (ha : ∀ s, s < k → I 267 s = ((a1 s : Nat) : Int)) (hs1 : ∀ s, fr ≤ s → s < to → a s < N → I 272 (a s) ≠ -3 → a1 s = a s) (hw : SW N H (aBw cap ok fr to a) (I 272) (I 273)) (hl : first < N) (hf : I 272 first ≠ -3) : ∃ (h : Nat) (I' : MI) (a' : Nat → Nat), f_V_handOn F (first : Int) I = some I' ∧ h < N ∧ H h ∧ (∀ s, s < k → I' 267 s = ((a' s : Nat) : Int)) ∧ (∀ b, b ≠ 267 → I' b = I b) ∧ (∀ s, a' s = a1 s ∨ (fr ≤ s ∧ s < to ∧ a s < N ∧ I 272 (a s) ≠ -3 ∧ caG cap ok s (a' s) ∧ a' s < N)) ∧ ∀ T : Nat → Bool, (∀ s, fr ≤ s → s < to → T s = true) → ∀ q, cT T n a' q = cT T n a1 q + dl h q - dl first q := by
  obtain ⟨rk, hw⟩ := hw
  unfold f_V_handOn
  have kk := wpo_iter (step := fun s : Int × Int × MI => f_V_handOn_L4 F s.1 s.2.1 s.2.2) (Q := fun e => ∃ (h : Nat) (a' : Nat → Nat), h < N ∧ H h ∧ (∀ s, s < k → e 267 s = ((a' s : Nat) : Int)) ∧ (∀ b, b ≠ 267 → e b = I b) ∧ (∀ s, a' s = a1 s ∨ (fr ≤ s ∧ s < to ∧ a s < N ∧ I 272 (a s) ≠ -3 ∧ caG cap ok s (a' s) ∧ a' s < N)) ∧ ∀ T : Nat → Bool, (∀ s, fr ≤ s → s < to → T s = true) → ∀ q, cT T n a' q = cT T n a1 q + dl h q - dl first q) (fun s => ∃ (m j : Nat) (a' : Nat → Nat), s.1 = (m : Int) ∧ s.2.1 = (j : Int) ∧ m < N ∧ I 272 m ≠ -3 ∧ j + rk m < N ∧ (∀ s', s' < k → s.2.2 267 s' = ((a' s' : Nat) : Int)) ∧ (∀ b, b ≠ 267 → s.2.2 b = I b) ∧ (∀ s', a' s' = a1 s' ∨ (fr ≤ s' ∧ s' < to ∧ a s' < N ∧ I 272 (a s') ≠ -3 ∧ rk m < rk (a s') ∧ caG cap ok s' (a' s') ∧ a' s' < N)) ∧ ∀ T : Nat → Bool, (∀ s, fr ≤ s → s < to → T s = true) → ∀ q, cT T n a' q = cT T n a1 q + dl m q - dl first q) (fun s => rk s.1.toNat) ?_ (F := F) (s := ((first : Int), (0 : Int), I)) ?_ ?_
  · obtain ⟨I', e, h, a', q2, q3, q4, q5, q6, q7⟩ := kk
    rw [e, Option.bind_some]
    exact ⟨h, I', a', rfl, q2, q3, q4, q5, q6, q7⟩
  · rintro ⟨x, y, M⟩ ⟨m, j, a', p1, p2, p3, p4, p5, p6, p7, p8, p9⟩
    dsimp only at p1 p2 p6 p7 ⊢
    subst p1
    subst p2
    obtain ⟨r1, r2⟩ := hw m p3 p4
    unfold f_V_handOn_L4
    refine wpo_n (by omega) (wpo_g (by omega) ?_)
    rw [Int.toNat_natCast, p7 272 (by decide), p7 273 (by decide)]
    rcases r2 with ⟨e, hH⟩ | ⟨p, s, b1, b2, b3, b4, b5, b6, b7, b8, b9⟩
    · rw [e]
      refine wpo_g (by decide) (wpo_s ⟨m, a', p3, hH, p6, p7, fun s => ?_, p9⟩)
      rcases p8 s with c | ⟨c1, c2, c3, c4, c5, c6⟩
      · exact Or.inl c
      · exact Or.inr ⟨c1, c2, c3, c4, c6⟩
    · rw [b2, b3]
      refine wpo_n (by omega) (wpo_g (by omega) (wpo_s ?_))
      rw [Int.toNat_natCast, up2_r (show (272 : Nat) ≠ 267 by decide), p7 272 (by decide), b2, w32i (by omega) (by omega)]
      have es : a' s = m := by
        rcases p8 s with c | ⟨c1, c2, c3, c4, c5, c6⟩
        · rw [c, hs1 s b6 b7 (by rw [b8]; exact p3) (by rw [b8]; exact p4)]; exact b8
        · rw [b8] at c5; omega
      refine ⟨⟨p, j + 1, fun i => if i = s then p else a' i, rfl, by dsimp only; omega, b1, b4, by omega, fun s' hs' => ?_, fun b hb => ?_, fun s' => ?_, fun T hT q => ?_⟩, ?_⟩
      · dsimp only
        by_cases e : s' = s
        · rw [e, up2_same, if_pos rfl]
        · rw [up2_k e, if_neg e]; exact p6 s' hs'
      · dsimp only
        rw [up2_off hb]; exact p7 b hb
      · dsimp only
        by_cases e : s' = s
        · rw [if_pos e, e, b8]
          exact Or.inr ⟨b6, b7, p3, p4, b5, b9, b1⟩
        · rw [if_neg e]
          rcases p8 s' with c | ⟨c1, c2, c3, c4, c5, c6⟩
          · exact Or.inl c
          · exact Or.inr ⟨c1, c2, c3, c4, by omega, c6⟩
      · rw [cT_upd (a := a') (b := fun i => if i = s then p else a' i) (by omega) (hT s b6 b7) (fun i _ hne => by rw [if_neg hne]) q, p9 T hT q, es]
        rw [if_pos rfl]
        omega
      · show rk ((p : Int)).toNat < rk ((m : Int)).toNat
        rw [Int.toNat_natCast, Int.toNat_natCast]; exact b5
  · have := (hw first hl hf).1
    show rk ((first : Int)).toNat < F
    rw [Int.toNat_natCast]; omega
  · exact ⟨first, 0, a1, rfl, rfl, hl, hf, by have := (hw first hl hf).1; omega, ha, fun _ _ => rfl, fun _ => Or.inl rfl, fun T _ q => by omega⟩
/-- who is free -/
theorem isFree_eq {F N n m : Nat} {I : MI} {cap gr : Nat → Int} {dr : Nat → Nat → Int} {cs : Nat → Nat} (h : VX I N n cap gr dr cs) (hm : m < N) : f_V_isFree F (m : Int) I = some (if I 270 m ≠ -3 ∧ I 269 m < cap m then 1 else 0) := by
  have hN := h.1
  obtain ⟨a1, a2, a3, a4⟩ := h.2.2.2.2.1 m hm
  unfold f_V_isFree
  rw [if_pos (by omega), Int.toNat_natCast, a2]
  by_cases g : I 270 m = -3
  · rw [if_pos g, if_neg (fun z => z.1 g)]
  · rw [if_neg g]
    by_cases g2 : cap m ≤ I 269 m
    · rw [if_pos g2, if_neg (by omega)]
    · rw [if_neg g2, if_pos ⟨g, by omega⟩]
theorem leastFree_eq {F N n : Nat} (hF : 1000000 ≤ F) {I : MI} {cap gr : Nat → Int} {dr : Nat → Nat → Int} {cs : Nat → Nat} (h : VX I N n cap gr dr cs) : ∃ b : Int, f_V_leastFree F I = some b ∧ ((b = -1 ∧ ∀ m, m < N → I 270 m ≠ -3 → cap m ≤ I 269 m) ∨ ∃ l : Nat, l < N ∧ b = (l : Int) ∧ I 270 l ≠ -3 ∧ I 269 l < cap l ∧ ∀ m, m < N → I 270 m ≠ -3 → I 269 m < cap m → gr l ≤ gr m) := by
  have hN := h.1
  unfold f_V_leastFree
  have k := wpo_iter (step := fun s : Int × Int => f_V_leastFree_L4 F s.1 s.2 I) (Q := fun b => (b = -1 ∧ ∀ m, m < N → I 270 m ≠ -3 → cap m ≤ I 269 m) ∨ ∃ l : Nat, l < N ∧ b = (l : Int) ∧ I 270 l ≠ -3 ∧ I 269 l < cap l ∧ ∀ m, m < N → I 270 m ≠ -3 → I 269 m < cap m → gr l ≤ gr m) (fun s => ∃ j : Nat, j ≤ N ∧ s.2 = (j : Int) ∧ ((s.1 = -1 ∧ ∀ m, m < j → I 270 m ≠ -3 → cap m ≤ I 269 m) ∨ ∃ l : Nat, l < N ∧ s.1 = (l : Int) ∧ I 270 l ≠ -3 ∧ I 269 l < cap l ∧ ∀ m, m < j → I 270 m ≠ -3 → I 269 m < cap m → gr l ≤ gr m)) (fun s => N - s.2.toNat) ?_ (F := F) (s := ((-1 : Int), (0 : Int))) (by dsimp only; omega) ⟨0, by omega, rfl, Or.inl ⟨rfl, fun m hm => absurd hm (by omega)⟩⟩
  · obtain ⟨b, e, q⟩ := k
    rw [e, Option.bind_some]
    exact ⟨b, rfl, q⟩
  rintro ⟨b, x⟩ ⟨j, p1, p2, p3⟩
  dsimp only at p2 p3 ⊢
  subst p2
  have ew : w32 ((j : Int) + 1) = (j : Int) + 1 := by clear p3; exact w32i (by omega) (by omega)
  unfold f_V_leastFree_L4
  rw [h.2.2.1]
  refine wpo_i (fun hc => wpo_s ?_) (fun hc => ?_)
  · have : j = N := by clear p3; omega
    subst this
    exact p3
  have hj : j < N := by clear p3; omega
  rw [isFree_eq h hj, Option.bind_some, ew]
  by_cases g : I 270 j ≠ -3 ∧ I 269 j < cap j
  · rw [if_pos g]
    refine wpo_g (by decide) ?_
    rcases p3 with ⟨e, p4⟩ | ⟨l, l1, l2, l3, l4, l5⟩
    · rw [e]
      refine wpo_g rfl (wpo_s ⟨⟨j + 1, by omega, by dsimp only; omega, Or.inr ⟨j, hj, rfl, g.1, g.2, fun m hm h1 h2 => ?_⟩⟩, by dsimp only; omega⟩)
      by_cases em : m = j
      · rw [em]; exact Int.le_refl _
      · have := p4 m (by omega) h1; omega
    · rw [l2]
      refine wpo_n (by omega) (wpo_g (by omega) (wpo_g (by omega) ?_))
      rw [Int.toNat_natCast, Int.toNat_natCast, (h.2.2.2.2.1 l l1).1, (h.2.2.2.2.1 j hj).1]
      refine wpo_i (fun hc2 => wpo_s ?_) (fun hc2 => wpo_s ?_)
      · refine ⟨⟨j + 1, by omega, by dsimp only; omega, Or.inr ⟨l, l1, rfl, l3, l4, fun m hm h1 h2 => ?_⟩⟩, by dsimp only; omega⟩
        by_cases em : m = j
        · rw [em]; exact hc2
        · exact l5 m (by omega) h1 h2
      · refine ⟨⟨j + 1, by omega, by dsimp only; omega, Or.inr ⟨j, hj, rfl, g.1, g.2, fun m hm h1 h2 => ?_⟩⟩, by dsimp only; omega⟩
        by_cases em : m = j
        · rw [em]; exact Int.le_refl _
        · have := l5 m (by omega) h1 h2; omega
  · rw [if_neg g]
    refine wpo_n (by decide) (wpo_s ⟨⟨j + 1, by clear p3; omega, by clear p3; dsimp only; omega, ?_⟩, by clear p3; dsimp only; omega⟩)
    dsimp only
    rcases p3 with ⟨e, p4⟩ | ⟨l, l1, l2, l3, l4, l5⟩
    · refine Or.inl ⟨e, fun m hm h1 => ?_⟩
      by_cases em : m = j
      · rw [em] at h1 ⊢
        exact Int.not_lt.mp (fun z => g ⟨h1, z⟩)
      · exact p4 m (by omega) h1
    · refine Or.inr ⟨l, l1, l2, l3, l4, fun m hm h1 h2 => ?_⟩
      by_cases em : m = j
      · rw [em] at h1 h2
        exact absurd ⟨h1, h2⟩ g
      · exact l5 m (by omega) h1 h2
