/-! the class's bed, held against places and levels -/
theorem up2_r {α : Type} {f : Nat → Nat → α} {a k x y : Nat} {v : α} (h : x ≠ a) : up2 f a k v x y = f x y := up2_ne (Or.inl h)
theorem up2_k {α : Type} {f : Nat → Nat → α} {a k y : Nat} {v : α} (h : y ≠ k) : up2 f a k v a y = f a y := up2_ne (Or.inr h)
def BedX (I : MI) (b : Nat) (dm : Int) (s : BSt) : Prop :=
  (∀ c, c < 96 → I (b + 1) c = s.2 c) ∧
  (∀ c, c < 96 → s.2 c = 0 → I (b + 2) c = -1) ∧
  (∀ k, k < 72 → 0 ≤ s.1 k → s.1 (72 + k) = s.2 (s.1 k).toNat - 1 → I (b + 2) (s.1 k).toNat = (k : Int)) ∧
  (∀ k, k < 72 → 0 ≤ s.1 k → s.1 (72 + k) = 0 → I (b + 4) k = -1) ∧
  (∀ j k, j < 72 → k < 72 → 0 ≤ s.1 j → s.1 j = s.1 k → s.1 (72 + j) = s.1 (72 + k) + 1 → I (b + 4) j = (k : Int)) ∧
  (∀ c, c < 96 → 0 < s.2 c → s.1 (144 + c) = min 99 (dm - I (b + 3) c) ∧ 0 ≤ I (b + 3) c ∧ I (b + 3) c ≤ dm) ∧
  (∀ m, m < 8 → I (b + 5) m = cnt (fun j => decide (s.1 (9 * m + j) ≠ -1)) 9) ∧
  (∀ m, m < 8 → I (b + 6) m = cnt (fun j => decide (s.1 (9 * m + j) = -2)) 9)
theorem bedx_congr {I I' : MI} {b : Nat} {dm : Int} {s : BSt} (h : BedX I b dm s) (h1 : I' (b + 1) = I (b + 1)) (h2 : I' (b + 2) = I (b + 2)) (h3 : I' (b + 3) = I (b + 3)) (h4 : I' (b + 4) = I (b + 4)) (h5 : I' (b + 5) = I (b + 5)) (h6 : I' (b + 6) = I (b + 6)) : BedX I' b dm s := by
  unfold BedX
  rw [h1, h2, h3, h4, h5, h6]
  exact h
theorem layOn_eq {F b : Nat} {at' hi lo n since : Int} {I : MI} (h1 : 0 ≤ at' ∧ at' < 96) (h2 : 0 ≤ lo ∧ lo < 72) (h3 : 0 ≤ I (b + 1) at'.toNat + n ∧ I (b + 1) at'.toNat + n ≤ 1000) : f_B_layOn F b at' hi lo n since I = some (up2 (up2 (up2 (up2 I (b + 4) lo.toNat (I (b + 2) at'.toNat)) (b + 2) at'.toNat hi) (b + 1) at'.toNat (I (b + 1) at'.toNat + n)) (b + 3) at'.toNat since) := by
  unfold f_B_layOn
  rw [if_pos h1, if_pos h2]
  simp (disch := omega) only [up2_r]
  rw [w32i (by omega) (by omega)]
/-- the stone at a level, walked down to -/
theorem carry_loop {F b : Nat} (hF : 1000000 ≤ F) {at' : Nat} {going x3 x4 : Int} {I : MI} {dm : Int} {ρ : RIV} {s : BSt} (hv : VOK ρ s) (hb : BedX I b dm s) (ha : at' < 96) (hg : 0 < going ∧ going ≤ s.2 at') (hh : s.2 at' ≤ 72) : ∃ hi lo : Nat, hi < 72 ∧ lo < 72 ∧ s.1 hi = (at' : Int) ∧ s.1 lo = (at' : Int) ∧ s.1 (72 + hi) = s.2 at' - 1 ∧ s.1 (72 + lo) = s.2 at' - going ∧ I (b + 2) at' = (hi : Int) ∧ iter (fun q : Int × Int => f_B_carryOff_L15 F b (at' : Int) going x3 x4 q.1 q.2 I) F ((I (b + 2) at'), 1) = some (lo : Int) := by
  obtain ⟨v1, v2, v3, v4, v5, v6⟩ := hv
  obtain ⟨b1, b2, b3, b4, b5, b6, b7, b8⟩ := hb
  obtain ⟨hi, hi1, hi2, hi3⟩ := v3 at' (s.2 at' - 1) ha (by omega) (by omega)
  obtain ⟨lo, lo1, lo2, lo3⟩ := v3 at' (s.2 at' - going) ha (by omega) (by omega)
  have ht : I (b + 2) at' = (hi : Int) := by
    have := b3 hi hi1 (by omega) (by rw [hi3, hi2]; simp)
    rw [hi2] at this
    simpa using this
  refine ⟨hi, lo, hi1, lo1, hi2, lo2, hi3, lo3, ht, ?_⟩
  rw [ht]
  refine iter_eq (fun q => ∃ k : Nat, k < 72 ∧ q.1 = (k : Int) ∧ s.1 k = (at' : Int) ∧ s.1 (72 + k) = s.2 at' - q.2 ∧ 1 ≤ q.2 ∧ q.2 ≤ going) (fun q => (going - q.2).toNat) ?_ (by simp; omega) ⟨hi, hi1, rfl, hi2, hi3, by simp, by simp; omega⟩
  rintro ⟨a, i⟩ ⟨k, k1, k2, k3, k4, k5, k6⟩
  dsimp only at k2 k4 k5 k6
  subst k2
  unfold f_B_carryOff_L15
  refine wpo_i (fun hc => wpo_s ?_) (fun hc => ?_)
  · show (k : Int) = (lo : Int)
    have : k = lo := v2 k lo k1 lo1 (by omega) (by omega) (by omega)
    rw [this]
  refine wpo_n (by omega) (wpo_g (by omega) (wpo_s ?_))
  obtain ⟨k', kk1, kk2, kk3⟩ := v3 at' (s.2 at' - i - 1) ha (by omega) (by omega)
  have hu := b5 k k' k1 kk1 (by omega) (by omega) (by omega)
  rw [w32i (by omega) (by omega), Int.toNat_natCast, hu]
  exact ⟨⟨k', kk1, rfl, kk2, by dsimp only; omega, by dsimp only; omega, by dsimp only; omega⟩, by dsimp only; omega⟩
/-- stones go over to another cell -/
theorem bedx_move {I I' : MI} {b : Nat} {dm : Int} {ρ : RIV} {s : BSt} {at' to hi lo : Nat} {going force : Int} (hv : VOK ρ s) (hb : BedX I b dm s) (ha : at' < 96) (hto : to < 96) (hne : to ≠ at') (hg : 0 < going ∧ going ≤ s.2 at') (hif : ((at' % 12 : Nat) : Int) + force < aL ρ) (hte : (to : Int) = (at' : Int) + force) (hdm : 0 ≤ dm)
    (h1 : hi < 72) (h2 : lo < 72) (h3 : s.1 hi = (at' : Int)) (h4 : s.1 lo = (at' : Int)) (h5 : s.1 (72 + hi) = s.2 at' - 1) (h6 : s.1 (72 + lo) = s.2 at' - going)
    (r1 : ∀ c, c < 96 → I' (b + 1) c = if c = to then s.2 c + going else if c = at' then s.2 c - going else s.2 c)
    (r2 : ∀ c, I' (b + 2) c = if c = to then (hi : Int) else if c = at' then I (b + 4) lo else I (b + 2) c)
    (r3 : ∀ c, I' (b + 3) c = if c = to ∨ c = at' then dm else I (b + 3) c)
    (r4 : ∀ k, I' (b + 4) k = if k = lo then I (b + 2) to else I (b + 4) k)
    (r5 : I' (b + 5) = I (b + 5)) (r6 : I' (b + 6) = I (b + 6)) : BedX I' b dm (carA ρ at' going force s) := by
  obtain ⟨v1, v2, v3, v4, v5, v6⟩ := hv
  obtain ⟨b1, b2, b3, b4, b5, b6, b7, b8⟩ := hb
  have et : (if ((at' % 12 : Nat) : Int) + force < aL ρ then (at' : Int) + force else -2) = (to : Int) := by rw [if_pos hif, hte]
  have p1 : ∀ k, k < 72 → (carA ρ at' going force s).1 k = if s.1 k = (at' : Int) ∧ s.2 at' - going ≤ s.1 (72 + k) then (to : Int) else s.1 k := by
    intro k hk
    unfold carA
    simp only [et]
    rw [if_pos hk]
  have p2 : ∀ k, k < 72 → (carA ρ at' going force s).1 (72 + k) = if s.1 k = (at' : Int) ∧ s.2 at' - going ≤ s.1 (72 + k) then s.1 (72 + k) + (s.2 to - (s.2 at' - going)) else s.1 (72 + k) := by
    intro k hk
    unfold carA
    simp only [et]
    rw [if_neg (by omega), if_pos (by omega)]
    simp
  have p3 : ∀ c, c < 96 → (carA ρ at' going force s).1 (144 + c) = if c = at' ∨ c = to then 0 else s.1 (144 + c) := by
    intro c hc
    unfold carA
    simp only [et]
    rw [if_neg (by omega), if_neg (by omega)]
    simp
  have p4 : ∀ c, (carA ρ at' going force s).2 c = if c = to then s.2 c + going else if c = at' then s.2 at' - going else s.2 c := by
    intro c
    unfold carA
    simp only [et]
    simp
  have hto0 := (v4 to hto).1
  have hat0 := (v4 at' ha).1
  have f1 : ∀ k, k < 72 → s.1 k = (at' : Int) → 0 ≤ s.1 (72 + k) ∧ s.1 (72 + k) < s.2 at' := by
    intro k hk e
    have := v1 k hk
    rw [e] at this
    simp only [Int.toNat_natCast] at this
    omega
  have f2 : ∀ k, k < 72 → s.1 k = (to : Int) → 0 ≤ s.1 (72 + k) ∧ s.1 (72 + k) < s.2 to := by
    intro k hk e
    have := v1 k hk
    rw [e] at this
    simp only [Int.toNat_natCast] at this
    omega
  refine ⟨fun c hc => ?_, fun c hc h0 => ?_, fun k hk hk0 hl => ?_, fun k hk hk0 hl => ?_, fun j k hj hk hj0 e hl => ?_, fun c hc h0 => ?_, fun m hm => ?_, fun m hm => ?_⟩
  · rw [r1 c hc, p4]
    split
    · rfl
    · split
      · rename_i e; rw [e]
      · rfl
  · rw [p4] at h0
    rw [r2]
    split at h0
    · rename_i e; rw [e] at h0; omega
    · split at h0
      · rename_i e1 e2
        rw [if_neg e1, if_pos e2]
        exact b4 lo h2 (by omega) (by omega)
      · rename_i e1 e2
        rw [if_neg e1, if_neg e2]
        exact b2 c hc h0
  · rw [p1 k hk] at hk0 hl ⊢
    rw [p2 k hk] at hl
    split at hl
    · rename_i e
      rw [if_pos e]
      rw [p4] at hl
      simp only [Int.toNat_natCast, if_true] at hl ⊢
      rw [r2, if_pos rfl]
      have : k = hi := v2 k hi hk h1 (by omega) (by omega) (by omega)
      rw [this]
    · rename_i e
      rw [if_neg e] at hk0 ⊢
      rw [p4] at hl
      rw [r2]
      have hk3 := v1 k hk
      by_cases e1 : (s.1 k).toNat = to
      · rw [if_pos e1] at hl
        have := f2 k hk (by omega)
        rw [e1] at hl
        omega
      · rw [if_neg e1] at hl ⊢
        by_cases e2 : (s.1 k).toNat = at'
        · rw [if_pos e2] at hl ⊢
          exact b5 lo k h2 hk (by omega) (by omega) (by omega)
        · rw [if_neg e2] at hl ⊢
          exact b3 k hk hk0 hl
  · rw [p1 k hk] at hk0
    rw [p2 k hk] at hl
    rw [r4]
    split at hl
    · rename_i e
      have := f1 k hk e.1
      have e0 : s.2 to = 0 ∧ s.1 (72 + k) = s.2 at' - going := by omega
      have : k = lo := v2 k lo hk h2 (by omega) (by omega) (by omega)
      rw [if_pos this]
      exact b2 to hto e0.1
    · rename_i e
      rw [if_neg e] at hk0
      have : k ≠ lo := by
        intro e2
        subst e2
        exact e ⟨h4, by omega⟩
      rw [if_neg this]
      exact b4 k hk hk0 hl
  · rw [p1 j hj] at hj0 e
    rw [p1 k hk] at e
    rw [p2 j hj, p2 k hk] at hl
    rw [r4]
    by_cases c1 : s.1 j = (at' : Int) ∧ s.2 at' - going ≤ s.1 (72 + j)
    · rw [if_pos c1] at hl e hj0
      by_cases c2 : s.1 k = (at' : Int) ∧ s.2 at' - going ≤ s.1 (72 + k)
      · rw [if_pos c2] at hl e
        have : j ≠ lo := by intro e2; subst e2; omega
        rw [if_neg this]
        exact b5 j k hj hk (by omega) (by omega) (by omega)
      · rw [if_neg c2] at hl e
        have fk := f2 k hk e.symm
        have e3 : s.1 (72 + j) = s.2 at' - going := by omega
        have : j = lo := v2 j lo hj h2 (by omega) (by omega) (by omega)
        rw [if_pos this]
        have := b3 k hk (by omega) (by rw [← e]; simp only [Int.toNat_natCast]; omega)
        rw [← e] at this
        simpa using this
    · rw [if_neg c1] at hl e hj0
      have : j ≠ lo := by
        intro e2
        subst e2
        exact c1 ⟨h4, by omega⟩
      rw [if_neg this]
      by_cases c2 : s.1 k = (at' : Int) ∧ s.2 at' - going ≤ s.1 (72 + k)
      · rw [if_pos c2] at hl e
        have := f2 j hj e
        omega
      · rw [if_neg c2] at hl e
        exact b5 j k hj hk hj0 e hl
  · rw [p4] at h0
    rw [p3 c hc, r3]
    by_cases c1 : c = to ∨ c = at'
    · rw [if_pos c1, if_pos (by omega)]
      omega
    · rw [if_neg c1, if_neg (by omega)]
      rw [if_neg (by omega), if_neg (by omega)] at h0
      exact b6 c hc h0
  · rw [r5, b7 m hm]
    refine cnt_congr (fun j hj => ?_)
    rw [p1 _ (by omega)]
    split
    · rename_i e; simp; omega
    · rfl
  · rw [r6, b8 m hm]
    refine cnt_congr (fun j hj => ?_)
    rw [p1 _ (by omega)]
    split
    · rename_i e; simp; omega
    · rfl
/-- stones are carried off for good -/
theorem bedx_lost {I I' : MI} {b : Nat} {dm : Int} {ρ : RIV} {s : BSt} {at' lo : Nat} {going force : Int} (hv : VOK ρ s) (hb : BedX I b dm s) (ha : at' < 96) (hg : 0 < going ∧ going ≤ s.2 at') (hif : aL ρ ≤ ((at' % 12 : Nat) : Int) + force) (hdm : 0 ≤ dm)
    (h2 : lo < 72) (h4 : s.1 lo = (at' : Int)) (h6 : s.1 (72 + lo) = s.2 at' - going)
    (r1 : ∀ c, c < 96 → I' (b + 1) c = if c = at' then s.2 c - going else s.2 c)
    (r2 : ∀ c, I' (b + 2) c = if c = at' then I (b + 4) lo else I (b + 2) c)
    (r3 : ∀ c, I' (b + 3) c = if c = at' then dm else I (b + 3) c)
    (r4 : I' (b + 4) = I (b + 4))
    (r5 : I' (b + 5) = I (b + 5))
    (r6 : ∀ m, m < 8 → I' (b + 6) m = cnt (fun j => decide (s.1 (9 * m + j) = -2 ∨ (s.1 (9 * m + j) = (at' : Int) ∧ s.2 at' - going ≤ s.1 (72 + (9 * m + j))))) 9) : BedX I' b dm (carA ρ at' going force s) := by
  obtain ⟨v1, v2, v3, v4, v5, v6⟩ := hv
  obtain ⟨b1, b2, b3, b4, b5, b6, b7, b8⟩ := hb
  have et : (if ((at' % 12 : Nat) : Int) + force < aL ρ then (at' : Int) + force else -2) = -2 := by rw [if_neg (by omega)]
  have p1 : ∀ k, k < 72 → (carA ρ at' going force s).1 k = if s.1 k = (at' : Int) ∧ s.2 at' - going ≤ s.1 (72 + k) then -2 else s.1 k := by
    intro k hk
    unfold carA
    simp only [et]
    rw [if_pos hk]
  have p2 : ∀ k, k < 72 → (carA ρ at' going force s).1 (72 + k) = s.1 (72 + k) := by
    intro k hk
    unfold carA
    simp only [et]
    rw [if_neg (by omega), if_pos (by omega), if_neg (by omega)]
  have p3 : ∀ c, c < 96 → (carA ρ at' going force s).1 (144 + c) = if c = at' then 0 else s.1 (144 + c) := by
    intro c hc
    unfold carA
    simp only [et]
    rw [if_neg (by omega), if_neg (by omega)]
    by_cases e : c = at'
    · rw [if_pos e, if_pos (by omega)]
    · rw [if_neg e, if_neg (by omega)]
  have p4 : ∀ c, (carA ρ at' going force s).2 c = if c = at' then s.2 at' - going else s.2 c := by
    intro c
    unfold carA
    simp only [et]
    rw [if_neg (by omega)]
  have hat0 := (v4 at' ha).1
  have f1 : ∀ k, k < 72 → s.1 k = (at' : Int) → 0 ≤ s.1 (72 + k) ∧ s.1 (72 + k) < s.2 at' := by
    intro k hk e
    have := v1 k hk
    rw [e] at this
    simp only [Int.toNat_natCast] at this
    omega
  refine ⟨fun c hc => ?_, fun c hc h0 => ?_, fun k hk hk0 hl => ?_, fun k hk hk0 hl => ?_, fun j k hj hk hj0 e hl => ?_, fun c hc h0 => ?_, fun m hm => ?_, fun m hm => ?_⟩
  · rw [r1 c hc, p4]
    split
    · rename_i e; rw [e]
    · rfl
  · rw [p4] at h0
    rw [r2]
    split at h0
    · rename_i e2
      rw [if_pos e2]
      exact b4 lo h2 (by omega) (by omega)
    · rename_i e2
      rw [if_neg e2]
      exact b2 c hc h0
  · rw [p1 k hk] at hk0 hl ⊢
    rw [p2 k hk] at hl
    split at hk0
    · omega
    · rename_i e
      rw [if_neg e] at hl ⊢
      rw [p4] at hl
      rw [r2]
      have hk3 := v1 k hk
      by_cases e2 : (s.1 k).toNat = at'
      · rw [if_pos e2] at hl ⊢
        exact b5 lo k h2 hk (by omega) (by omega) (by omega)
      · rw [if_neg e2] at hl ⊢
        exact b3 k hk hk0 hl
  · rw [p1 k hk] at hk0
    rw [p2 k hk] at hl
    rw [r4]
    split at hk0
    · omega
    · exact b4 k hk hk0 hl
  · rw [p1 j hj] at hj0 e
    rw [p1 k hk] at e
    rw [p2 j hj, p2 k hk] at hl
    rw [r4]
    by_cases c1 : s.1 j = (at' : Int) ∧ s.2 at' - going ≤ s.1 (72 + j)
    · rw [if_pos c1] at hj0
      omega
    · rw [if_neg c1] at e hj0
      by_cases c2 : s.1 k = (at' : Int) ∧ s.2 at' - going ≤ s.1 (72 + k)
      · rw [if_pos c2] at e
        omega
      · rw [if_neg c2] at e
        exact b5 j k hj hk hj0 e hl
  · rw [p4] at h0
    rw [p3 c hc, r3]
    by_cases c1 : c = at'
    · rw [if_pos c1, if_pos c1]
      omega
    · rw [if_neg c1, if_neg c1]
      rw [if_neg c1] at h0
      exact b6 c hc h0
  · rw [r5, b7 m hm]
    refine cnt_congr (fun j hj => ?_)
    rw [p1 _ (by omega)]
    split
    · rename_i e; simp; omega
    · rfl
  · rw [r6 m hm]
    refine cnt_congr (fun j hj => ?_)
    rw [p1 _ (by omega)]
    split
    · rename_i e; simp [e]
    · rename_i e; simp [e]
theorem vok_car {ρ : RIV} {s : BSt} {at' : Nat} {going force : Int} (hρ : RivOK ρ) (hv : VOK ρ s) (ha : at' < 96) (hx : ((at' % 12 : Nat) : Int) < aL ρ) (hy : ((at' / 12 : Nat) : Int) < aW ρ) (hf : 1 ≤ force) (hg : 0 < going ∧ going ≤ s.2 at') : VOK ρ (carA ρ at' going force s) := by
  obtain ⟨v1, v2, v3, v4, v5, v6⟩ := hv
  have hl12 := hρ.1.2
  have hat0 := (v4 at' ha).1
  have f1 : ∀ k, k < 72 → s.1 k = (at' : Int) → 0 ≤ s.1 (72 + k) ∧ s.1 (72 + k) < s.2 at' := by
    intro k hk e
    have := v1 k hk
    rw [e] at this
    simp only [Int.toNat_natCast] at this
    omega
  by_cases hif : ((at' % 12 : Nat) : Int) + force < aL ρ
  · obtain ⟨to, hto⟩ : ∃ to : Nat, (to : Int) = (at' : Int) + force := ⟨((at' : Int) + force).toNat, by omega⟩
    have hto9 : to < 96 := by omega
    have htx : ((to % 12 : Nat) : Int) = ((at' % 12 : Nat) : Int) + force := by omega
    have hty : to / 12 = at' / 12 := by omega
    have et : (if ((at' % 12 : Nat) : Int) + force < aL ρ then (at' : Int) + force else -2) = (to : Int) := by rw [if_pos hif, hto]
    have p1 : ∀ k, k < 72 → (carA ρ at' going force s).1 k = if s.1 k = (at' : Int) ∧ s.2 at' - going ≤ s.1 (72 + k) then (to : Int) else s.1 k := by
      intro k hk
      unfold carA
      simp only [et]
      rw [if_pos hk]
    have p2 : ∀ k, k < 72 → (carA ρ at' going force s).1 (72 + k) = if s.1 k = (at' : Int) ∧ s.2 at' - going ≤ s.1 (72 + k) then s.1 (72 + k) + (s.2 to - (s.2 at' - going)) else s.1 (72 + k) := by
      intro k hk
      unfold carA
      simp only [et]
      rw [if_neg (by omega), if_pos (by omega)]
      simp
    have p3 : ∀ c, c < 96 → (carA ρ at' going force s).1 (144 + c) = if c = at' ∨ c = to then 0 else s.1 (144 + c) := by
      intro c hc
      unfold carA
      simp only [et]
      rw [if_neg (by omega), if_neg (by omega)]
      simp
    have p4 : ∀ c, (carA ρ at' going force s).2 c = if c = to then s.2 c + going else if c = at' then s.2 at' - going else s.2 c := by
      intro c
      unfold carA
      simp only [et]
      simp
    have p5 : (carA ρ at' going force s).1 240 = s.1 240 := by
      unfold carA
      simp only [et]
      rw [if_neg (by omega), if_neg (by omega), if_neg (by omega)]
    have f2 : ∀ k, k < 72 → s.1 k = (to : Int) → 0 ≤ s.1 (72 + k) ∧ s.1 (72 + k) < s.2 to := by
      intro k hk e
      have := v1 k hk
      rw [e] at this
      simp only [Int.toNat_natCast] at this
      omega
    have hto0 := (v4 to hto9).1
    refine ⟨fun k hk => ?_, fun j k hj hk hj0 e hl => ?_, fun c l hc hl0 hl => ?_, fun c hc => ?_, fun m j hm hj hne => ?_, ?_⟩
    · rw [p1 k hk, p2 k hk, p4]
      split
      · rename_i e
        have := f1 k hk e.1
        right; right
        simp only [Int.toNat_natCast, if_true]
        omega
      · rename_i e
        rcases v1 k hk with a | a | a
        · exact Or.inl a
        · exact Or.inr (Or.inl a)
        · right; right
          by_cases c1 : (s.1 k).toNat = to
          · rw [if_pos c1]
            have := f2 k hk (by omega)
            rw [c1]
            omega
          · rw [if_neg c1]
            by_cases c2 : (s.1 k).toNat = at'
            · rw [if_pos c2]; omega
            · rw [if_neg c2]; omega
    · rw [p1 j hj] at hj0 e
      rw [p1 k hk] at e
      rw [p2 j hj, p2 k hk] at hl
      by_cases c1 : s.1 j = (at' : Int) ∧ s.2 at' - going ≤ s.1 (72 + j)
      · rw [if_pos c1] at hl e
        by_cases c2 : s.1 k = (at' : Int) ∧ s.2 at' - going ≤ s.1 (72 + k)
        · rw [if_pos c2] at hl
          exact v2 j k hj hk (by omega) (by omega) (by omega)
        · rw [if_neg c2] at hl e
          have := f2 k hk e.symm
          omega
      · rw [if_neg c1] at hl e hj0
        by_cases c2 : s.1 k = (at' : Int) ∧ s.2 at' - going ≤ s.1 (72 + k)
        · rw [if_pos c2] at hl e
          have := f2 j hj e
          omega
        · rw [if_neg c2] at hl e
          exact v2 j k hj hk hj0 e hl
    · rw [p4] at hl
      by_cases c1 : c = to
      · rw [if_pos c1] at hl
        by_cases c2 : l < s.2 c
        · obtain ⟨k, hk, a, b⟩ := v3 c l hc hl0 c2
          refine ⟨k, hk, ?_, ?_⟩
          · rw [p1 k hk, if_neg (by omega)]; exact a
          · rw [p2 k hk, if_neg (by omega)]; exact b
        · rw [c1] at c2 hl
          obtain ⟨k, hk, a, b⟩ := v3 at' (l - s.2 to + (s.2 at' - going)) ha (by omega) (by omega)
          refine ⟨k, hk, ?_, ?_⟩
          · rw [p1 k hk, if_pos (by omega), c1]
          · rw [p2 k hk, if_pos (by omega)]; omega
      · rw [if_neg c1] at hl
        by_cases c2 : c = at'
        · rw [if_pos c2] at hl
          obtain ⟨k, hk, a, b⟩ := v3 at' l ha hl0 (by omega)
          refine ⟨k, hk, ?_, ?_⟩
          · rw [p1 k hk, if_neg (by omega), c2]; exact a
          · rw [p2 k hk, if_neg (by omega)]; exact b
        · rw [if_neg c2] at hl
          obtain ⟨k, hk, a, b⟩ := v3 c l hc hl0 hl
          refine ⟨k, hk, ?_, ?_⟩
          · rw [p1 k hk, if_neg (by omega)]; exact a
          · rw [p2 k hk, if_neg (by omega)]; exact b
    · rw [p4, p3 c hc]
      have := v4 c hc
      by_cases c1 : c = at' ∨ c = to
      · rw [if_pos c1]
        refine ⟨?_, fun _ => rfl, by omega, by omega⟩
        split
        · omega
        · split <;> omega
      · rw [if_neg c1, if_neg (by omega), if_neg (by omega)]
        exact this
    · have e1 : ∀ i, i < 9 → (s.1 (9 * m + i) ≠ -1 ↔ (carA ρ at' going force s).1 (9 * m + i) ≠ -1) := by
        intro i hi
        rw [p1 _ (by omega)]
        split
        · omega
        · rfl
      obtain ⟨a, b, c⟩ := v5 m j hm hj ((e1 j hj).mpr hne)
      exact ⟨a, b, fun i hi => (e1 i (by omega)).mp (c i hi)⟩
    · rw [p5]; exact v6
  · have et : (if ((at' % 12 : Nat) : Int) + force < aL ρ then (at' : Int) + force else -2) = -2 := by rw [if_neg (by omega)]
    have p1 : ∀ k, k < 72 → (carA ρ at' going force s).1 k = if s.1 k = (at' : Int) ∧ s.2 at' - going ≤ s.1 (72 + k) then -2 else s.1 k := by
      intro k hk
      unfold carA
      simp only [et]
      rw [if_pos hk]
    have p2 : ∀ k, k < 72 → (carA ρ at' going force s).1 (72 + k) = s.1 (72 + k) := by
      intro k hk
      unfold carA
      simp only [et]
      rw [if_neg (by omega), if_pos (by omega), if_neg (by omega)]
    have p3 : ∀ c, c < 96 → (carA ρ at' going force s).1 (144 + c) = if c = at' then 0 else s.1 (144 + c) := by
      intro c hc
      unfold carA
      simp only [et]
      rw [if_neg (by omega), if_neg (by omega)]
      by_cases e : c = at'
      · rw [if_pos e, if_pos (by omega)]
      · rw [if_neg e, if_neg (by omega)]
    have p4 : ∀ c, (carA ρ at' going force s).2 c = if c = at' then s.2 at' - going else s.2 c := by
      intro c
      unfold carA
      simp only [et]
      rw [if_neg (by omega)]
    have p5 : (carA ρ at' going force s).1 240 = s.1 240 := by
      unfold carA
      simp only [et]
      rw [if_neg (by omega), if_neg (by omega), if_neg (by omega)]
    refine ⟨fun k hk => ?_, fun j k hj hk hj0 e hl => ?_, fun c l hc hl0 hl => ?_, fun c hc => ?_, fun m j hm hj hne => ?_, ?_⟩
    · rw [p1 k hk, p2 k hk, p4]
      split
      · exact Or.inr (Or.inl rfl)
      · rename_i e
        rcases v1 k hk with a | a | a
        · exact Or.inl a
        · exact Or.inr (Or.inl a)
        · right; right
          by_cases c2 : (s.1 k).toNat = at'
          · rw [if_pos c2]; omega
          · rw [if_neg c2]; omega
    · rw [p1 j hj] at hj0 e
      rw [p1 k hk] at e
      rw [p2 j hj, p2 k hk] at hl
      by_cases c1 : s.1 j = (at' : Int) ∧ s.2 at' - going ≤ s.1 (72 + j)
      · rw [if_pos c1] at hj0; omega
      · rw [if_neg c1] at e hj0
        by_cases c2 : s.1 k = (at' : Int) ∧ s.2 at' - going ≤ s.1 (72 + k)
        · rw [if_pos c2] at e; omega
        · rw [if_neg c2] at e
          exact v2 j k hj hk hj0 e hl
    · rw [p4] at hl
      by_cases c2 : c = at'
      · rw [if_pos c2] at hl
        obtain ⟨k, hk, a, b⟩ := v3 at' l ha hl0 (by omega)
        refine ⟨k, hk, ?_, ?_⟩
        · rw [p1 k hk, if_neg (by omega), c2]; exact a
        · rw [p2 k hk]; exact b
      · rw [if_neg c2] at hl
        obtain ⟨k, hk, a, b⟩ := v3 c l hc hl0 hl
        refine ⟨k, hk, ?_, ?_⟩
        · rw [p1 k hk, if_neg (by omega)]; exact a
        · rw [p2 k hk]; exact b
    · rw [p4, p3 c hc]
      have := v4 c hc
      by_cases c1 : c = at'
      · rw [if_pos c1, if_pos c1]
        exact ⟨by omega, fun _ => rfl, by omega, by omega⟩
      · rw [if_neg c1, if_neg c1]
        exact this
    · have e1 : ∀ i, i < 9 → (s.1 (9 * m + i) ≠ -1 ↔ (carA ρ at' going force s).1 (9 * m + i) ≠ -1) := by
        intro i hi
        rw [p1 _ (by omega)]
        split
        · omega
        · rfl
      obtain ⟨a, b, c⟩ := v5 m j hm hj ((e1 j hj).mpr hne)
      exact ⟨a, b, fun i hi => (e1 i (by omega)).mp (c i hi)⟩
    · rw [p5]; exact v6
