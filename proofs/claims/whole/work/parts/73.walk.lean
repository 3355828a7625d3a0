/-! fords: the class's walk back, the most -/
def WkI (ρ : RIV) (w cf0 gt0 : Nat → Int) (rk : Nat → Nat) (c : Nat) (cf gt : Nat → Int) : Prop :=
  c < 96 ∧ (∀ e, e < 96 → e ≠ c → (-3 ≤ cf e ∧ cf e < 96 ∧ cf e ≠ -2) ∧ (cf e = -3 ↔ gt e = -3) ∧ ∀ d : Nat, d < 96 → (cf e = (d : Int) ↔ gt d = (e : Int))) ∧
  (∀ e, e < 96 → -3 ≤ gt e ∧ gt e < 96 ∧ gt e ≠ -1) ∧ (∀ d, d < 96 → gt d ≠ (c : Int)) ∧ gt c ≠ -3 ∧
  (∀ y, y < 96 → rk y ≤ rk c → cf y = cf0 y) ∧ (∀ y, y < 96 → rk (96 + y) < rk c → gt y = gt0 y) ∧
  (∀ e, e < 96 → (cf e = -1 ↔ cf0 e = -1)) ∧ (∀ e, e < 96 → gt e = -2 → enB ρ e = true) ∧ (∀ e d : Nat, e < 96 → d < 96 → gt e = (d : Int) → lpB ρ e d = true ∧ 0 ≤ w d) ∧ cf0 c ≠ -1
theorem lpB_ne {ρ : RIV} {a b : Nat} (ha : a < 96) (h : lpB ρ a b = true) : a ≠ b := by
  unfold lpB at h
  rw [if_neg (by omega)] at h
  simp only [decide_eq_true_eq] at h
  exact h.1
theorem wk_step {ρ : RIV} {w cf0 gt0 cf gt cf' gt' : Nat → Int} {rk : Nat → Nat} {c x p : Nat} (h0 : FlV ρ w cf0 gt0) (h : WkI ρ w cf0 gt0 rk c cf gt) (hx : x < 96) (hl : lpB ρ x c = true) (hw : 0 ≤ w c) (hg : gt0 x ≠ (c : Int)) (hr : rk (96 + x) < rk c) (hp : p < 96) (hpp : (p = x ∧ gt0 x = -3) ∨ gt0 x = (p : Int)) (hrp : rk p < rk (96 + x)) (hcf : ∀ y, cf' y = if y = c then (x : Int) else cf y) (hgt : ∀ y, gt' y = if y = x then (c : Int) else gt y) : WkI ρ w cf0 gt0 rk p cf' gt' := by
  obtain ⟨hc, a1, a2, a3, a4, a5, a6, a7, a8, a9, a10⟩ := h
  have hxc := lpB_ne hx hl
  have gx := a6 x hx hr
  have gx2 := a3 x hx
  have hpc : p ≠ c := by
    rcases hpp with ⟨e, _⟩ | e
    · omega
    · intro e2; rw [e2] at e; exact hg e
  have hpx : ∀ (_ : gt0 x = (p : Int)), p ≠ x := fun e e2 => lpB_ne hx ((h0.2 x hx).2.2 p hp e).1 e2.symm
  have cp : gt0 x = (p : Int) → cf p = (x : Int) ∧ cf0 p = (x : Int) := fun e => by
    have q : cf0 p = (x : Int) := ((h0.1 p hp).2.2.2 x hx).mpr e
    exact ⟨by rw [a5 p hp (by omega)]; exact q, q⟩
  have cx : gt0 x = -3 → cf x = -3 := fun e => (a1 x hx hxc).2.1.mpr (by rw [gx]; exact e)
  refine ⟨hp, fun e he hne => ?_, fun e he => ?_, fun d hd => ?_, ?_, fun y hy hry => ?_, fun y hy hry => ?_, fun e he => ?_, fun e he h2 => ?_, fun e d he hd h2 => ?_, ?_⟩
  · by_cases ec : e = c
    · subst ec
      rw [hcf, if_pos rfl, hgt, if_neg (by omega)]
      refine ⟨by omega, ⟨fun h => by omega, fun h => absurd h a4⟩, fun d hd => ?_⟩
      rw [hgt]
      by_cases ed : d = x
      · rw [if_pos ed]; exact ⟨fun _ => rfl, fun _ => by omega⟩
      · rw [if_neg ed]; exact ⟨fun h => absurd (by omega) ed, fun h => absurd h (a3 d hd)⟩
    · obtain ⟨b1, b2, b3⟩ := a1 e he ec
      rw [hcf, if_neg ec]
      refine ⟨b1, ?_, fun d hd => ?_⟩
      · rw [hgt]
        by_cases ex : e = x
        · rw [if_pos ex]
          rcases hpp with ⟨q, _⟩ | q
          · omega
          · refine ⟨fun h => ?_, fun h => by omega⟩
            have := b2.mp h
            rw [ex, gx, q] at this
            omega
        · rw [if_neg ex]; exact b2
      · rw [hgt]
        by_cases ed : d = x
        · rw [if_pos ed]
          refine ⟨fun h => ?_, fun h => by omega⟩
          have := (b3 d hd).mp h
          rw [ed, gx] at this
          rcases hpp with ⟨_, q⟩ | q <;> omega
        · rw [if_neg ed]; exact b3 d hd
  · rw [hgt]; split
    · omega
    · exact a2 e he
  · rw [hgt]
    by_cases ed : d = x
    · rw [if_pos ed]; omega
    · rw [if_neg ed]
      intro h
      rcases hpp with ⟨q, q2⟩ | q
      · rw [q] at h
        have := ((a1 x hx hxc).2.2 d hd).mpr h
        rw [cx q2] at this
        omega
      · have := ((a1 p hp hpc).2.2 d hd).mpr h
        rw [(cp q).1] at this
        omega
  · rw [hgt]
    by_cases ep : p = x
    · rw [if_pos ep]; omega
    · rw [if_neg ep]
      intro h
      rcases hpp with ⟨q, q2⟩ | q
      · exact ep q
      · have := (a1 p hp hpc).2.1.mpr h
        rw [(cp q).1] at this
        omega
  · rw [hcf, if_neg (fun e => by rw [e] at hry; omega)]
    exact a5 y hy (by omega)
  · rw [hgt, if_neg (fun e => by rw [e] at hry; omega)]
    exact a6 y hy (by omega)
  · rw [hcf]
    by_cases ec : e = c
    · rw [if_pos ec, ec]; exact ⟨fun h => by omega, fun h => absurd h a10⟩
    · rw [if_neg ec]; exact a7 e he
  · rw [hgt] at h2
    by_cases ex : e = x
    · rw [if_pos ex] at h2; omega
    · rw [if_neg ex] at h2; exact a8 e he h2
  · rw [hgt] at h2
    by_cases ex : e = x
    · rw [if_pos ex] at h2
      have : d = c := by omega
      rw [ex, this]; exact ⟨hl, hw⟩
    · rw [if_neg ex] at h2; exact a9 e d he hd h2
  · rcases hpp with ⟨q, q2⟩ | q
    · have := (h0.1 x hx).2.2.1.mpr q2
      rw [q, this]; decide
    · rw [(cp q).2]; omega
theorem wk_cancel {ρ : RIV} {w cf0 gt0 cf gt cf' gt' : Nat → Int} {rk : Nat → Nat} {c p : Nat} (h0 : FlV ρ w cf0 gt0) (h : WkI ρ w cf0 gt0 rk c cf gt) (hr : rk (96 + c) < rk c) (hp : p < 96) (hpp : gt0 c = (p : Int)) (hrp : rk p < rk (96 + c)) (hcf : ∀ y, cf' y = if y = c then -3 else cf y) (hgt : ∀ y, gt' y = if y = c then -3 else gt y) : WkI ρ w cf0 gt0 rk p cf' gt' := by
  obtain ⟨hc, a1, a2, a3, a4, a5, a6, a7, a8, a9, a10⟩ := h
  have gx := a6 c hc hr
  have hpc : p ≠ c := fun e2 => lpB_ne hc ((h0.2 c hc).2.2 p hp hpp).1 e2.symm
  have q : cf0 p = (c : Int) := ((h0.1 p hp).2.2.2 c hc).mpr hpp
  have q2 : cf p = (c : Int) := by rw [a5 p hp (by omega)]; exact q
  refine ⟨hp, fun e he hne => ?_, fun e he => ?_, fun d hd => ?_, ?_, fun y hy hry => ?_, fun y hy hry => ?_, fun e he => ?_, fun e he h2 => ?_, fun e d he hd h2 => ?_, ?_⟩
  · by_cases ec : e = c
    · subst ec
      rw [hcf, if_pos rfl, hgt, if_pos rfl]
      refine ⟨by omega, Iff.rfl, fun d hd => ?_⟩
      rw [hgt]
      by_cases ed : d = e
      · rw [if_pos ed]; exact ⟨fun h => by omega, fun h => by omega⟩
      · rw [if_neg ed]; exact ⟨fun h => by omega, fun h => absurd h (a3 d hd)⟩
    · obtain ⟨b1, b2, b3⟩ := a1 e he ec
      rw [hcf, if_neg ec]
      refine ⟨b1, ?_, fun d hd => ?_⟩
      · rw [hgt, if_neg ec]; exact b2
      · rw [hgt]
        by_cases ed : d = c
        · rw [if_pos ed]
          refine ⟨fun h => ?_, fun h => by omega⟩
          have := (b3 d hd).mp h
          rw [ed, gx] at this
          omega
        · rw [if_neg ed]; exact b3 d hd
  · rw [hgt]; split
    · omega
    · exact a2 e he
  · rw [hgt]
    by_cases ed : d = c
    · rw [if_pos ed]; omega
    · rw [if_neg ed]
      intro h
      have := ((a1 p hp hpc).2.2 d hd).mpr h
      rw [q2] at this
      omega
  · rw [hgt, if_neg hpc]
    intro h
    have := (a1 p hp hpc).2.1.mpr h
    rw [q2] at this
    omega
  · rw [hcf, if_neg (fun e => by rw [e] at hry; omega)]
    exact a5 y hy (by omega)
  · rw [hgt, if_neg (fun e => by rw [e] at hry; omega)]
    exact a6 y hy (by omega)
  · rw [hcf]
    by_cases ec : e = c
    · rw [if_pos ec, ec]; exact ⟨fun h => by omega, fun h => absurd h a10⟩
    · rw [if_neg ec]; exact a7 e he
  · rw [hgt] at h2
    by_cases ex : e = c
    · rw [if_pos ex] at h2; omega
    · rw [if_neg ex] at h2; exact a8 e he h2
  · rw [hgt] at h2
    by_cases ex : e = c
    · rw [if_pos ex] at h2; omega
    · rw [if_neg ex] at h2; exact a9 e d he hd h2
  · rw [q]; omega
theorem wk_start {ρ : RIV} {w cf0 gt0 gt' : Nat → Int} {rk : Nat → Nat} {x p : Nat} (h0 : FlV ρ w cf0 gt0) (hx : x < 96) (hl : enB ρ x = true) (hg : gt0 x ≠ -2) (hp : p < 96) (hpp : (p = x ∧ gt0 x = -3) ∨ gt0 x = (p : Int)) (hrp : rk p < rk (96 + x)) (hgt : ∀ y, gt' y = if y = x then -2 else gt0 y) : WkI ρ w cf0 gt0 rk p cf0 gt' := by
  have hpx : ∀ (_ : gt0 x = (p : Int)), p ≠ x := fun e e2 => lpB_ne hx ((h0.2 x hx).2.2 p hp e).1 e2.symm
  have cp : gt0 x = (p : Int) → cf0 p = (x : Int) := fun e => ((h0.1 p hp).2.2.2 x hx).mpr e
  have cx : gt0 x = -3 → cf0 x = -3 := fun e => (h0.1 x hx).2.2.1.mpr e
  refine ⟨hp, fun e he hne => ?_, fun e he => ?_, fun d hd => ?_, ?_, fun y hy hry => rfl, fun y hy hry => ?_, fun e he => Iff.rfl, fun e he h2 => ?_, fun e d he hd h2 => ?_, ?_⟩
  · obtain ⟨b1, b0, b2, b3⟩ := h0.1 e he
    refine ⟨b1, ?_, fun d hd => ?_⟩
    · rw [hgt]
      by_cases ex : e = x
      · rw [if_pos ex]
        rcases hpp with ⟨q, _⟩ | q
        · omega
        · refine ⟨fun h => ?_, fun h => by omega⟩
          have := b2.mp h
          rw [ex, q] at this
          omega
      · rw [if_neg ex]; exact b2
    · rw [hgt]
      by_cases ed : d = x
      · rw [if_pos ed]
        refine ⟨fun h => ?_, fun h => by omega⟩
        have := (b3 d hd).mp h
        rw [ed] at this
        rcases hpp with ⟨_, q⟩ | q <;> omega
      · rw [if_neg ed]; exact b3 d hd
  · rw [hgt]; split
    · omega
    · exact (h0.1 e he).2.1
  · rw [hgt]
    by_cases ed : d = x
    · rw [if_pos ed]; omega
    · rw [if_neg ed]
      intro h
      rcases hpp with ⟨q, q2⟩ | q
      · rw [q] at h
        have := ((h0.1 x hx).2.2.2 d hd).mpr h
        rw [cx q2] at this
        omega
      · have := ((h0.1 p hp).2.2.2 d hd).mpr h
        rw [cp q] at this
        omega
  · rw [hgt]
    by_cases ep : p = x
    · rw [if_pos ep]; omega
    · rw [if_neg ep]
      intro h
      rcases hpp with ⟨q, q2⟩ | q
      · exact ep q
      · have := (h0.1 p hp).2.2.1.mpr h
        rw [cp q] at this
        omega
  · rw [hgt, if_neg (fun e => by rw [e] at hry; omega)]
  · rw [hgt] at h2
    by_cases ex : e = x
    · rw [ex]; exact hl
    · rw [if_neg ex] at h2; exact (h0.2 e he).2.1 h2
  · rw [hgt] at h2
    by_cases ex : e = x
    · rw [if_pos ex] at h2; omega
    · rw [if_neg ex] at h2; exact (h0.2 e he).2.2 d hd h2
  · rcases hpp with ⟨q, q2⟩ | q
    · rw [q, cx q2]; decide
    · rw [cp q]; omega
theorem wk_end {ρ : RIV} {w cf0 gt0 cf gt cf' : Nat → Int} {rk : Nat → Nat} {c : Nat} (h0 : FlV ρ w cf0 gt0) (h : WkI ρ w cf0 gt0 rk c cf gt) (hs : SrG ρ w (fsX cf0) c) (hcf : ∀ y, cf' y = if y = c then -1 else cf y) : FlV ρ w cf' gt ∧ sumN (fsX cf') 96 = sumN (fsX cf0) 96 + 1 := by
  obtain ⟨hc, a1, a2, a3, a4, a5, a6, a7, a8, a9, a10⟩ := h
  refine ⟨⟨fun e he => ?_, fun e he => ⟨fun h => ?_, a8 e he, fun d hd h => a9 e d he hd h⟩⟩, ?_⟩
  · by_cases ec : e = c
    · subst ec
      rw [hcf, if_pos rfl]
      exact ⟨by omega, a2 e he, ⟨fun h => by omega, fun h => absurd h a4⟩, fun d hd => ⟨fun h => by omega, fun h => absurd h (a3 d hd)⟩⟩
    · rw [hcf, if_neg ec]
      obtain ⟨b1, b2, b3⟩ := a1 e he ec
      exact ⟨b1, a2 e he, b2, b3⟩
  · rw [hcf] at h
    by_cases ec : e = c
    · rw [ec]; exact ⟨hs.2.1, hs.2.2.1⟩
    · rw [if_neg ec] at h
      exact (h0.2 e he).1 ((a7 e he).mp h)
  · rw [sumN_upd (f := fsX cf0) (g := fsX cf') hc (fun e he hne => ?_), hs.2.2.2]
    · unfold fsX
      rw [hcf, if_pos rfl, if_pos rfl]; rfl
    · unfold fsX
      rw [hcf, if_neg hne]
      by_cases g : cf0 e = -1
      · rw [if_pos g, if_pos ((a7 e he).mpr g)]
      · rw [if_neg g, if_neg (fun h => g ((a7 e he).mp h))]
/-- who one came to from -/
theorem par_out {ρ : RIV} {w cf gt : Nat → Int} {x p : Nat} (hr : RsG ρ w (fvX gt) (faX gt) p (96 + x)) : p < 96 ∧ ((p = x ∧ gt x = -3) ∨ gt x = (p : Int)) := by
  rcases hr with ⟨c', b1, b2, b3, b4⟩ | ⟨c', d, b1, b2, b3, b4, b5⟩ | ⟨d, c', b1, b2, b3, b4, b5, b6, b7⟩ | ⟨c', b1, b2, b3, b4⟩
  · have : c' = x := by omega
    subst this
    exact ⟨by omega, Or.inl ⟨b2, fvX_0.mp b4⟩⟩
  · have : d = x := by omega
    subst this
    subst b3
    exact ⟨b1, Or.inr (faX_1.mp b5)⟩
  · omega
  · omega
theorem par_in {ρ : RIV} {w cf gt : Nat → Int} {x c : Nat} (hc : c < 96) (hr : RsG ρ w (fvX gt) (faX gt) x c) : ∃ d : Nat, d < 96 ∧ x = 96 + d ∧ ((lpB ρ d c = true ∧ 0 ≤ w c ∧ gt d ≠ (c : Int)) ∨ (d = c ∧ gt c ≠ -3)) := by
  rcases hr with ⟨c', b1, b2, b3, b4⟩ | ⟨c', d, b1, b2, b3, b4, b5⟩ | ⟨d, c', b1, b2, b3, b4, b5, b6, b7⟩ | ⟨c', b1, b2, b3, b4⟩
  · omega
  · omega
  · subst b4
    exact ⟨d, b2, b3, Or.inl ⟨b5, b6, faX_0.mp b7⟩⟩
  · subst b3
    exact ⟨c, b1, b2, Or.inr ⟨rfl, fvX_1.mp b4⟩⟩
theorem addWay_eq {F last tail : Nat} (hF : 1000000 ≤ F) {ρ : RIV} {w cf gt : Nat → Int} {I : MI} (h1 : I 251 = cf) (h2 : I 252 = gt) (hf : FlV ρ w cf gt) (hq : BX ρ w cf gt I tail) (hl : last < 96) (hp : I 253 (96 + last) ≠ -3) (hen : enB ρ last = true) (hgl : gt last ≠ -2) : ∃ I', f_F_addWay F (last : Int) I = some I' ∧ FlV ρ w (I' 251) (I' 252) ∧ sumN (fsX (I' 251)) 96 = sumN (fsX cf) 96 + 1 ∧ ∀ a, a ≠ 251 → a ≠ 252 → I' a = I a := by
  have hle := (bq_le hq).2
  obtain ⟨rk, q1, q2, q3, q4⟩ := hq
  unfold f_F_addWay
  rw [if_pos (by omega), Int.toNat_natCast, w32i (by omega) (by omega)]
  have k := wpo_iter (step := fun s : Int × Int × MI => f_F_addWay_L15 F s.1 s.2.1 s.2.2) (Q := fun e => ∃ (c : Nat) (N : MI), e = .inl ((c : Int), N) ∧ c < 96 ∧ SrG ρ w (fsX cf) c ∧ WkI ρ w cf gt rk c (N 251) (N 252) ∧ ∀ a, a ≠ 251 → a ≠ 252 → N a = I a) (fun s => ∃ spot n : Nat, s.1 = (spot : Int) ∧ s.2.1 = (n : Int) ∧ spot < 192 ∧ n + rk spot < 192 ∧ I 253 spot ≠ -3 ∧ (spot < 96 → WkI ρ w cf gt rk spot (s.2.2 251) (s.2.2 252)) ∧ (96 ≤ spot → ∃ p : Nat, p < 96 ∧ I 253 spot = (p : Int) ∧ I 253 p ≠ -3 ∧ rk p < rk spot ∧ WkI ρ w cf gt rk p (s.2.2 251) (s.2.2 252)) ∧ ∀ a, a ≠ 251 → a ≠ 252 → s.2.2 a = I a) (fun s => rk s.1.toNat) ?_ (F := F) (s := ((96 : Int) + (last : Int), (0 : Int), up2 I 252 last (-2))) ?_ ?_
  · obtain ⟨e, e1, c, N, e2, hc, hs, hw, hfr⟩ := k
    rw [e1, Option.bind_some, e2]
    unfold f_F_addWay_b63
    dsimp only
    rw [if_pos (by omega), Int.toNat_natCast]
    refine ⟨_, rfl, ?_⟩
    rw [up2_off (show (252 : Nat) ≠ 251 by decide)]
    obtain ⟨w1, w2⟩ := wk_end (cf' := up2 N 251 c (-1) 251) hf hw hs (fun y => by
      by_cases e : y = c
      · rw [e, up2_same, if_pos rfl]
      · rw [up2_k e, if_neg e])
    exact ⟨w1, w2, fun a b1 b2 => by rw [up2_off b1]; exact hfr a b1 b2⟩
  · rintro ⟨sp, n', N⟩ ⟨spot, n, p1, p2, p3, p4, p5, p6, p7, p8⟩
    dsimp only at p1 p2 p6 p7 p8 ⊢
    subst p1
    subst p2
    have f53 : N 253 = I 253 := p8 253 (by decide) (by decide)
    have ew : w32 ((n : Int) + 1) = (n : Int) + 1 := w32i (by omega) (by omega)
    obtain ⟨r1, r2, r3⟩ := q4 spot p3 p5
    unfold f_F_addWay_L15
    refine wpo_n (by omega) (wpo_g (by omega) ?_)
    rw [Int.toNat_natCast, f53, ew]
    by_cases hin : spot < 96
    · have hw := p6 hin
      rcases r3 with ⟨r4, r5⟩ | ⟨x, x1, x2, x3, x4, x5⟩
      · rw [r4]
        exact wpo_n (by decide) (wpo_s ⟨spot, N, rfl, hin, r5, hw, p8⟩)
      · obtain ⟨d, d1, d2, d3⟩ := par_in (cf := cf) hin x5
        subst d2
        rw [x2]
        refine wpo_g (by omega) (wpo_n (by omega) ?_)
        have ed : w32 (((96 + d : Nat) : Int) - 96) = (d : Int) := by rw [w32i (by omega) (by omega)]; omega
        rw [ed]
        obtain ⟨s1, s2, s3⟩ := q4 (96 + d) x1 x3
        rcases s3 with ⟨_, s4⟩ | ⟨p, t1, t2, t3, t4, t5⟩
        · have := s4.1; omega
        obtain ⟨t6, t7⟩ := par_out (cf := cf) t5
        unfold f_F_leadInto
        have fin : ∀ M : MI, WkI ρ w cf gt rk p (M 251) (M 252) → (∀ a, a ≠ 251 → a ≠ 252 → M a = I a) → (∃ spot' n'' : Nat, ((96 + d : Nat) : Int) = (spot' : Int) ∧ (n : Int) + 1 = (n'' : Int) ∧ spot' < 192 ∧ n'' + rk spot' < 192 ∧ I 253 spot' ≠ -3 ∧ (spot' < 96 → WkI ρ w cf gt rk spot' (M 251) (M 252)) ∧ (96 ≤ spot' → ∃ p : Nat, p < 96 ∧ I 253 spot' = (p : Int) ∧ I 253 p ≠ -3 ∧ rk p < rk spot' ∧ WkI ρ w cf gt rk p (M 251) (M 252)) ∧ ∀ a, a ≠ 251 → a ≠ 252 → M a = I a) ∧ rk (((96 + d : Nat) : Int)).toNat < rk ((spot : Int)).toNat := by
          intro M hM hfr
          rw [Int.toNat_natCast, Int.toNat_natCast]
          exact ⟨⟨96 + d, n + 1, rfl, by omega, x1, by omega, x3, fun h => absurd h (by omega), fun _ => ⟨p, t6, t2, t3, t4, hM⟩, hfr⟩, x4⟩
        rcases d3 with ⟨g1, g2, g3⟩ | ⟨g1, g2⟩
        · have hdc := lpB_ne d1 g1
          rw [if_pos (by omega), if_pos (by omega), if_pos (by omega), Option.bind_some, Int.toNat_natCast, Int.toNat_natCast]
          refine wpo_s (fin _ ?_ (fun a b1 b2 => by dsimp only; rw [up2_off b2, up2_off b1]; exact p8 a b1 b2))
          refine wk_step hf hw d1 g1 g2 g3 x4 t6 t7 t4 (fun y => ?_) (fun y => ?_) <;> dsimp only
          · rw [up2_r (by decide)]
            by_cases e : y = spot
            · rw [e, up2_same, if_pos rfl]
            · rw [up2_k e, if_neg e]
          · by_cases e : y = d
            · rw [e, up2_same, if_pos rfl]
            · rw [up2_k e, up2_r (by decide), if_neg e]
        · subst g1
          rw [if_neg (by simp), if_pos (by omega), Option.bind_some, Int.toNat_natCast]
          refine wpo_s (fin _ ?_ (fun a b1 b2 => by dsimp only; rw [up2_off b2, up2_off b1]; exact p8 a b1 b2))
          refine wk_cancel hf hw x4 t6 (by rcases t7 with ⟨_, t7⟩ | t7
                                           · exact absurd t7 g2
                                           · exact t7) t4 (fun y => ?_) (fun y => ?_) <;> dsimp only
          · rw [up2_r (by decide)]
            by_cases e : y = d
            · rw [e, up2_same, if_pos rfl]
            · rw [up2_k e, if_neg e]
          · by_cases e : y = d
            · rw [e, up2_same, if_pos rfl]
            · rw [up2_k e, up2_r (by decide), if_neg e]
    · obtain ⟨p, t1, t2, t3, t4, t5⟩ := p7 (by omega)
      rw [t2]
      refine wpo_g (by omega) (wpo_g (by omega) (wpo_s ⟨⟨p, n + 1, rfl, by dsimp only; omega, by omega, by omega, t3, fun _ => t5, fun h => absurd h (by omega), p8⟩, ?_⟩))
      exact t4
  · dsimp only
    have := (q4 (96 + last) (by omega) hp).1
    have e : ((96 : Int) + (last : Int)).toNat = 96 + last := by omega
    rw [e]; omega
  · obtain ⟨r1, r2, r3⟩ := q4 (96 + last) (by omega) hp
    rcases r3 with ⟨_, r4⟩ | ⟨p, t1, t2, t3, t4, t5⟩
    · have := r4.1; omega
    obtain ⟨t6, t7⟩ := par_out (cf := cf) t5
    refine ⟨96 + last, 0, by dsimp only; omega, rfl, by omega, by omega, hp, fun h => absurd h (by omega), fun _ => ⟨p, t6, t2, t3, t4, ?_⟩, fun a b1 b2 => by dsimp only; rw [up2_off b2]⟩
    dsimp only
    rw [up2_off (show (251 : Nat) ≠ 252 by decide), h1]
    refine wk_start hf hl hen hgl t6 t7 t4 (fun y => ?_)
    by_cases e : y = last
    · rw [e, up2_same, if_pos rfl]
    · rw [up2_k e, if_neg e, h2]
theorem fmax_96 {ρ : RIV} {w fs fv ft : Nat → Int} {fa : Nat → Nat → Int} (h : FVal ρ w fs fv ft fa) (h96 : sumN fs 96 = 96) : FMax ρ w 96 := by
  refine ⟨⟨fs, fv, ft, fa, h, h96⟩, fun gs gv gt ga hg => ?_⟩
  have := (sumN_bd (f := gs) (n := 96) (b := 1) (fun k hk => by rcases (hg.2.1 k hk).1 with a | a <;> omega)).2
  omega
theorem most_eq {F rv : Nat} (hF : 1000000 ≤ F) (hrv : rv = 11 ∨ rv = 30) {ρ : RIV} {w : Nat → Int} {I : MI} (hρ : RivOK ρ) (hx : RivX I rv ρ) (hw : ∀ c, c < 96 → I 245 c = w c) (hwr : ∀ c, c < 96 → 0 ≤ w c → inRv ρ c = true) : ∃ (r : Int) (I' : MI), f_F_most F rv I = some (r, I') ∧ FMax ρ w r ∧ ∀ a, a < 250 ∨ 254 < a → I' a = I a := by
  unfold f_F_most
  have k := wpo_iter (step := fun s : Int × Int × MI => f_F_most_L23 F rv s.1 s.2.1 s.2.2) (Q := fun e => ∃ (r : Int) (N : MI), (e = .inl (r, N) ∨ e = .inr (r, N)) ∧ FMax ρ w r ∧ ∀ a, a < 250 ∨ 254 < a → N a = I a) (fun s => ∃ n : Nat, n ≤ 96 ∧ s.1 = (n : Int) ∧ s.2.1 = (n : Int) ∧ FlV ρ w (s.2.2 251) (s.2.2 252) ∧ sumN (fsX (s.2.2 251)) 96 = (n : Int) ∧ ∀ a, a < 250 ∨ 254 < a → s.2.2 a = I a) (fun s => 96 - s.2.1.toNat) ?_ (F := F) (s := ((0 : Int), (0 : Int), fillA (fillA I 251 96 (-3)) 252 96 (-3))) (by dsimp only; omega) ?_
  · obtain ⟨e, e1, r, N, e2, e3, e4⟩ := k
    rw [e1, Option.bind_some]
    rcases e2 with e2 | e2
    · rw [e2]; exact ⟨r, N, rfl, e3, e4⟩
    · rw [e2]; exact ⟨r, N, rfl, e3, e4⟩
  · rintro ⟨x, y, N⟩ ⟨n, p1, p2, p3, p4, p5, p6⟩
    dsimp only at p2 p3 p4 p5 p6 ⊢
    subst p2
    subst p3
    unfold f_F_most_L23
    refine wpo_i (fun hc => wpo_s ?_) (fun hc => ?_)
    · have : n = 96 := by omega
      subst this
      exact ⟨_, N, Or.inr rfl, fmax_96 (flv_val p4) p5, p6⟩
    obtain ⟨r, I', e1, e2, e3⟩ := seek_eq (F := F) (rv := rv) (I := N) hF hrv hρ (rivx_congr hx (fun a b1 b2 b3 b4 => p6 a (by omega))) (fun c hc => by rw [p6 245 (by omega)]; exact hw c hc) hwr rfl rfl p4
    rw [e1, Option.bind_some]
    dsimp only
    rcases e3 with ⟨tail, c, c1, c2, c3, c4, c5, c6⟩ | ⟨c1, c2⟩
    · rw [c2]
      obtain ⟨I2, d1, d2, d3, d4⟩ := addWay_eq (F := F) (last := c) (cf := N 251) (gt := N 252) hF (e2 251 (by decide) (by decide) (by decide)) (e2 252 (by decide) (by decide) (by decide)) p4 c3 c1 c4 c5 c6
      rw [d1]
      refine wpo_g (by omega) ?_
      rw [Option.bind_some, w32i (by omega) (by omega)]
      have hle := (sumN_bd (f := fsX (I2 251)) (n := 96) (b := 1) (fun k hk => by unfold fsX; split <;> omega)).2
      refine wpo_s ⟨⟨n + 1, by omega, by dsimp only; omega, by dsimp only; omega, d2, by dsimp only; rw [d3, p5]; omega, fun a ha => ?_⟩, by dsimp only; omega⟩
      dsimp only
      rw [d4 a (by omega) (by omega), e2 a (by omega) (by omega) (by omega)]
      exact p6 a ha
    · rw [c1]
      refine wpo_n (by simp) (wpo_s ⟨_, I', Or.inl rfl, ?_, fun a ha => ?_⟩)
      · rw [← p5]; exact c2
      · rw [e2 a (by omega) (by omega) (by omega)]; exact p6 a ha
  · refine ⟨0, by omega, rfl, rfl, ⟨fun c hc => ?_, fun c hc => ?_⟩, ?_, fun a ha => ?_⟩
    · have a1 : fillA (fillA I 251 96 (-3)) 252 96 (-3) 251 c = -3 := by unfold fillA; rw [if_neg (by omega), if_pos ⟨rfl, hc⟩]
      have a2 : ∀ c, c < 96 → fillA (fillA I 251 96 (-3)) 252 96 (-3) 252 c = -3 := fun c hc => by unfold fillA; rw [if_pos ⟨rfl, hc⟩]
      dsimp only
      rw [a1, a2 c hc]
      exact ⟨by omega, by omega, Iff.rfl, fun d hd => by rw [a2 d hd]; exact ⟨fun h => by omega, fun h => by omega⟩⟩
    · have a1 : fillA (fillA I 251 96 (-3)) 252 96 (-3) 251 c = -3 := by unfold fillA; rw [if_neg (by omega), if_pos ⟨rfl, hc⟩]
      have a2 : fillA (fillA I 251 96 (-3)) 252 96 (-3) 252 c = -3 := by unfold fillA; rw [if_pos ⟨rfl, hc⟩]
      dsimp only
      rw [a1, a2]
      exact ⟨fun h => by omega, fun h => by omega, fun d hd h => by omega⟩
    · refine sumN_none (fun c hc => ?_)
      dsimp only
      refine fsX_0.mpr ?_
      unfold fillA
      rw [if_neg (by omega), if_pos ⟨rfl, hc⟩]; decide
    · funext k
      dsimp only
      unfold fillA
      rw [if_neg (by omega), if_neg (by omega)]
