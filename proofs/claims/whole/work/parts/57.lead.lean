/-! whether one gets over at all -/
def wSt (ρ : RIV) (H : Nat → Int) (c : Nat) : Int := if isSt ρ H c = true then 0 else -1
theorem wSt_nn {ρ : RIV} {H : Nat → Int} {c : Nat} : 0 ≤ wSt ρ H c ↔ isSt ρ H c = true := by
  unfold wSt
  by_cases g : isSt ρ H c = true
  · rw [if_pos g]; exact ⟨fun _ => g, fun _ => by omega⟩
  · rw [if_neg g]; exact ⟨fun h => by omega, fun h => absurd h g⟩
theorem sol1_bd {ρ : RIV} {w D : Nat → Int} (hs : Sol ρ w 1 (fun _ => 0) 2000000000 D) : ∀ (n k : Nat), gok w k → D k = (n : Int) → D k < 2000000000 → D k ≤ 1 + rkD w D k := by
  intro n
  induction n using Nat.strongRecOn with
  | _ n ih =>
  intro k hk hn hlt
  obtain ⟨a1, a2, a3, a4, a5⟩ := hs k hk
  have hr := rkD_nn (w := w) (D := D) (k := k)
  rcases a5 with h' | ⟨_, h'⟩ | ⟨to, t1, t2, t3, t4, t5⟩
  · omega
  · omega
  · have p1 := (hs to (Or.inr ⟨t1, t2⟩)).1
    dsimp only at t5
    have := ih (D to).toNat (by omega) to (Or.inr ⟨t1, t2⟩) (by omega) t4
    have := rkD_lt (w := w) (D := D) (k := k) t1 t2 (by omega)
    omega
/-- what the class's queue is like -/
def BIv (ρ : RIV) (w D : Nat → Int) (M : MI) (tail head : Nat) : Prop :=
  (∀ c, c < 96 → M 248 c = 0 ∨ M 248 c = 1) ∧ cnt (fun c => decide (M 248 c = 1)) 96 = (tail : Int) ∧ (∀ i, i < tail → ∃ c : Nat, c < 96 ∧ M 249 i = (c : Int) ∧ M 248 c = 1) ∧ (∀ c, c < 96 → M 248 c = 1 → 0 ≤ w c ∧ (D c < 2000000000 → D 96 < 2000000000) ∧ ∃ i, i < tail ∧ M 249 i = (c : Int)) ∧ (∀ c, c < 96 → 0 ≤ w c → lpB ρ 96 c = true → M 248 c = 1) ∧ (∀ i c : Nat, i < head → M 249 i = (c : Int) → enB ρ c ≠ true ∧ ∀ v, v < 96 → 0 ≤ w v → lpB ρ c v = true → M 248 v = 1)
theorem biv_push {ρ : RIV} {w D : Nat → Int} {M : MI} {tail head to : Nat} (h : BIv ρ w D M tail head) (hto : to < 96) (h0 : M 248 to = 0) (hw : 0 ≤ w to) (hD : D to < 2000000000 → D 96 < 2000000000) : tail < 96 ∧ ∀ M' : MI, (∀ c, M' 248 c = if c = to then 1 else M 248 c) → (∀ i, M' 249 i = if i = tail then (to : Int) else M 249 i) → head ≤ tail → BIv ρ w D M' (tail + 1) head := by
  obtain ⟨a1, a2, a3, a4, a5, a6⟩ := h
  have ht : tail < 96 := by
    have := cnt_lt (p := fun c => decide (M 248 c = 1)) (q := fun _ => true) (n := 96) (k := to) (fun _ _ _ => rfl) hto (by simp [h0]) rfl
    have := cnt_nn (fun _ => true) 96
    omega
  refine ⟨ht, fun M' m1 m2 hh => ⟨fun c hc => ?_, ?_, fun i hi => ?_, fun c hc h1 => ?_, fun c hc hwc hl => ?_, fun i c hi hc => ?_⟩⟩
  · rw [m1]; split
    · exact Or.inr rfl
    · exact a1 c hc
  · have := cnt_add (p := fun c => decide (M 248 c = 1)) (q := fun c => decide (M' 248 c = 1)) hto (by simp [h0]) (by rw [m1]; simp) (fun c hc hne => by rw [m1, if_neg hne])
    omega
  · by_cases e : i = tail
    · exact ⟨to, hto, by rw [m2, if_pos e], by rw [m1, if_pos rfl]⟩
    · obtain ⟨c, c1, c2, c3⟩ := a3 i (by omega)
      refine ⟨c, c1, by rw [m2, if_neg e]; exact c2, ?_⟩
      rw [m1]; split
      · rfl
      · exact c3
  · by_cases e : c = to
    · rw [e]; exact ⟨hw, hD, tail, by omega, by rw [m2, if_pos rfl]⟩
    · rw [m1, if_neg e] at h1
      obtain ⟨b1, b2, i, b3, b4⟩ := a4 c hc h1
      exact ⟨b1, b2, i, by omega, by rw [m2, if_neg (by omega)]; exact b4⟩
  · rw [m1]; split
    · rfl
    · exact a5 c hc hwc hl
  · rw [m2, if_neg (by omega)] at hc
    obtain ⟨b1, b2⟩ := a6 i c hi hc
    refine ⟨b1, fun v hv hwv hl => ?_⟩
    rw [m1]; split
    · rfl
    · exact b2 v hv hwv hl
theorem lead_eq {F rv : Nat} (hF : 1000000 ≤ F) (hrv : rv = 11 ∨ rv = 30) {I : MI} {ρ : RIV} {w D : Nat → Int} (hρ : RivOK ρ) (hx : RivX I rv ρ) (hw : ∀ c, c < 96 → I 245 c = w c) (hwr : ∀ c, c < 96 → 0 ≤ w c → inRv ρ c = true) (hS : Sol ρ w 1 (fun _ => 0) 2000000000 D) : ∃ I', f_Y_leadOver F rv I = some ((if D 96 < 2000000000 then 1 else 0), I') ∧ ∀ r, r ≠ 248 → r ≠ 249 → I' r = I r := by
  have hbd : ∀ k, gok w k → D k < 2000000000 → D k ≤ 97 := fun k hk hlt => by
    have := sol1_bd hS (D k).toNat k hk (by have := (hS k hk).1; omega) hlt
    have := rkD_nn (w := w) (D := D) (k := k)
    omega
  have h40 := (clN_le hρ).1
  unfold f_Y_leadOver
  rw [once_eq hx.2.1 hx.2.2.1, Option.bind_some]
  by_cases h96 : enB ρ 96 = true
  · rw [if_pos h96, if_neg (by decide)]
    have := (hS 96 (Or.inl rfl)).2.2.1 h96
    exact ⟨I, by rw [if_pos (by omega)], fun _ _ _ => rfl⟩
  rw [if_neg h96, if_pos rfl, cl_eq hρ hx.2.2.1, Option.bind_some]
  -- those at the near bank
  have k1 := wpo_iter (step := fun q : Int × Int × MI => f_Y_leadOver_L19 F rv ((clN ρ : Nat) : Int) q.1 q.2.1 q.2.2) (Q := fun e => ∃ tail : Nat, e.1 = (tail : Int) ∧ BIv ρ w D e.2 tail 0 ∧ ∀ r, r ≠ 248 → r ≠ 249 → e.2 r = I r) (fun q => ∃ n tail : Nat, n ≤ 96 ∧ q.2.1 = (n : Int) ∧ q.1 = (tail : Int) ∧ (∀ c, c < n → q.2.2 248 c = if 0 ≤ w c ∧ lpB ρ 96 c = true then 1 else 0) ∧ cnt (fun c => decide (q.2.2 248 c = 1)) n = (tail : Int) ∧ (∀ i, i < tail → ∃ c : Nat, c < n ∧ q.2.2 249 i = (c : Int) ∧ q.2.2 248 c = 1) ∧ (∀ c, c < n → q.2.2 248 c = 1 → ∃ i, i < tail ∧ q.2.2 249 i = (c : Int)) ∧ ∀ r, r ≠ 248 → r ≠ 249 → q.2.2 r = I r) (fun q => 96 - q.2.1.toNat) ?_ (F := F) (s := ((0 : Int), (0 : Int), I)) (by dsimp only; omega) ⟨0, 0, by omega, rfl, rfl, fun c hc => absurd hc (by omega), rfl, fun i hi => absurd hi (by omega), fun c hc => absurd hc (by omega), fun _ _ _ => rfl⟩
  · obtain ⟨⟨tl, M⟩, e1, tail, q1, q2, q3⟩ := k1
    dsimp only at q1 q2 q3
    rw [e1, Option.bind_some]
    dsimp only
    -- the queue
    have k2 := wpo_iter (step := fun q : Int × Int × MI => f_Y_leadOver_L90 F rv ((clN ρ : Nat) : Int) q.1 q.2.1 q.2.2) (Q := fun e => ∃ I', ((e = .inl I' ∧ D 96 < 2000000000) ∨ (e = .inr I' ∧ ¬ D 96 < 2000000000)) ∧ ∀ r, r ≠ 248 → r ≠ 249 → I' r = I r) (fun q => ∃ tail head : Nat, head ≤ tail ∧ tail ≤ 96 ∧ q.1 = (tail : Int) ∧ q.2.1 = (head : Int) ∧ BIv ρ w D q.2.2 tail head ∧ ∀ r, r ≠ 248 → r ≠ 249 → q.2.2 r = I r) (fun q => 96 - q.2.1.toNat) ?_ (F := F) (s := (tl, (0 : Int), M)) (by dsimp only; omega) ⟨tail, 0, by omega, ?_, q1, rfl, q2, q3⟩
    · obtain ⟨e, e2, I', e3, e4⟩ := k2
      rw [e2, Option.bind_some]
      rcases e3 with ⟨h, hd⟩ | ⟨h, hd⟩
      · exact ⟨I', by rw [h, if_pos hd], e4⟩
      · exact ⟨I', by rw [h, if_neg hd], e4⟩
    · rintro ⟨tl, hd, N⟩ ⟨tail, head, h1, h2, h3, h4, h5, h6⟩
      dsimp only at h3 h4 h5 h6 ⊢
      subst h3
      subst h4
      unfold f_Y_leadOver_L90
      have stop : (tail : Int) ≤ (head : Int) → wpo (some (Sum.inl (Sum.inr N)) : Option ((MI ⊕ MI) ⊕ (Int × Int × MI))) (fun r => Sum.elim (fun e => ∃ I', ((e = .inl I' ∧ D 96 < 2000000000) ∨ (e = .inr I' ∧ ¬ D 96 < 2000000000)) ∧ ∀ r, r ≠ 248 → r ≠ 249 → I' r = I r) (fun s' : Int × Int × MI => (∃ tail head : Nat, head ≤ tail ∧ tail ≤ 96 ∧ s'.1 = (tail : Int) ∧ s'.2.1 = (head : Int) ∧ BIv ρ w D s'.2.2 tail head ∧ ∀ r, r ≠ 248 → r ≠ 249 → s'.2.2 r = I r) ∧ 96 - s'.2.1.toNat < 96 - ((head : Int)).toNat) r) := by
        intro hle
        refine wpo_s ⟨N, Or.inr ⟨rfl, fun hfin => ?_⟩, h6⟩
        obtain ⟨b1, b2, b3, b4, b5, b6⟩ := h5
        -- nobody who is reached costs anything finite
        have noone : ∀ (n k : Nat), D k = (n : Int) → D k < 2000000000 → (k = 96 ∨ (k < 96 ∧ N 248 k = 1)) → False := by
          intro n
          induction n using Nat.strongRecOn with
          | _ n ih =>
          intro k hn hlt hk
          have hg : gok w k := by
            rcases hk with h | ⟨h, h'⟩
            · exact Or.inl h
            · exact Or.inr ⟨h, (b4 k h h').1⟩
          obtain ⟨a1, a2, a3, a4, a5⟩ := hS k hg
          rcases a5 with r | ⟨r, _⟩ | ⟨to, t1, t2, t3, t4, t5⟩
          · omega
          · rcases hk with h | ⟨h, h'⟩
            · rw [h] at r; exact h96 r
            · obtain ⟨_, _, i, i1, i2⟩ := b4 k h h'
              exact (b6 i k (by omega) i2).1 r
          · have hp := (hS to (Or.inr ⟨t1, t2⟩)).1
            dsimp only at t5
            refine ih (D to).toNat (by omega) to (by omega) t4 (Or.inr ⟨t1, ?_⟩)
            rcases hk with h | ⟨h, h'⟩
            · rw [h] at t3; exact b5 to t1 t2 t3
            · obtain ⟨_, _, i, i1, i2⟩ := b4 k h h'
              exact (b6 i k (by omega) i2).2 to t1 t2 t3
        exact noone (D 96).toNat 96 (by have := (hS 96 (Or.inl rfl)).1; omega) hfin (Or.inl rfl)
      by_cases hend : (tail : Int) ≤ (head : Int)
      · exact wpo_g hend (stop hend)
      refine wpo_n hend (wpo_n (by clear stop; omega) (wpo_g (by clear stop; omega) ?_))
      clear stop
      obtain ⟨u, u1, u2, u3⟩ := h5.2.2.1 head (by omega)
      rw [Int.toNat_natCast, u2, far_eq hρ (by rw [h6 rv (by omega) (by omega)]; exact hx.2.1) (by rw [h6 rv (by omega) (by omega)]; exact hx.2.2.1) u1, Option.bind_some]
      have hu4 := h5.2.2.2.1 u u1 u3
      by_cases gfar : enB ρ u = true
      · rw [if_pos gfar]
        refine wpo_n (by decide) (wpo_s ⟨N, Or.inl ⟨rfl, hu4.2.1 ?_⟩, h6⟩)
        have := (hS u (Or.inr ⟨u1, hu4.1⟩)).2.2.1 gfar
        omega
      rw [if_neg gfar]
      refine wpo_g rfl ?_
      have hDu : ∀ v, v < 96 → 0 ≤ w v → lpB ρ u v = true → D v < 2000000000 → D 96 < 2000000000 := fun v hv hwv hl hlt => hu4.2.1 (by
        have := (hS u (Or.inr ⟨u1, hu4.1⟩)).2.2.2.1 v hv hwv hl hlt
        have := hbd v (Or.inr ⟨hv, hwv⟩) hlt
        dsimp only at *
        omega)
      have k3 := wpo_iter (step := fun q : Int × Int × MI => f_Y_leadOver_L126 F rv ((clN ρ : Nat) : Int) q.1 (head : Int) (u : Int) q.2.1 q.2.2) (Q := fun e => ∃ tail' : Nat, tail ≤ tail' ∧ tail' ≤ 96 ∧ e.1 = (tail' : Int) ∧ BIv ρ w D e.2 tail' head ∧ (∀ v, v < 96 → 0 ≤ w v → lpB ρ u v = true → e.2 248 v = 1) ∧ (∀ i, i < tail → e.2 249 i = N 249 i) ∧ ∀ r, r ≠ 248 → r ≠ 249 → e.2 r = I r) (fun q => ∃ n tail' : Nat, n ≤ clN ρ ∧ q.2.1 = (n : Int) ∧ tail ≤ tail' ∧ tail' ≤ 96 ∧ q.1 = (tail' : Int) ∧ BIv ρ w D q.2.2 tail' head ∧ (∀ v i : Nat, v < 96 → i < n → lfA ρ u i = (v : Int) → 0 ≤ w v → q.2.2 248 v = 1) ∧ (∀ i, i < tail → q.2.2 249 i = N 249 i) ∧ ∀ r, r ≠ 248 → r ≠ 249 → q.2.2 r = I r) (fun q => clN ρ - q.2.1.toNat) ?_ (F := F) (s := ((tail : Int), (0 : Int), N)) (by dsimp only; omega) ⟨0, tail, by omega, rfl, Nat.le_refl _, h2, rfl, h5, fun v i _ hi => absurd hi (by omega), fun _ _ => rfl, h6⟩
      · obtain ⟨⟨tl', N'⟩, e3, tail', t1, t2, t3, t4, t5, t6, t7⟩ := k3
        dsimp only at t3 t4 t5 t6 t7
        rw [e3, Option.bind_some]
        refine wpo_s ⟨⟨tail', head + 1, by omega, t2, t3, ?_, ?_, t7⟩, ?_⟩ <;> dsimp only
        · rw [w32i (by omega) (by omega)]; omega
        · obtain ⟨b1, b2, b3, b4, b5, b6⟩ := t4
          refine ⟨b1, b2, b3, b4, b5, fun i c hi hc => ?_⟩
          by_cases e : i = head
          · rw [e, t6 head (by omega), u2] at hc
            have : c = u := by omega
            rw [this]
            exact ⟨gfar, t5⟩
          · exact b6 i c (by omega) hc
        · rw [w32i (by omega) (by omega)]; omega
      · rintro ⟨tl', x, P⟩ ⟨n, tail', p1, p2, p3, p4, p5, p6, p7, p8, p9⟩
        dsimp only at p2 p5 p6 p7 p8 p9 ⊢
        subst p2
        subst p5
        unfold f_Y_leadOver_L126
        refine wpo_i (fun hc => wpo_s ?_) (fun hc => ?_)
        · have : n = clN ρ := by omega
          subst this
          refine ⟨tail', p3, p4, rfl, p6, fun v hv hwv hl => ?_, p8, p9⟩
          obtain ⟨i', q1, q2⟩ := lf_out hρ u1 hv (hwr v hv hwv) hl
          exact p7 v i' hv q1 q2 hwv
        have hi : n < clN ρ := by omega
        rw [lf_eq (ρ := ρ) hρ (by rw [p9 rv (by omega) (by omega)]; exact hx.1) (by rw [p9 rv (by omega) (by omega)]; exact hx.2.1) u1 (by omega), Option.bind_some, w32i (x := (n : Int) + 1) (by omega) (by omega)]
        have keep : (∀ v : Nat, v < 96 → lfA ρ u n = (v : Int) → 0 ≤ w v → P 248 v = 1) → ((∃ n' tail'' : Nat, n' ≤ clN ρ ∧ (n : Int) + 1 = (n' : Int) ∧ tail ≤ tail'' ∧ tail'' ≤ 96 ∧ (tail' : Int) = (tail'' : Int) ∧ BIv ρ w D P tail'' head ∧ (∀ v i : Nat, v < 96 → i < n' → lfA ρ u i = (v : Int) → 0 ≤ w v → P 248 v = 1) ∧ (∀ i, i < tail → P 249 i = N 249 i) ∧ ∀ r, r ≠ 248 → r ≠ 249 → P r = I r) ∧ clN ρ - ((n : Int) + 1).toNat < clN ρ - ((n : Int)).toNat) := by
          intro hk
          refine ⟨⟨n + 1, tail', by omega, by omega, p3, p4, rfl, p6, fun v i hv hi' e hwv => ?_, p8, p9⟩, by omega⟩
          by_cases ei : i = n
          · rw [ei] at e; exact hk v hv e hwv
          · exact p7 v i hv (by omega) e hwv
        rcases lf_in hρ u1 hi with e | ⟨to, e, t1, t2⟩
        · rw [e]
          refine wpo_g rfl (wpo_s (keep (fun v hv ev => ?_)))
          rw [e] at ev
          omega
        · rw [e]
          refine wpo_n (by clear keep; omega) (wpo_g (by clear keep; omega) ?_)
          rw [Int.toNat_natCast, p9 245 (by decide) (by decide), hw to t1]
          refine wpo_i (fun hc2 => wpo_s (keep (fun v hv ev hwv => ?_))) (fun hc2 => ?_)
          · rw [e] at ev
            have : v = to := by clear keep; omega
            rw [this] at hwv
            clear keep
            omega
          refine wpo_i (fun hc3 => ?_) (fun hc3 => wpo_s (keep (fun v hv ev hwv => ?_)))
          · clear keep
            obtain ⟨s1, s2⟩ := biv_push p6 t1 hc3 (by omega) (hDu to t1 (by omega) t2)
            refine wpo_g (by omega) (wpo_s ?_)
            rw [w32i (by omega) (by omega), Int.toNat_natCast]
            refine ⟨⟨n + 1, tail' + 1, by omega, by dsimp only; omega, by omega, by omega, by dsimp only; omega, s2 _ (fun c => ?_) (fun i => ?_) (by omega), fun v i hv hi' ev hwv => ?_, fun i hi' => ?_, fun r r1 r2 => ?_⟩, by dsimp only; omega⟩ <;> try dsimp only
            · rw [up2_r (by decide)]; unfold up2; simp
            · unfold up2; simp
            · rw [up2_r (by decide)]
              by_cases ev2 : v = to
              · rw [ev2, up2_same]
              · rw [up2_k ev2]
                by_cases ei : i = n
                · rw [ei, e] at ev; omega
                · exact p7 v i hv (by omega) ev hwv
            · rw [up2_k (by omega), up2_r (by decide)]; exact p8 i hi'
            · rw [up2_off r2, up2_off r1]; exact p9 r r1 r2
          · rw [e] at ev
            have : v = to := by clear keep; omega
            rw [this]
            have := p6.1 to t1
            clear keep
            omega
    · have := q2.2.1
      have := cnt_nn (fun c => decide (M 248 c = 1)) 96
      omega
  · rintro ⟨tl, x, N⟩ ⟨n, tail, h1, h2, h3, h4, h5, h6, h7, h8⟩
    dsimp only at h2 h3 h4 h5 h6 h7 h8 ⊢
    subst h2
    subst h3
    unfold f_Y_leadOver_L19
    refine wpo_i (fun hc => wpo_s ?_) (fun hc => ?_)
    · have : n = 96 := by omega
      subst this
      refine ⟨tail, rfl, ⟨fun c hc2 => ?_, h5, h6, fun c hc2 h1' => ?_, fun c hc2 hwc hl => ?_, fun i c hi => absurd hi (by omega)⟩, h8⟩
      · show N 248 c = 0 ∨ N 248 c = 1
        rw [h4 c hc2]; split
        · exact Or.inr rfl
        · exact Or.inl rfl
      · have h1c : N 248 c = 1 := h1'
        have h4c := h4 c hc2
        have hcond : 0 ≤ w c ∧ lpB ρ 96 c = true := by
          by_cases g : 0 ≤ w c ∧ lpB ρ 96 c = true
          · exact g
          · rw [if_neg g] at h4c; omega
        refine ⟨hcond.1, fun hlt => ?_, h7 c hc2 h1'⟩
        have := (hS 96 (Or.inl rfl)).2.2.2.1 c hc2 hcond.1 hcond.2 hlt
        have := hbd c (Or.inr ⟨hc2, hcond.1⟩) hlt
        dsimp only at *
        omega
      · show N 248 c = 1
        rw [h4 c hc2, if_pos ⟨hwc, hl⟩]
    have hi : n < 96 := by omega
    have nn := cnt_nn (fun c => decide (N 248 c = 1)) n
    refine wpo_g (by omega) ?_
    rw [Int.toNat_natCast, h8 245 (by decide) (by decide), hw n hi]
    have ew : w32 ((n : Int) + 1) = (n : Int) + 1 := w32i (by omega) (by omega)
    have none1 : ¬ (0 ≤ w n ∧ lpB ρ 96 n = true) → wpo (f_Y_leadOver_b56in19 F rv ((clN ρ : Nat) : Int) (tail : Int) (n : Int) (n : Int) 0 N) (fun r => Sum.elim (fun e : Int × MI => ∃ tail : Nat, e.1 = (tail : Int) ∧ BIv ρ w D e.2 tail 0 ∧ ∀ r, r ≠ 248 → r ≠ 249 → e.2 r = I r) (fun s' : Int × Int × MI => (∃ n tail : Nat, n ≤ 96 ∧ s'.2.1 = (n : Int) ∧ s'.1 = (tail : Int) ∧ (∀ c, c < n → s'.2.2 248 c = if 0 ≤ w c ∧ lpB ρ 96 c = true then 1 else 0) ∧ cnt (fun c => decide (s'.2.2 248 c = 1)) n = (tail : Int) ∧ (∀ i, i < tail → ∃ c : Nat, c < n ∧ s'.2.2 249 i = (c : Int) ∧ s'.2.2 248 c = 1) ∧ (∀ c, c < n → s'.2.2 248 c = 1 → ∃ i, i < tail ∧ s'.2.2 249 i = (c : Int)) ∧ ∀ r, r ≠ 248 → r ≠ 249 → s'.2.2 r = I r) ∧ 96 - s'.2.1.toNat < 96 - ((n : Int)).toNat) r) := by
      intro hno
      unfold f_Y_leadOver_b56in19
      refine wpo_g (by omega) (wpo_g (by omega) ?_)
      rw [Int.toNat_natCast, up2_same, ew]
      refine wpo_n (by simp) (wpo_s ⟨⟨n + 1, tail, by omega, by dsimp only; omega, rfl, fun c hc2 => ?_, ?_, fun i hi' => ?_, fun c hc2 h1' => ?_, fun r r1 r2 => ?_⟩, by dsimp only; omega⟩) <;> dsimp only at *
      · by_cases e : c = n
        · rw [e, up2_same, if_neg hno]
        · rw [up2_k e]; exact h4 c (by omega)
      · rw [cnt_s, if_neg (by simp [up2_same]), Int.add_zero, ← h5]
        exact cnt_congr (fun c hc2 => by simp only [up2_k (show c ≠ n by omega)])
      · obtain ⟨c, c1, c2, c3⟩ := h6 i hi'
        exact ⟨c, by omega, by rw [up2_r (by decide)]; exact c2, by rw [up2_k (by omega)]; exact c3⟩
      · by_cases e : c = n
        · rw [e, up2_same] at h1'; omega
        · rw [up2_k e] at h1'
          obtain ⟨i, i1, i2⟩ := h7 c (by omega) h1'
          exact ⟨i, i1, by rw [up2_r (by decide)]; exact i2⟩
      · rw [up2_off r1]; exact h8 r r1 r2
    refine wpo_i (fun hc2 => ?_) (fun hc2 => ?_)
    · unfold f_Y_leadOver_b55in19
      exact none1 (fun h => absurd h.1 (Int.not_le.mpr hc2))
    · rw [near_eq hρ (by rw [h8 rv (by omega) (by omega)]; exact hx.2.2.1) hi, Option.bind_some]
      by_cases g : lpB ρ 96 n = true
      · rw [if_pos g]
        refine wpo_n (by decide) ?_
        clear none1
        unfold f_Y_leadOver_b56in19
        refine wpo_g (by omega) (wpo_g (by omega) ?_)
        rw [Int.toNat_natCast, up2_same, ew]
        refine wpo_g (by decide) (wpo_g (by omega) (wpo_s ?_))
        rw [w32i (by omega) (by omega), Int.toNat_natCast]
        refine ⟨⟨n + 1, tail + 1, by omega, by dsimp only; omega, by dsimp only; omega, fun c hc3 => ?_, ?_, fun i hi' => ?_, fun c hc3 h1' => ?_, fun r r1 r2 => ?_⟩, by dsimp only; omega⟩ <;> dsimp only at *
        · rw [up2_r (by decide)]
          by_cases e : c = n
          · rw [e, up2_same, if_pos ⟨by omega, g⟩]
          · rw [up2_k e]; exact h4 c (by omega)
        · rw [cnt_s, if_pos (by simp only [up2_r (show (248 : Nat) ≠ 249 by decide), up2_same, decide_true])]
          have : cnt (fun c => decide (up2 (up2 N 248 n 1) 249 tail (n : Int) 248 c = 1)) n = cnt (fun c => decide (N 248 c = 1)) n := cnt_congr (fun c hc3 => by simp only [up2_r (show (248 : Nat) ≠ 249 by decide), up2_k (show c ≠ n by omega)])
          rw [this, h5]; omega
        · by_cases e : i = tail
          · exact ⟨n, by omega, by rw [e, up2_same], by rw [up2_r (by decide), up2_same]⟩
          · obtain ⟨c, c1, c2, c3⟩ := h6 i (by omega)
            exact ⟨c, by omega, by rw [up2_k e, up2_r (by decide)]; exact c2, by rw [up2_r (by decide), up2_k (by omega)]; exact c3⟩
        · by_cases e : c = n
          · exact ⟨tail, by omega, by rw [e, up2_same]⟩
          · rw [up2_r (by decide), up2_k e] at h1'
            obtain ⟨i, i1, i2⟩ := h7 c (by omega) h1'
            exact ⟨i, by omega, by rw [up2_k (by omega), up2_r (by decide)]; exact i2⟩
        · rw [up2_off r2, up2_off r1]; exact h8 r r1 r2
      · rw [if_neg g]
        refine wpo_g rfl ?_
        unfold f_Y_leadOver_b55in19
        exact none1 (fun h => g h.2)
