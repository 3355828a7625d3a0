/-! givers: the model's least grief, at the end -/
theorem giv_congr {N : Nat} {sz wt gr cap : Nat → Int} {n fr γ m γ' m' : Nat} {t : Nat → Int} {left sum : Int} (h : GIv N sz wt gr cap n fr γ m t left sum) (hh : ∀ q, q < N → (hadT gr γ' m' q ↔ hadT gr γ m q)) : GIv N sz wt gr cap n fr γ' m' t left sum := by
  obtain ⟨g1, g2, g3, g4, g5, g6, g7⟩ := h
  exact ⟨g1, g2, g3, g4, g5, fun q hq hd => g6 q hq ((hh q hq).mp hd), fun q hq hd => g7 q hq (fun z => hd ((hh q hq).mpr z))⟩
theorem turn_row {F lv n fr γ : Nat} (hF : 1000000 ≤ F) {I J : MI} {ρ : RIV} {wt : Nat → Int} {left sum : Int} {M : MI} (hρ : RivOK ρ) (hr : RivM I lv ρ) (hl : I 296 18 = (lv : Int)) (h63 : I 296 63 = (n : Int)) (hn : n ≤ 900) (hfr : fr ≤ n) (hwt : ∀ i, i < n → I 339 i = wt i) (hcap : ∀ m : Nat, (m : Int) < aN ρ → 0 ≤ I 340 m ∧ I 340 m ≤ 9) (hM : ∀ a, a ≠ 341 → M a = I a) (hG : GIv (aN ρ).toNat (siz ρ) wt (gri ρ) (I 340) n fr γ 0 (M 341) left sum) : ∃ (left' sum' : Int) (M' : MI), iter (fun s : Int × Int × Int × MI => f_M_leastGrief_L46 F (fr : Int) s.1 s.2.1 (γ : Int) s.2.2.1 s.2.2.2 J) F (left, sum, 0, M) = some (left', sum', M') ∧ (∀ a, a ≠ 341 → M' a = I a) ∧ GIv (aN ρ).toNat (siz ρ) wt (gri ρ) (I 340) n fr (γ + 1) 0 (M' 341) left' sum' := by
  have h8 := hρ.2.2.2.1
  have hlv := hr.1
  have k1 := wpo_iter (step := fun s : Int × Int × Int × MI => f_M_leastGrief_L46 F (fr : Int) s.1 s.2.1 (γ : Int) s.2.2.1 s.2.2.2 J) (Q := fun e => (∀ a, a ≠ 341 → e.2.2 a = I a) ∧ GIv (aN ρ).toNat (siz ρ) wt (gri ρ) (I 340) n fr (γ + 1) 0 (e.2.2 341) e.1 e.2.1) (fun s => ∃ m : Nat, (m : Int) ≤ aN ρ ∧ s.2.2.1 = (m : Int) ∧ (∀ a, a ≠ 341 → s.2.2.2 a = I a) ∧ GIv (aN ρ).toNat (siz ρ) wt (gri ρ) (I 340) n fr γ m (s.2.2.2 341) s.1 s.2.1) (fun s => (aN ρ).toNat - s.2.2.1.toNat) ?_ (F := F) (s := (left, sum, (0 : Int), M)) (by dsimp only; omega) ⟨0, by omega, rfl, hM, hG⟩
  · obtain ⟨⟨l', s', M'⟩, e, q1, q2⟩ := k1
    exact ⟨l', s', M', e, q1, q2⟩
  rintro ⟨x, y, z, L⟩ ⟨m, p1, p2, p3, p4⟩
  dsimp only at p2 p3 p4 ⊢
  subst p2
  unfold f_M_leastGrief_L46
  rw [p3 296 (by decide), hl, if_pos (by omega), Int.toNat_natCast, p3 311 (by decide), hr.2.2.2.2.1]
  refine wpo_i (fun hc => wpo_s ⟨p3, giv_congr p4 (fun q hq => ?_)⟩) (fun hc => ?_)
  · unfold hadT
    constructor
    · rintro (h | ⟨_, h⟩)
      · by_cases e : gri ρ q < (γ : Int)
        · exact Or.inl e
        · exact Or.inr ⟨by omega, by omega⟩
      · exact absurd h (by omega)
    · rintro (h | ⟨h, _⟩)
      · exact Or.inl (by omega)
      · exact Or.inl (by omega)
  have hm : (m : Int) < aN ρ := by omega
  have ew : w32 ((m : Int) + 1) = (m : Int) + 1 := w32i (by omega) (by omega)
  rw [ix8 hlv (by omega), ew]
  refine wpo_g (by omega) ?_
  rw [Int.toNat_natCast, p3 315 (by decide), (hr.2.2.2.2.2.2.2.2.1 m hm).2.2.2]
  refine wpo_i (fun hg => ?_) (fun hg => wpo_s ?_)
  · obtain ⟨e, e1, l', s', M', e2, f3, g3⟩ := while_eq (F := F) (J := J) hF hρ hr hl h63 hn hfr hwt hcap hm hg p3 p4
    rw [e1, Option.bind_some]
    rcases e2 with e2 | e2
    · rw [e2]
      exact wpo_s ⟨⟨m + 1, by omega, by dsimp only; omega, f3, g3⟩, by dsimp only; omega⟩
    · rw [e2]
      have g3' := g3
      obtain ⟨_, _, _, _, g5, _⟩ := g3'
      have h1 := g5 m (by omega)
      have h2 := hcap m hm
      have eb : up2 (up2 M' 341 m (M' 341 m + 1)) 341 m (w32 (up2 M' 341 m (M' 341 m + 1) 341 m - 1)) = M' := by
        rw [up2_same, show M' 341 m + 1 - 1 = M' 341 m by omega, w32i (by omega) (by omega)]
        exact up2_back
      dsimp only
      refine wpo_g (by omega) ?_
      rw [Int.toNat_natCast, eb]
      exact wpo_s ⟨⟨m + 1, by omega, by dsimp only; omega, f3, g3⟩, by dsimp only; omega⟩
  · refine ⟨⟨m + 1, by omega, by dsimp only; omega, p3, giv_congr p4 (fun q hq => ?_)⟩, by dsimp only; omega⟩
    unfold hadT
    constructor
    · rintro (h | ⟨h1, h2⟩)
      · exact Or.inl h
      · refine Or.inr ⟨h1, ?_⟩
        by_cases e : q = m
        · rw [e] at h1; exact absurd h1 hg
        · omega
    · rintro (h | ⟨h1, h2⟩)
      · exact Or.inl h
      · exact Or.inr ⟨h1, by omega⟩
theorem va_cap {N : Nat} {cap cap' : Nat → Int} {ok : Nat → Nat → Prop} {n : Nat} {T : Nat → Bool} {a : Nat → Nat} (h : VA N cap ok n T a) (hc : ∀ m, m < N → cap m = cap' m) : VA N cap' ok n T a := ⟨h.1, fun m hm => by rw [← hc m hm]; exact h.2 m hm⟩
theorem opt_cap {N : Nat} {cap cap' g : Nat → Int} {ok : Nat → Nat → Prop} {n : Nat} {T : Nat → Bool} {a : Nat → Nat} (h : OptA N cap g ok n T a) (hc : ∀ m, m < N → cap m = cap' m) : OptA N cap' g ok n T a := ⟨va_cap h.1 hc, fun b hb => h.2 b (va_cap hb (fun m hm => (hc m hm).symm))⟩
theorem cost_nn {g : Nat → Int} {N n : Nat} {T : Nat → Bool} {a : Nat → Nat} (hg : ∀ m, m < N → 0 ≤ g m) (ha : ∀ i, i < n → T i = true → a i < N) : 0 ≤ cost g T n a := by
  have h := sumN_le (f := fun _ => 0) (g := fun i => if T i = true then g (a i) else 0) (n := n) (fun i hi => by
    by_cases t : T i = true
    · rw [if_pos t]; exact hg _ (ha i hi t)
    · rw [if_neg t]; omega)
  rw [sumN_zero] at h
  exact h
theorem LG_eq {F lv n fr : Nat} (hF : 1000000 ≤ F) {I J : MI} {ρ : RIV} {wt has : Nat → Int} (hρ : RivOK ρ) (hr : RivM I lv ρ) (hl : I 296 18 = (lv : Int)) (h63 : I 296 63 = (n : Int)) (hn : n ≤ 900) (hfr : fr ≤ n) (hwt : ∀ i, i < n → I 339 i = wt i ∧ 1 ≤ wt i ∧ wt i ≤ 10) (hcap : ∀ m : Nat, (m : Int) < aN ρ → I 340 m = has m ∧ 0 ≤ has m ∧ has m ≤ 9) : ∃ (r : Int) (I' : MI), f_M_leastGrief F (fr : Int) I J = some (r, I') ∧ (∀ a, a ≠ 341 → I' a = I a) ∧ ((r = -1 ∧ ∀ b, ¬ VA (aN ρ).toNat has (fun i m => wt i ≤ siz ρ m) n (fT fr) b) ∨ ∃ a, OptA (aN ρ).toNat has (gri ρ) (fun i m => wt i ≤ siz ρ m) n (fT fr) a ∧ r = cost (gri ρ) (fT fr) n a) := by
  have h8 := hρ.2.2.2.1
  have hlv := hr.1
  have hsz : ∀ m, m < (aN ρ).toNat → 1 ≤ siz ρ m ∧ siz ρ m ≤ 9 := fun m hm => (hρ.2.2.2.2.2.2.2.1 m (by omega)).2.1
  have hgr : ∀ m, m < (aN ρ).toNat → 0 ≤ gri ρ m ∧ gri ρ m ≤ 99 := fun m hm => (hρ.2.2.2.2.2.2.2.1 m (by omega)).2.2.2
  unfold f_M_leastGrief
  rw [h63, w32i (x := (n : Int) - (fr : Int)) (by omega) (by omega)]
  rw [fill_loop 341 0 8 (fun _ => 0) (by omega) (fun M => by dsimp only; unfold f_M_leastGrief_L12; rw [if_pos (by omega)]) (fun j hj => by
    dsimp only
    unfold f_M_leastGrief_L12
    rw [if_neg (by omega), if_pos (by omega), w32i (by omega) (by omega)]
    simp)]
  rw [Option.bind_some]
  have z1 : ∀ k, k < 8 → fillR I 341 0 8 (fun _ => 0) 341 k = 0 := fun k hk => fillR_in0 hk
  have z2 : ∀ a, a ≠ 341 → fillR I 341 0 8 (fun _ => 0) a = I a := fun a ha => fillR_r ha
  revert z1 z2
  generalize fillR I 341 0 8 (fun _ => 0) = Z
  intro z1 z2
  have s0 : sumN (Z 341) (aN ρ).toNat = 0 := sumN_none (fun k hk => z1 k (by omega))
  have G0 : GIv (aN ρ).toNat (siz ρ) wt (gri ρ) (I 340) n fr 0 0 (Z 341) ((n : Int) - (fr : Int)) 0 := by
    refine ⟨by rw [s0]; omega, by omega, (sumN_none (fun k hk => by rw [z1 k (by omega), Int.zero_mul])).symm, fun s h1 h2 => ?_, fun q hq => ?_, fun q hq hh => ?_, fun q hq _ => z1 q (by omega)⟩
    · have : Us (siz ρ) (Z 341) (aN ρ).toNat s = 0 := sumN_none (fun k hk => by rw [z1 k (by omega)]; split <;> rfl)
      rw [this]; exact wc_bd.1
    · rw [z1 q (by omega), (hcap q (by omega)).1]
      exact ⟨Int.le_refl _, (hcap q (by omega)).2.1⟩
    · have := hgr q hq
      rcases hh with h | ⟨_, h⟩ <;> omega
  have k1 := wpo_iter (step := fun s : Int × Int × Int × MI => f_M_leastGrief_L36 F (fr : Int) s.1 s.2.1 s.2.2.1 s.2.2.2 J) (Q := fun e => (∀ a, a ≠ 341 → e.2.2 a = I a) ∧ GIv (aN ρ).toNat (siz ρ) wt (gri ρ) (I 340) n fr 100 0 (e.2.2 341) e.1 e.2.1) (fun s => ∃ γ : Nat, γ ≤ 100 ∧ s.2.2.1 = (γ : Int) ∧ (∀ a, a ≠ 341 → s.2.2.2 a = I a) ∧ GIv (aN ρ).toNat (siz ρ) wt (gri ρ) (I 340) n fr γ 0 (s.2.2.2 341) s.1 s.2.1) (fun s => 100 - s.2.2.1.toNat) ?_ (F := F) (s := ((n : Int) - (fr : Int), (0 : Int), (0 : Int), Z)) (by dsimp only; omega) ⟨0, by omega, rfl, z2, G0⟩
  · obtain ⟨⟨l', s', M'⟩, e, q1, q2⟩ := k1
    dsimp only at q1 q2
    rw [e, Option.bind_some]
    dsimp only
    obtain ⟨g1, g2, g3, g4, g5, g6, g7⟩ := q2
    obtain ⟨o1, o2⟩ := greedy_opt (cap := I 340) hsz (fun i hi => (hwt i hi).2) hgr g4 g5 (by omega) (fun m hm => g6 m hm (Or.inl (by have := hgr m hm; omega)))
    by_cases hz : l' = 0
    · rw [if_neg (fun h => h hz)]
      obtain ⟨a, a1, a2⟩ := o1 (by omega)
      exact ⟨s', M', rfl, q1, Or.inr ⟨a, opt_cap a1 (fun m hm => (hcap m (by omega)).1), by rw [g3, a2]⟩⟩
    · rw [if_pos hz]
      exact ⟨-1, M', rfl, q1, Or.inl ⟨rfl, fun b hb => o2 (by omega) b (va_cap hb (fun m hm => (hcap m (by omega)).1.symm))⟩⟩
  rintro ⟨x, y, z, L⟩ ⟨γ, p1, p2, p3, p4⟩
  dsimp only at p2 p3 p4 ⊢
  subst p2
  unfold f_M_leastGrief_L36
  refine wpo_i (fun hc => wpo_s ?_) (fun hc => ?_)
  · have : γ = 100 := by omega
    subst this
    exact ⟨p3, p4⟩
  obtain ⟨l', s', M', e, q1, q2⟩ := turn_row (F := F) (J := J) hF hρ hr hl h63 hn hfr (fun i hi => (hwt i hi).1) (fun m hm => by rw [(hcap m hm).1]; exact (hcap m hm).2) p3 p4
  rw [e, Option.bind_some, w32i (by omega) (by omega)]
  exact wpo_s ⟨⟨γ + 1, by omega, by dsimp only; omega, q1, q2⟩, by dsimp only; omega⟩
