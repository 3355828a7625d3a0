/-! givers: what the model wants -/
def LszP (ρ : RIV) (c : Nat) (w : Int) : Prop := 1 ≤ w ∧ w ≤ 10 ∧ ∀ z : Nat, 1 ≤ z → z ≤ 9 → (w ≤ (z : Int) ↔ flo ρ (c / 12) / (z : Int) ≤ ((c % 12 : Nat) : Int))
theorem div_anti {f : Int} (hf : 0 ≤ f) {a b : Nat} (h : a ≤ b) (ha : 0 < a) : f / (b : Int) ≤ f / (a : Int) := by
  obtain ⟨k, rfl⟩ : ∃ k : Nat, f = (k : Int) := ⟨f.toNat, by omega⟩
  have e1 : (k : Int) / (b : Int) = ((k / b : Nat) : Int) := rfl
  have e2 : (k : Int) / (a : Int) = ((k / a : Nat) : Int) := rfl
  rw [e1, e2]
  have := Nat.div_le_div_left (a := k) h ha
  omega
theorem lsz_eq {F lv c : Nat} (hF : 1000000 ≤ F) {I J : MI} {ρ : RIV} (hρ : RivOK ρ) (hr : RivM I lv ρ) (hl : I 296 18 = (lv : Int)) (hc : c < 96) : ∃ w : Int, f_M_leastSize F (c : Int) I J = some w ∧ LszP ρ c w := by
  have hlv := hr.1
  have hf := hρ.2.2.2.2.2.2.1 (c / 12) (by omega)
  unfold f_M_leastSize
  have e1 : div32 (c : Int) 12 = ((c / 12 : Nat) : Int) := by rw [div32_eq (by omega) (by omega) (by omega) (by omega)]; omega
  have e2 : rem32 (c : Int) 12 = ((c % 12 : Nat) : Int) := by rw [rem32_eq (by omega) (by omega) (by omega) (by omega)]; omega
  have k1 := wpo_iter (step := fun s : Int => f_M_leastSize_L2 F (c : Int) s I J) (Q := fun e => ∃ w : Int, (e = .inl w ∨ (e = .inr () ∧ w = 10)) ∧ LszP ρ c w) (fun x => ∃ s : Nat, 1 ≤ s ∧ s ≤ 10 ∧ x = (s : Int) ∧ ∀ z : Nat, 1 ≤ z → z < s → ((c % 12 : Nat) : Int) < flo ρ (c / 12) / (z : Int)) (fun x => 10 - x.toNat) ?_ (F := F) (s := (1 : Int)) (by omega) ⟨1, by omega, by omega, rfl, fun z h1 h2 => absurd h2 (by omega)⟩
  · obtain ⟨e, e3, w, q1, q2⟩ := k1
    rw [e3, Option.bind_some]
    rcases q1 with q1 | ⟨q1, q3⟩
    · rw [q1]; exact ⟨w, rfl, q2⟩
    · rw [q1, ← q3]; exact ⟨w, rfl, q2⟩
  rintro x ⟨s, s1, s2, s3, s4⟩
  subst s3
  unfold f_M_leastSize_L2
  rw [hl, e1, e2, ix8 hlv (by omega)]
  refine wpo_i (fun hc2 => wpo_s ?_) (fun hc2 => wpo_g (by clear s4; omega) (wpo_g (by clear s4; omega) ?_))
  · have : s = 10 := by clear s4; omega
    subst this
    refine ⟨10, Or.inr ⟨rfl, rfl⟩, by decide, by decide, fun z h1 h2 => ⟨fun h => by clear s4; omega, fun h => ?_⟩⟩
    have := s4 z h1 (by clear s4; omega)
    clear s4
    omega
  · rw [Int.toNat_natCast, hr.2.2.2.2.2.2.2.1 _ (by clear s4; omega), div32_eq (by clear s4; omega) (by clear s4; omega) (by clear s4; omega) (by clear s4; omega)]
    refine wpo_i (fun hc3 => wpo_s ?_) (fun hc3 => wpo_s ?_)
    · rw [w32i (by clear s4; omega) (by clear s4; omega)]
      refine ⟨⟨s + 1, by clear s4; omega, by clear s4; omega, by clear s4; omega, fun z h1 h2 => ?_⟩, by clear s4; omega⟩
      by_cases e : z = s
      · rw [e]; exact hc3
      · exact s4 z h1 (by clear s4; omega)
    · refine ⟨(s : Int), Or.inl rfl, by clear s4; omega, by clear s4; omega, fun z h1 h2 => ⟨fun h => ?_, fun h => ?_⟩⟩
      · have := div_anti hf.1 (a := s) (b := z) (by clear s4; omega) (by clear s4; omega)
        clear s4
        omega
      · by_cases e : s ≤ z
        · clear s4; omega
        · have := s4 z h1 (by clear s4; omega)
          clear s4
          omega
/-- what the model changes when it looks for givers -/
def FrG (I I' : MI) : Prop := (∀ a, a ≠ 296 → a ≠ 339 → a ≠ 340 → a ≠ 341 → a ≠ 343 → I' a = I a) ∧ ∀ k, k ≠ 63 → k ≠ 68 → I' 296 k = I 296 k
theorem frG_trans {I I' I2 : MI} (h : FrG I I') (h' : FrG I' I2) : FrG I I2 := ⟨fun a b1 b2 b3 b4 b5 => (h'.1 a b1 b2 b3 b4 b5).trans (h.1 a b1 b2 b3 b4 b5), fun k b1 b2 => (h'.2 k b1 b2).trans (h.2 k b1 b2)⟩
theorem rivm_frG {I I' : MI} {lv : Nat} {ρ : RIV} (h : RivM I lv ρ) (hf : FrG I I') : RivM I' lv ρ := rivm_congr h (fun a b1 b2 => hf.1 a (by omega) (by omega) (by omega) (by omega) (by omega))
theorem wants_line {F lv n : Nat} (hF : 1000000 ≤ F) {I J : MI} {ρ : RIV} {s : BSt} {g : Nat → Nat} (hρ : RivOK ρ) (hr : RivM I lv ρ) (hl : I 296 18 = (lv : Int)) (hv : VOK ρ s) (hm : MSt I s) (h60 : I 296 60 = (n : Int)) (hn : n ≤ 96) (h38 : ∀ k, k < n → I 338 k = ((g k : Nat) : Int)) (hg : ∀ k, k < n → g k < 96 ∧ 0 ≤ wLk ρ s (g k)) (h900 : PN (fW ρ s g) n ≤ 864) : ∃ I', iter (fun q : Int × MI => f_M_fillsWants_L11 F q.1 q.2 J) F (0, up2 I 296 63 0) = some I' ∧ I' 296 63 = ((PN (fW ρ s g) n : Nat) : Int) ∧ (∀ k j : Nat, k < n → j < fW ρ s g k → LszP ρ (g k) (I' 339 (PN (fW ρ s g) k + j))) ∧ (∀ a, a ≠ 296 → a ≠ 339 → I' a = I a) ∧ ∀ k, k ≠ 63 → I' 296 k = I 296 k := by
  have k1 := wpo_iter (step := fun q : Int × MI => f_M_fillsWants_L11 F q.1 q.2 J) (Q := fun I' => I' 296 63 = ((PN (fW ρ s g) n : Nat) : Int) ∧ (∀ k j : Nat, k < n → j < fW ρ s g k → LszP ρ (g k) (I' 339 (PN (fW ρ s g) k + j))) ∧ (∀ a, a ≠ 296 → a ≠ 339 → I' a = I a) ∧ ∀ k, k ≠ 63 → I' 296 k = I 296 k) (fun q => ∃ i : Nat, i ≤ n ∧ q.1 = (i : Int) ∧ q.2 296 63 = ((PN (fW ρ s g) i : Nat) : Int) ∧ (∀ k j : Nat, k < i → j < fW ρ s g k → LszP ρ (g k) (q.2 339 (PN (fW ρ s g) k + j))) ∧ (∀ a, a ≠ 296 → a ≠ 339 → q.2 a = I a) ∧ ∀ k, k ≠ 63 → q.2 296 k = I 296 k) (fun q => n - q.1.toNat) ?_ (F := F) (s := ((0 : Int), up2 I 296 63 0)) (by dsimp only; omega) ⟨0, by omega, rfl, by dsimp only; rw [up2_same]; rfl, fun k j hk => absurd hk (by omega), fun a b1 _ => up2_off b1, fun k hk => up2_k hk⟩
  · obtain ⟨I', e, q⟩ := k1
    exact ⟨I', e, q⟩
  rintro ⟨x, M⟩ ⟨i, p1, p2, p3, p4, p5, p6⟩
  dsimp only at p2 p3 p4 p5 p6 ⊢
  subst p2
  unfold f_M_fillsWants_L11
  rw [p6 60 (by decide), h60]
  refine wpo_i (fun hc => wpo_s ?_) (fun hc => wpo_g (by clear p4; omega) ?_)
  · have : i = n := by clear p4; omega
    subst this
    exact ⟨p3, p4, p5, p6⟩
  have hi : i < n := by clear p4; omega
  obtain ⟨g1, g2⟩ := hg i hi
  have h72 := vok_72 hv g1
  have hdep := hρ.2.2.2.2.2.1 (g i) g1
  have hin : inRv ρ (g i) = true := (wLk_bd hρ hv g1).1.mp g2
  have hfw : fW ρ s g i = (max 0 (dep ρ (g i) - s.2 (g i))).toNat := by
    unfold fW wLk
    rw [if_pos hin]
  rw [Int.toNat_natCast, p5 338 (by decide) (by decide), h38 i hi, Int.toNat_natCast, p5 333 (by decide) (by decide), hm.2 _ g1]
  refine wpo_g (by clear p4; omega) ?_
  have hle : PN (fW ρ s g) (i + 1) ≤ 864 := Nat.le_trans (PN_mono (by clear p4; omega)) h900
  have hs : PN (fW ρ s g) (i + 1) = PN (fW ρ s g) i + fW ρ s g i := rfl
  have k2 := wpo_iter (step := fun q : Int × MI => f_M_fillsWants_L31 F (i : Int) q.1 q.2 J) (Q := fun I' => I' 296 63 = ((PN (fW ρ s g) (i + 1) : Nat) : Int) ∧ (∀ k j : Nat, k < i + 1 → j < fW ρ s g k → LszP ρ (g k) (I' 339 (PN (fW ρ s g) k + j))) ∧ (∀ a, a ≠ 296 → a ≠ 339 → I' a = I a) ∧ ∀ k, k ≠ 63 → I' 296 k = I 296 k) (fun q => ∃ j : Nat, j ≤ fW ρ s g i ∧ q.1 = s.2 (g i) + (j : Int) ∧ q.2 296 63 = ((PN (fW ρ s g) i + j : Nat) : Int) ∧ (∀ k j : Nat, k < i → j < fW ρ s g k → LszP ρ (g k) (q.2 339 (PN (fW ρ s g) k + j))) ∧ (∀ j' : Nat, j' < j → LszP ρ (g i) (q.2 339 (PN (fW ρ s g) i + j'))) ∧ (∀ a, a ≠ 296 → a ≠ 339 → q.2 a = I a) ∧ ∀ k, k ≠ 63 → q.2 296 k = I 296 k) (fun q => (dep ρ (g i) - q.1).toNat) ?_ (F := F) (s := (s.2 (g i), M)) (by dsimp only; clear p4; omega) ⟨0, by clear p4; omega, by dsimp only; clear p4; omega, p3, p4, fun j' hj' => absurd hj' (by clear p4; omega), p5, p6⟩
  · obtain ⟨I', e, q1, q2, q3, q4⟩ := k2
    rw [e, Option.bind_some, w32i (by clear p4 q2; omega) (by clear p4 q2; omega)]
    exact wpo_s ⟨⟨i + 1, by clear p4 q2; omega, by dsimp only; clear p4 q2; omega, q1, q2, q3, q4⟩, by dsimp only; clear p4 q2; omega⟩
  · rintro ⟨y, L⟩ ⟨j, r1, r2, r3, r4, r5, r6, r7⟩
    dsimp only at r2 r3 r4 r5 r6 r7 ⊢
    have hrL : RivM L lv ρ := rivm_congr hr (fun a b1 b2 => r6 a (by clear p4 r4 r5; omega) (by clear p4 r4 r5; omega))
    have hlL : L 296 18 = (lv : Int) := by rw [r7 18 (by decide)]; exact hl
    unfold f_M_fillsWants_L31
    rw [Int.toNat_natCast, r6 338 (by decide) (by decide), h38 i hi, M_deep hrL hlL g1, Option.bind_some]
    refine wpo_g (by clear p4 r4 r5; omega) (wpo_i (fun hc2 => wpo_s ?_) (fun hc2 => ?_))
    · have : j = fW ρ s g i := by clear p4 r4 r5; omega
      subst this
      refine ⟨r3, fun k j' hk hj' => ?_, r6, r7⟩
      by_cases e : k = i
      · subst e; exact r5 j' hj'
      · exact r4 k j' (by clear p4 r4 r5; omega) hj'
    · obtain ⟨w, w1, w2⟩ := lsz_eq (F := F) (J := J) hF hρ hrL hlL g1
      have hj : j < fW ρ s g i := by clear p4 r4 r5; omega
      rw [w1, Option.bind_some, r3]
      refine wpo_g (by clear p4 r4 r5; omega) (wpo_s ?_)
      rw [Int.toNat_natCast, up2_r (show (296 : Nat) ≠ 339 by decide), r3, w32i (by clear p4 r4 r5; omega) (by clear p4 r4 r5; omega), w32i (by clear p4 r4 r5; omega) (by clear p4 r4 r5; omega)]
      refine ⟨⟨j + 1, by clear p4 r4 r5; omega, by dsimp only; clear p4 r4 r5; omega, by dsimp only; rw [up2_same]; clear p4 r4 r5; omega, fun k j' hk hj' => ?_, fun j' hj' => ?_, fun a b1 b2 => by dsimp only; rw [up2_off b1, up2_off b2]; exact r6 a b1 b2, fun k hk => by dsimp only; rw [up2_k hk, up2_r (by decide)]; exact r7 k hk⟩, by dsimp only; clear p4 r4 r5; omega⟩
      · dsimp only
        have h1 : PN (fW ρ s g) (k + 1) = PN (fW ρ s g) k + fW ρ s g k := rfl
        have h3 := PN_mono (f := fW ρ s g) (k := k + 1) (n := i) (by clear p4 r4 r5; omega)
        rw [up2_r (by decide), up2_k (by clear p4 r4 r5; omega)]
        exact r4 k j' hk hj'
      · dsimp only
        rw [up2_r (by decide)]
        by_cases e : j' = j
        · rw [e, up2_same]; exact w2
        · rw [up2_k (by clear p4 r4 r5; omega)]; exact r5 j' (by clear p4 r4 r5; omega)
theorem wants_has {F lv : Nat} (hF : 1000000 ≤ F) {I J : MI} {ρ : RIV} {s : BSt} (hρ : RivOK ρ) (hr : RivM I lv ρ) (hl : I 296 18 = (lv : Int)) (hv : VOK ρ s) (hm : MSt I s) : ∃ I', iter (fun q : Int × MI => f_M_fillsWants_L88 F q.1 q.2 J) F (0, I) = some I' ∧ (∀ m : Nat, (m : Int) < aN ρ → I' 340 m = capA ρ s m) ∧ ∀ a, a ≠ 340 → I' a = I a := by
  have h8 := hρ.2.2.2.1
  have hlv := hr.1
  have k1 := wpo_iter (step := fun q : Int × MI => f_M_fillsWants_L88 F q.1 q.2 J) (Q := fun I' => (∀ m : Nat, (m : Int) < aN ρ → I' 340 m = capA ρ s m) ∧ ∀ a, a ≠ 340 → I' a = I a) (fun q => ∃ i : Nat, i ≤ 8 ∧ q.1 = (i : Int) ∧ (∀ m : Nat, m < i → (m : Int) < aN ρ → q.2 340 m = capA ρ s m) ∧ ∀ a, a ≠ 340 → q.2 a = I a) (fun q => 8 - q.1.toNat) ?_ (F := F) (s := ((0 : Int), I)) (by dsimp only; omega) ⟨0, by omega, rfl, fun m hm => absurd hm (by omega), fun _ _ => rfl⟩
  · obtain ⟨I', e, q⟩ := k1
    exact ⟨I', e, q⟩
  rintro ⟨x, M⟩ ⟨i, p1, p2, p3, p4⟩
  dsimp only at p2 p3 p4 ⊢
  subst p2
  have hrM : RivM M lv ρ := rivm_congr hr (fun a b1 b2 => p4 a (by omega))
  have hlM : M 296 18 = (lv : Int) := by rw [p4 296 (by decide)]; exact hl
  have hmM : MSt M s := ⟨fun k hk => by rw [p4 332 (by decide)]; exact hm.1 k hk, fun c hc => by rw [p4 333 (by decide)]; exact hm.2 c hc⟩
  have set : ∀ v : Int, ((i : Int) < aN ρ → v = capA ρ s i) → i < 8 → wpo (f_M_fillsWants_b129in88 F (i : Int) (i : Int) v M J) (fun r => Sum.elim (fun I' : MI => (∀ m : Nat, (m : Int) < aN ρ → I' 340 m = capA ρ s m) ∧ ∀ a, a ≠ 340 → I' a = I a) (fun q : Int × MI => (∃ i : Nat, i ≤ 8 ∧ q.1 = (i : Int) ∧ (∀ m : Nat, m < i → (m : Int) < aN ρ → q.2 340 m = capA ρ s m) ∧ ∀ a, a ≠ 340 → q.2 a = I a) ∧ 8 - q.1.toNat < 8 - ((i : Int)).toNat) r) := by
    intro v hv2 hi
    unfold f_M_fillsWants_b129in88
    refine wpo_g (by omega) (wpo_s ?_)
    rw [Int.toNat_natCast, w32i (by omega) (by omega)]
    refine ⟨⟨i + 1, by omega, by dsimp only; omega, fun m h1 h2 => ?_, fun a ha => by dsimp only; rw [up2_off ha]; exact p4 a ha⟩, by dsimp only; omega⟩
    dsimp only
    by_cases e : m = i
    · rw [e, up2_same]; rw [e] at h2; exact hv2 h2
    · rw [up2_k e]; exact p3 m (by omega) h2
  unfold f_M_fillsWants_L88
  refine wpo_i (fun hc => wpo_s ⟨fun m hm => p3 m (by omega) hm, p4⟩) (fun hc => ?_)
  have hi : i < 8 := by omega
  rw [hlM, Int.toNat_natCast, hrM.2.2.2.2.1]
  refine wpo_g (by omega) (wpo_i (fun hc2 => ?_) (fun hc2 => ?_))
  · unfold f_M_fillsWants_b128in88
    exact set 0 (fun h => absurd h (by omega)) hi
  · have him : (i : Int) < aN ρ := by omega
    rw [M_may hF hρ hrM hlM hv hmM him, Option.bind_some]
    refine wpo_i (fun hc3 => ?_) (fun hc3 => ?_)
    · unfold f_M_fillsWants_b128in88
      exact set 0 (fun _ => by unfold capA; rw [if_pos hc3]) hi
    · rw [M_left hF hρ hrM hlM hv hmM him, Option.bind_some]
      exact set _ (fun _ => by unfold capA; rw [if_neg hc3]) hi
