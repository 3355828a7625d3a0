/-! givers: the class settles -/
def capA (ρ : RIV) (s : BSt) (m : Nat) : Int := if mayA ρ s m = 0 then 0 else man ρ m - thA s m
def drA (ρ : RIV) (m y : Nat) : Int := flo ρ y / siz ρ m
theorem capA_bd {ρ : RIV} {s : BSt} (hρ : RivOK ρ) (hv : VOK ρ s) {m : Nat} (hm : (m : Int) < aN ρ) : 0 ≤ capA ρ s m ∧ capA ρ s m ≤ 9 := by
  have h1 := thA_man hρ hv hm
  have h2 := thA_nn (s := s) (m := m)
  have h3 := (hρ.2.2.2.2.2.2.2.1 m hm).2.2.1
  unfold capA
  split <;> omega
def PN (f : Nat → Nat) : Nat → Nat
  | 0 => 0
  | k + 1 => PN f k + f k
theorem PN_s {f : Nat → Nat} {k : Nat} : PN f (k + 1) = PN f k + f k := rfl
theorem PN_mono {f : Nat → Nat} {k n : Nat} (h : k ≤ n) : PN f k ≤ PN f n := by
  induction n with
  | zero =>
    have : k = 0 := by omega
    rw [this]; exact Nat.le_refl _
  | succ n ih =>
    by_cases e : k = n + 1
    · rw [e]; exact Nat.le_refl _
    · have := ih (by omega)
      rw [PN_s]; omega
theorem PN_sum {w : Nat → Int} : ∀ {n : Nat}, (∀ k, k < n → 0 ≤ w k) → sumN w n = ((PN (fun k => (w k).toNat) n : Nat) : Int)
  | 0, _ => rfl
  | n + 1, h => by
    have h1 := PN_sum (n := n) (fun k hk => h k (by omega))
    have h2 := h n (by omega)
    show sumN w n + w n = ((PN (fun k => (w k).toNat) n + (w n).toNat : Nat) : Int)
    omega
theorem PN_seg {f : Nat → Nat} {i : Nat} : ∀ {n : Nat}, i < PN f n → ∃ k j, k < n ∧ j < f k ∧ i = PN f k + j
  | 0, h => absurd h (by simp [PN])
  | n + 1, h => by
    by_cases e : i < PN f n
    · obtain ⟨k, j, h1, h2, h3⟩ := PN_seg e
      exact ⟨k, j, by omega, h2, h3⟩
    · rw [PN_s] at h
      exact ⟨n, i - PN f n, by omega, by omega, by omega⟩
theorem listNeeds_eq {F n : Nat} (hF : 1000000 ≤ F) {I : MI} {w : Nat → Int} {g : Nat → Nat} (h2 : I 244 2 = (n : Int)) (hn : n ≤ 96) (h46 : ∀ k, k < n → I 246 k = ((g k : Nat) : Int)) (h45 : ∀ c, c < 96 → I 245 c = w c) (hg : ∀ k, k < n → g k < 96 ∧ 0 ≤ w (g k)) (h72 : PN (fun k => (w (g k)).toNat) n ≤ 72) : ∃ I', f_V_listNeeds F I = some I' ∧ I' 255 5 = ((PN (fun k => (w (g k)).toNat) n : Nat) : Int) ∧ (∀ k j : Nat, k < n → j < (w (g k)).toNat → I' 266 (PN (fun k => (w (g k)).toNat) k + j) = ((g k : Nat) : Int)) ∧ (∀ a, a ≠ 255 → a ≠ 266 → a ≠ 267 → I' a = I a) ∧ ∀ k, k ≠ 5 → I' 255 k = I 255 k := by
  unfold f_V_listNeeds
  have k1 := wpo_iter (step := fun s : Int × MI => f_V_listNeeds_L7 F s.1 s.2) (Q := fun I' => I' 255 5 = ((PN (fun k => (w (g k)).toNat) n : Nat) : Int) ∧ (∀ k j : Nat, k < n → j < (w (g k)).toNat → I' 266 (PN (fun k => (w (g k)).toNat) k + j) = ((g k : Nat) : Int)) ∧ (∀ a, a ≠ 255 → a ≠ 266 → a ≠ 267 → I' a = I a) ∧ ∀ k, k ≠ 5 → I' 255 k = I 255 k) (fun s => ∃ i : Nat, i ≤ n ∧ s.1 = (i : Int) ∧ s.2 255 5 = ((PN (fun k => (w (g k)).toNat) i : Nat) : Int) ∧ (∀ k j : Nat, k < i → j < (w (g k)).toNat → s.2 266 (PN (fun k => (w (g k)).toNat) k + j) = ((g k : Nat) : Int)) ∧ (∀ a, a ≠ 255 → a ≠ 266 → a ≠ 267 → s.2 a = I a) ∧ ∀ k, k ≠ 5 → s.2 255 k = I 255 k) (fun s => n - s.1.toNat) ?_ (F := F) (s := ((0 : Int), up2 I 255 5 0)) (by dsimp only; omega) ⟨0, by omega, rfl, by dsimp only; rw [up2_same]; rfl, fun k j hk => absurd hk (by omega), fun a b1 _ _ => up2_off b1, fun k hk => up2_k hk⟩
  · obtain ⟨I', e, q⟩ := k1
    rw [e, Option.bind_some]
    exact ⟨I', rfl, q⟩
  rintro ⟨x, M⟩ ⟨i, p1, p2, p3, p4, p5, p6⟩
  dsimp only at p2 p3 p4 p5 p6 ⊢
  subst p2
  unfold f_V_listNeeds_L7
  rw [p5 244 (by decide) (by decide) (by decide), h2]
  refine wpo_i (fun hc => wpo_s ?_) (fun hc => wpo_g (by omega) ?_)
  · have : i = n := by omega
    subst this
    exact ⟨p3, p4, p5, p6⟩
  have hi : i < n := by omega
  obtain ⟨g1, g2⟩ := hg i hi
  rw [Int.toNat_natCast, p5 246 (by decide) (by decide) (by decide), h46 i hi]
  have hle : PN (fun k => (w (g k)).toNat) (i + 1) ≤ 72 := Nat.le_trans (PN_mono (by omega)) h72
  have k2 := wpo_iter (step := fun s : Int × MI => f_V_listNeeds_L25 F (i : Int) ((g i : Nat) : Int) s.1 s.2) (Q := fun I' => I' 255 5 = ((PN (fun k => (w (g k)).toNat) (i + 1) : Nat) : Int) ∧ (∀ k j : Nat, k < i + 1 → j < (w (g k)).toNat → I' 266 (PN (fun k => (w (g k)).toNat) k + j) = ((g k : Nat) : Int)) ∧ (∀ a, a ≠ 255 → a ≠ 266 → a ≠ 267 → I' a = I a) ∧ ∀ k, k ≠ 5 → I' 255 k = I 255 k) (fun s => ∃ j : Nat, j ≤ (w (g i)).toNat ∧ s.1 = (j : Int) ∧ s.2 255 5 = ((PN (fun k => (w (g k)).toNat) i + j : Nat) : Int) ∧ (∀ k j : Nat, k < i → j < (w (g k)).toNat → s.2 266 (PN (fun k => (w (g k)).toNat) k + j) = ((g k : Nat) : Int)) ∧ (∀ j', j' < j → s.2 266 (PN (fun k => (w (g k)).toNat) i + j') = ((g i : Nat) : Int)) ∧ (∀ a, a ≠ 255 → a ≠ 266 → a ≠ 267 → s.2 a = I a) ∧ ∀ k, k ≠ 5 → s.2 255 k = I 255 k) (fun s => (w (g i)).toNat - s.1.toNat) ?_ (F := F) (s := ((0 : Int), M)) ?_ ⟨0, by omega, rfl, p3, p4, fun j' hj' => absurd hj' (by omega), p5, p6⟩
  · obtain ⟨I', e, q1, q2, q3, q4⟩ := k2
    rw [e, Option.bind_some, w32i (by omega) (by omega)]
    exact wpo_s ⟨⟨i + 1, by omega, by dsimp only; omega, q1, q2, q3, q4⟩, by dsimp only; omega⟩
  · rintro ⟨y, L⟩ ⟨j, r1, r2, r3, r4, r5, r6, r7⟩
    dsimp only at r2 r3 r4 r5 r6 r7 ⊢
    subst r2
    have hs : PN (fun k => (w (g k)).toNat) (i + 1) = PN (fun k => (w (g k)).toNat) i + (w (g i)).toNat := rfl
    unfold f_V_listNeeds_L25
    rw [Int.toNat_natCast, r6 245 (by decide) (by decide) (by decide), h45 _ g1, r3]
    refine wpo_g (by omega) (wpo_i (fun hc2 => wpo_s ?_) (fun hc2 => wpo_n (by omega) (wpo_g (by omega) ?_)))
    · have : j = (w (g i)).toNat := by omega
      subst this
      refine ⟨r3, fun k j' hk hj' => ?_, r6, r7⟩
      by_cases e : k = i
      · subst e; exact r5 j' hj'
      · exact r4 k j' (by omega) hj'
    · rw [Int.toNat_natCast, up2_r (show (255 : Nat) ≠ 266 by decide), r3]
      refine wpo_g (by omega) (wpo_s ?_)
      rw [Int.toNat_natCast, up2_r (show (255 : Nat) ≠ 267 by decide), up2_r (show (255 : Nat) ≠ 266 by decide), r3, w32i (by omega) (by omega), w32i (by omega) (by omega)]
      refine ⟨⟨j + 1, by omega, by dsimp only; omega, by dsimp only; rw [up2_same]; omega, fun k j' hk hj' => ?_, fun j' hj' => ?_, fun a b1 b2 b3 => by dsimp only; rw [up2_off b1, up2_off b3, up2_off b2]; exact r6 a b1 b2 b3, fun k hk => by dsimp only; rw [up2_k hk, up2_r (by decide), up2_r (by decide)]; exact r7 k hk⟩, by dsimp only; omega⟩
      · dsimp only
        have h1 : PN (fun k => (w (g k)).toNat) (k + 1) = PN (fun k => (w (g k)).toNat) k + (w (g k)).toNat := rfl
        have h3 := PN_mono (f := fun k => (w (g k)).toNat) (k := k + 1) (n := i) (by omega)
        rw [up2_r (by decide), up2_r (by decide), up2_k (by omega)]
        exact r4 k j' hk hj'
      · dsimp only
        rw [up2_r (by decide), up2_r (by decide)]
        by_cases e : j' = j
        · rw [e, up2_same]
        · rw [up2_k (by omega)]; exact r5 j' (by omega)
  · dsimp only
    have hs : PN (fun k => (w (g k)).toNat) (i + 1) = PN (fun k => (w (g k)).toNat) i + (w (g i)).toNat := rfl
    omega
theorem va_mono {N : Nat} {cap : Nat → Int} {ok : Nat → Nat → Prop} {n : Nat} {T T' : Nat → Bool} {a : Nat → Nat} (h : VA N cap ok n T' a) (ht : ∀ i, i < n → T i = true → T' i = true) : VA N cap ok n T a := by
  refine ⟨fun i hi hT => h.1 i hi (ht i hi hT), fun m hm => ?_⟩
  have h1 : cT T n a m ≤ cT T' n a m := sumN_le (fun i hi => by
    by_cases e : T i = true ∧ a i = m
    · rw [if_pos e, if_pos ⟨ht i hi e.1, e.2⟩]; omega
    · rw [if_neg e]; split <;> omega)
  have := h.2 m hm
  omega
theorem cT_none {n : Nat} {a : Nat → Nat} {m : Nat} : cT (uT 0) n a m = 0 := sumN_none (fun i _ => by simp [uT])
theorem cost_none {g : Nat → Int} {n : Nat} {a : Nat → Nat} : cost g (uT 0) n a = 0 := sumN_none (fun i _ => by simp [uT])
/-- behind what is known of leavers and stones -/
theorem settle_end {F N n : Nat} (hF : 1000000 ≤ F) {I : MI} {cap gr : Nat → Int} {dr : Nat → Nat → Int} {cs : Nat → Nat} (hv : VX I N n cap gr dr cs) (h69 : ∀ m, m < N → I 269 m = 0 ∧ 0 ≤ cap m) : ∃ e, iter (fun s : Int × MI => f_V_settle_L129 F s.1 s.2) F (0, I) = some e ∧ ((∃ I', e = .inl I' ∧ FrV I I' ∧ ∀ b, ¬ VA N cap (okX dr cs) n (uT n) b) ∨ (∃ M I', e = .inr M ∧ iter (fun s : Int × MI => f_V_settle_L158 F s.1 s.2) F (0, M) = some I' ∧ FrV I I' ∧ ∃ a, GQ I' N n n a ∧ OptA N cap gr (okX dr cs) n (uT n) a ∧ LexA N cap gr (okX dr cs) n n a)) := by
  have hn := hv.2.1
  have k1 := wpo_iter (step := fun s : Int × MI => f_V_settle_L129 F s.1 s.2) (Q := fun e => ∃ I', FrV I I' ∧ ((e = .inl I' ∧ ∀ b, ¬ VA N cap (okX dr cs) n (uT n) b) ∨ (e = .inr I' ∧ ∃ a, GQ I' N n n a ∧ OptA N cap gr (okX dr cs) n (uT n) a))) (fun s => ∃ k : Nat, k ≤ n ∧ s.1 = (k : Int) ∧ FrV I s.2 ∧ ∃ a, GQ s.2 N n k a ∧ OptA N cap gr (okX dr cs) n (uT k) a) (fun s => n - s.1.toNat) ?_ (F := F) (s := ((0 : Int), I)) (by dsimp only; omega) ⟨0, by omega, rfl, fun _ _ _ => rfl, fun _ => 0, ⟨fun s hs => absurd hs (by omega), fun m hm => by rw [cT_none]; exact (h69 m hm).1⟩, ⟨fun i _ ht => by simp [uT] at ht, fun m hm => by rw [cT_none]; exact (h69 m hm).2⟩, fun b _ => by rw [cost_none, cost_none]; exact Int.le_refl _⟩
  · obtain ⟨e, e1, I1, f1, q⟩ := k1
    refine ⟨e, e1, ?_⟩
    rcases q with ⟨q1, q2⟩ | ⟨q1, a, q2, q3⟩
    · exact Or.inl ⟨I1, q1, f1, q2⟩
    · have hv1 := vx_fr hv f1
      have k2 := wpo_iter (step := fun s : Int × MI => f_V_settle_L158 F s.1 s.2) (Q := fun I' => FrV I I' ∧ ∃ a, GQ I' N n n a ∧ OptA N cap gr (okX dr cs) n (uT n) a ∧ LexA N cap gr (okX dr cs) n n a) (fun s => ∃ k : Nat, k ≤ n ∧ s.1 = (k : Int) ∧ FrV I s.2 ∧ ∃ a, GQ s.2 N n n a ∧ OptA N cap gr (okX dr cs) n (uT n) a ∧ LexA N cap gr (okX dr cs) n k a) (fun s => n - s.1.toNat) ?_ (F := F) (s := ((0 : Int), I1)) (by dsimp only; omega) ⟨0, by omega, rfl, f1, a, q2, q3, fun b _ i hi => absurd hi (by omega)⟩
      · obtain ⟨I2, e2, f2, q⟩ := k2
        exact Or.inr ⟨I1, I2, q1, e2, f2, q⟩
      · rintro ⟨x, M⟩ ⟨k, p1, p2, p3, a, p4, p5, p6⟩
        dsimp only at p2 p3 p4 ⊢
        subst p2
        have hvM := vx_fr hv p3
        unfold f_V_settle_L158
        rw [hvM.2.2.2.1]
        refine wpo_i (fun hc => wpo_s ?_) (fun hc => ?_)
        · have : k = n := by omega
          subst this
          exact ⟨p3, a, p4, p5, p6⟩
        · obtain ⟨I', a', s1, s2, s3, s4, s5, s6⟩ := byFirst_eq (F := F) (k := k) hF hvM (by omega) p4 p5
          rw [s1, Option.bind_some, w32i (by omega) (by omega)]
          refine wpo_s ⟨⟨k + 1, by omega, by dsimp only; omega, frV_trans p3 s2, a', s3, s4, fun b hb i hi hpre => ?_⟩, by dsimp only; omega⟩
          by_cases e : i = k
          · rw [e] at hpre ⊢; exact s6 b hb hpre
          · rw [s5 i (by omega)]
            exact p6 b hb i (by omega) (fun j hj => (hpre j hj).trans (s5 j (by omega)))
  · rintro ⟨x, M⟩ ⟨k, p1, p2, p3, a, p4, p5⟩
    dsimp only at p2 p3 p4 ⊢
    subst p2
    have hvM := vx_fr hv p3
    unfold f_V_settle_L129
    rw [hvM.2.2.2.1]
    refine wpo_i (fun hc => wpo_s ?_) (fun hc => ?_)
    · have : k = n := by omega
      subst this
      exact ⟨M, p3, Or.inr ⟨rfl, a, p4, p5⟩⟩
    · obtain ⟨r, I', s1, s2, s3⟩ := give_eq (F := F) hF hvM (by omega) p4 p5
      rw [s1, Option.bind_some, w32i (by omega) (by omega)]
      rcases s3 with ⟨s4, s5⟩ | ⟨s4, a', s5, s6⟩
      · rw [s4]
        exact wpo_n (fun h => h rfl) (wpo_s ⟨I', frV_trans p3 s2, Or.inl ⟨rfl, fun b hb => s5 b (va_mono hb (fun i hi _ => uT_n hi))⟩⟩)
      · rw [s4]
        exact wpo_g (by simp) (wpo_s ⟨⟨k + 1, by omega, by dsimp only; omega, frV_trans p3 s2, a', s5, s6⟩, by dsimp only; omega⟩)
/-- what is known of the leavers -/
theorem settle_leavers {F rv : Nat} (hF : 1000000 ≤ F) (hrv : rv = 11 ∨ rv = 30) {I : MI} {ρ : RIV} {s : BSt} (hρ : RivOK ρ) (hr : RivX I rv ρ) (hb : BedQ I 49 ρ s) : ∃ I', iter (fun q : Int × MI => f_V_settle_L22 F rv 49 q.1 q.2) F (0, up2 I 255 0 (I rv 5)) = some I' ∧ I' 255 0 = aN ρ ∧ (∀ m : Nat, (m : Int) < aN ρ → I' 256 m = gri ρ m ∧ I' 268 m = capA ρ s m ∧ I' 269 m = 0 ∧ ∀ y, y < 8 → I' (258 + m) y = drA ρ m y) ∧ ∀ a, a < 255 ∨ 269 < a → I' a = I a := by
  have h8 := hρ.2.2.2.1
  have k1 := wpo_iter (step := fun q : Int × MI => f_V_settle_L22 F rv 49 q.1 q.2) (Q := fun I' => I' 255 0 = aN ρ ∧ (∀ m : Nat, (m : Int) < aN ρ → I' 256 m = gri ρ m ∧ I' 268 m = capA ρ s m ∧ I' 269 m = 0 ∧ ∀ y, y < 8 → I' (258 + m) y = drA ρ m y) ∧ ∀ a, a < 255 ∨ 269 < a → I' a = I a) (fun q => ∃ k : Nat, (k : Int) ≤ aN ρ ∧ q.1 = (k : Int) ∧ q.2 255 0 = aN ρ ∧ (∀ m : Nat, m < k → q.2 256 m = gri ρ m ∧ q.2 268 m = capA ρ s m ∧ q.2 269 m = 0 ∧ ∀ y, y < 8 → q.2 (258 + m) y = drA ρ m y) ∧ ∀ a, a < 255 ∨ 269 < a → q.2 a = I a) (fun q => (aN ρ).toNat - q.1.toNat) ?_ (F := F) (s := ((0 : Int), up2 I 255 0 (I rv 5))) (by dsimp only; omega) ⟨0, by omega, rfl, by dsimp only; rw [up2_same]; exact hr.2.2.2.1, fun m hm => absurd hm (by omega), fun a ha => up2_off (by omega)⟩
  · obtain ⟨I', e, q⟩ := k1
    exact ⟨I', e, q⟩
  rintro ⟨x, M⟩ ⟨k, p1, p2, p3, p4, p5⟩
  dsimp only at p2 p3 p4 p5 ⊢
  subst p2
  have hrM : RivX M rv ρ := rivx_congr hr (fun a b1 b2 b3 b4 => p5 a (by omega))
  have hth : M (49 + 5) k = thA s k ∨ aN ρ ≤ (k : Int) := by
    by_cases h : aN ρ ≤ (k : Int)
    · exact Or.inr h
    · refine Or.inl ?_
      rw [p5 54 (by omega)]
      exact hb.2.1.2.2.2.2.2.2.1 k (by omega)
  have h490 : M 49 0 = s.1 240 := by rw [p5 49 (by omega)]; exact hb.2.2
  unfold f_V_settle_L22
  rw [p3]
  refine wpo_i (fun hc => wpo_s ?_) (fun hc => ?_)
  · exact ⟨p3, fun m hm => p4 m (by omega), p5⟩
  have hk : (k : Int) < aN ρ := by omega
  have hth' : M (49 + 5) k = thA s k := by
    rcases hth with h | h
    · exact h
    · omega
  have set : wpo (f_V_settle_b58in22 F rv 49 (k : Int) (k : Int) (capA ρ s k) M) (fun r => Sum.elim (fun I' : MI => I' 255 0 = aN ρ ∧ (∀ m : Nat, (m : Int) < aN ρ → I' 256 m = gri ρ m ∧ I' 268 m = capA ρ s m ∧ I' 269 m = 0 ∧ ∀ y, y < 8 → I' (258 + m) y = drA ρ m y) ∧ ∀ a, a < 255 ∨ 269 < a → I' a = I a) (fun q : Int × MI => (∃ k : Nat, (k : Int) ≤ aN ρ ∧ q.1 = (k : Int) ∧ q.2 255 0 = aN ρ ∧ (∀ m : Nat, m < k → q.2 256 m = gri ρ m ∧ q.2 268 m = capA ρ s m ∧ q.2 269 m = 0 ∧ ∀ y, y < 8 → q.2 (258 + m) y = drA ρ m y) ∧ ∀ a, a < 255 ∨ 269 < a → q.2 a = I a) ∧ (aN ρ).toNat - q.1.toNat < (aN ρ).toNat - ((k : Int)).toNat) r) := by
    unfold f_V_settle_b58in22
    refine wpo_g (by omega) (wpo_g (by omega) ?_)
    rw [Int.toNat_natCast]
    have g0 : up2 (up2 M 268 k (capA ρ s k)) 269 k 0 (rv + 6) k = gri ρ k := by
      rw [up2_r (by omega), up2_r (by omega)]; exact (hrM.2.2.2.2.2.2.2.1 k hk).2.2.2
    rw [g0]
    have m56 : ∀ m, up2 (up2 (up2 M 268 k (capA ρ s k)) 269 k 0) 256 k (gri ρ k) 256 m = if m = k then gri ρ k else M 256 m := fun m => by
      by_cases e : m = k
      · rw [e, up2_same, if_pos rfl]
      · rw [up2_k e, if_neg e, up2_r (by decide), up2_r (by decide)]
    have m68 : ∀ m, up2 (up2 (up2 M 268 k (capA ρ s k)) 269 k 0) 256 k (gri ρ k) 268 m = if m = k then capA ρ s k else M 268 m := fun m => by
      rw [up2_r (by decide), up2_r (by decide)]
      by_cases e : m = k
      · rw [e, up2_same, if_pos rfl]
      · rw [up2_k e, if_neg e]
    have m69 : ∀ m, up2 (up2 (up2 M 268 k (capA ρ s k)) 269 k 0) 256 k (gri ρ k) 269 m = if m = k then 0 else M 269 m := fun m => by
      rw [up2_r (by decide)]
      by_cases e : m = k
      · rw [e, up2_same, if_pos rfl]
      · rw [up2_k e, if_neg e, up2_r (by decide)]
    have mo : ∀ a, a ≠ 256 → a ≠ 268 → a ≠ 269 → up2 (up2 (up2 M 268 k (capA ρ s k)) 269 k 0) 256 k (gri ρ k) a = M a := fun a b1 b2 b3 => by rw [up2_off b1, up2_off b3, up2_off b2]
    revert m56 m68 m69 mo
    generalize up2 (up2 (up2 M 268 k (capA ρ s k)) 269 k 0) 256 k (gri ρ k) = L
    intro m56 m68 m69 mo
    have k2 := wpo_iter (step := fun q : Int × MI => f_V_settle_L84 F rv 49 (k : Int) q.1 q.2) (Q := fun I' => (∀ y, y < 8 → I' (258 + k) y = drA ρ k y) ∧ ∀ a, a ≠ 258 + k → I' a = L a) (fun q => ∃ y : Nat, y ≤ 8 ∧ q.1 = (y : Int) ∧ (∀ y', y' < y → q.2 (258 + k) y' = drA ρ k y') ∧ ∀ a, a ≠ 258 + k → q.2 a = L a) (fun q => 8 - q.1.toNat) ?_ (F := F) (s := ((0 : Int), L)) (by dsimp only; omega) ⟨0, by omega, rfl, fun y' hy' => absurd hy' (by omega), fun _ _ => rfl⟩
    · obtain ⟨I', e, q1, q2⟩ := k2
      rw [e, Option.bind_some, w32i (by omega) (by omega)]
      refine wpo_s ⟨⟨k + 1, by omega, by dsimp only; omega, ?_, fun m hm => ?_, fun a ha => ?_⟩, by dsimp only; omega⟩
      · dsimp only
        rw [q2 255 (by omega), mo 255 (by decide) (by decide) (by decide)]; exact p3
      · dsimp only
        rw [q2 256 (by omega), q2 268 (by omega), q2 269 (by omega), m56, m68, m69]
        by_cases e : m = k
        · rw [if_pos e, if_pos e, if_pos e, e]
          exact ⟨rfl, rfl, rfl, q1⟩
        · rw [if_neg e, if_neg e, if_neg e]
          obtain ⟨c1, c2, c3, c4⟩ := p4 m (by omega)
          exact ⟨c1, c2, c3, fun y hy => by rw [q2 _ (by omega), mo _ (by omega) (by omega) (by omega)]; exact c4 y hy⟩
      · dsimp only
        rw [q2 a (by omega), mo a (by omega) (by omega) (by omega)]; exact p5 a ha
    · rintro ⟨z, K⟩ ⟨y, s1, s2, s3, s4⟩
      dsimp only at s2 s3 s4 ⊢
      subst s2
      unfold f_V_settle_L84
      refine wpo_i (fun hc2 => wpo_s ?_) (fun hc2 => wpo_g (by omega) ?_)
      · have : y = 8 := by omega
        subst this
        exact ⟨s3, s4⟩
      rw [drift_eq hρ (rivx_congr hrM (fun a b1 b2 b3 b4 => by rw [s4 a (by omega), mo a (by omega) (by omega) (by omega)])) hk (by omega), Option.bind_some, w32i (by omega) (by omega), Int.toNat_natCast, Int.toNat_natCast]
      refine wpo_g (by omega) (wpo_s ⟨⟨y + 1, by omega, by dsimp only; omega, fun y' hy' => ?_, fun a ha => by dsimp only; rw [up2_off ha]; exact s4 a ha⟩, by dsimp only; omega⟩)
      dsimp only
      by_cases e : y' = y
      · rw [e, up2_same]; rfl
      · rw [up2_k e]; exact s3 y' (by omega)
  rw [may_eq hρ hrM hb.1 hth' h490 hk, Option.bind_some]
  have ec : capA ρ s k = if mayA ρ s k = 0 then 0 else man ρ k - thA s k := rfl
  by_cases g : mayA ρ s k = 0
  · rw [if_pos g]
    rw [if_pos g] at ec
    rw [ec] at set
    exact set
  · rw [if_neg g, left_eq hρ hrM hb.1 hth' hk, Option.bind_some]
    rw [if_neg g] at ec
    rw [ec] at set
    exact set
