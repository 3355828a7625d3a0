/-! over, overAt -/
/-- how slippery a step is, -1 beside the steps -/
def wSl (ρ : RIV) (s : BSt) (c : Nat) : Int := if isSt ρ s.2 c = true then clA (teA ρ ρ.2.2 c 0 s) 100 else -1
theorem clA_bd {w most : Int} (h : 0 ≤ most) : 0 ≤ clA w most ∧ clA w most ≤ most := by
  unfold clA
  split
  · omega
  · split <;> omega
theorem wSl_bd {ρ : RIV} {s : BSt} {c : Nat} : (0 ≤ wSl ρ s c ↔ isSt ρ s.2 c = true) ∧ wSl ρ s c ≤ 100 := by
  unfold wSl
  have := clA_bd (w := teA ρ ρ.2.2 c 0 s) (most := 100) (by omega)
  by_cases g : isSt ρ s.2 c = true
  · rw [if_pos g]; exact ⟨⟨fun _ => g, fun _ => this.1⟩, this.2⟩
  · rw [if_neg g]; exact ⟨⟨fun h => by omega, fun h => absurd h g⟩, by omega⟩
theorem isSt_in {ρ : RIV} {h : Nat → Int} {c : Nat} (g : isSt ρ h c = true) : inRv ρ c = true ∧ dep ρ c ≤ h c := by
  unfold isSt at g
  simpa using g
theorem weighSl_eq {F rv : Nat} (hF : 1000000 ≤ F) (hrv : rv = 11 ∨ rv = 30) {I : MI} {ρ : RIV} {s : BSt} (hr : RivX I rv ρ) (hq : BedQ I 49 ρ s) (hd : s.1 240 ≤ 900000) : ∃ I', f_B_weighSlippery F 49 rv I = some I' ∧ (∀ c, c < 96 → I' 245 c = wSl ρ s c) ∧ ∀ a, a ≠ 245 → a ≠ rv + 17 → a ≠ rv + 18 → I' a = I a := by
  unfold f_B_weighSlippery
  have key := wpo_iter (step := fun q : Int × MI => f_B_weighSlippery_L2 F 49 rv q.1 q.2) (Q := fun I' => (∀ c, c < 96 → I' 245 c = wSl ρ s c) ∧ ∀ a, a ≠ 245 → a ≠ rv + 17 → a ≠ rv + 18 → I' a = I a) (fun q => ∃ i : Nat, i ≤ 96 ∧ q.1 = (i : Int) ∧ (∀ c, c < i → q.2 245 c = wSl ρ s c) ∧ ∀ a, a ≠ 245 → a ≠ rv + 17 → a ≠ rv + 18 → q.2 a = I a) (fun q => 96 - q.1.toNat) ?_ (F := F) (s := ((0 : Int), I)) (by dsimp only; omega) ⟨0, by omega, rfl, fun c hc => absurd hc (by omega), fun _ _ _ _ => rfl⟩
  · obtain ⟨I', e, q⟩ := key
    exact ⟨I', by rw [e]; rfl, q⟩
  rintro ⟨x, N⟩ ⟨i, h1, h2, h3, h4⟩
  dsimp only at h2 h3 h4 ⊢
  subst h2
  unfold f_B_weighSlippery_L2
  refine wpo_i (fun hc => wpo_s ?_) (fun hc => ?_)
  · have : i = 96 := by omega
    subst this
    exact ⟨h3, h4⟩
  have hi : i < 96 := by omega
  have hrN : RivX N rv ρ := rivx_congr hr (fun a b1 b2 b3 b4 => h4 a (by omega) (by omega) (by omega))
  have hqN : BedQ N 49 ρ s := bedq_congr hq (fun a b1 b2 => h4 a (by omega) (by omega) (by omega))
  have set : ∀ (v : Int) (M : MI), v = wSl ρ s i → (∀ c, c < i → M 245 c = wSl ρ s c) → (∀ a, a ≠ 245 → a ≠ rv + 17 → a ≠ rv + 18 → M a = I a) → wpo (f_B_weighSlippery_b56in2 F 49 rv (i : Int) (i : Int) v M) (fun r => Sum.elim (fun I' : MI => (∀ c, c < 96 → I' 245 c = wSl ρ s c) ∧ ∀ a, a ≠ 245 → a ≠ rv + 17 → a ≠ rv + 18 → I' a = I a) (fun s' : Int × MI => (∃ i : Nat, i ≤ 96 ∧ s'.1 = (i : Int) ∧ (∀ c, c < i → s'.2 245 c = wSl ρ s c) ∧ ∀ a, a ≠ 245 → a ≠ rv + 17 → a ≠ rv + 18 → s'.2 a = I a) ∧ 96 - s'.1.toNat < 96 - ((i : Int)).toNat) r) := by
    intro v M hv hM hM2
    unfold f_B_weighSlippery_b56in2
    refine wpo_g (by omega) (wpo_s ?_)
    rw [w32i (by omega) (by omega), Int.toNat_natCast]
    refine ⟨⟨i + 1, by omega, by dsimp only; omega, fun c hc2 => ?_, fun a b1 b2 b3 => ?_⟩, by dsimp only; omega⟩ <;> dsimp only
    · by_cases e : c = i
      · rw [e, up2_same]; exact hv
      · rw [up2_k e]; exact hM c (by omega)
    · rw [up2_off b1]; exact hM2 a b1 b2 b3
  have none1 : isSt ρ s.2 i ≠ true → (-1 : Int) = wSl ρ s i := fun g => by unfold wSl; rw [if_neg g]
  rw [has_c hrN hi, Option.bind_some]
  by_cases g : inRv ρ i = true
  · rw [if_pos g]
    refine wpo_n (by decide) ?_
    rw [isStep_eq hrN (hqN.2.1.1 i hi) hi, Option.bind_some]
    by_cases g2 : s.2 i < dep ρ i
    · rw [if_pos g2]
      refine wpo_g rfl ?_
      unfold f_B_weighSlippery_b36in2 f_B_weighSlippery_b37in2
      refine wpo_g rfl (set _ N (none1 (fun h => ?_)) h3 h4)
      have := (isSt_in h).2
      omega
    · rw [if_neg g2]
      refine wpo_n (by decide) ?_
      unfold f_B_weighSlippery_b37in2
      refine wpo_n (by decide) ?_
      obtain ⟨M, e, fr⟩ := slip_eq (F := F) hF hrN hqN hd hi
      rw [e, Option.bind_some]
      refine set _ M ?_ (fun c hc2 => ?_) (fun a b1 b2 b3 => ?_)
      · unfold wSl
        rw [if_pos]
        unfold isSt
        simp [g]
        omega
      · rw [fr 245 (by omega) (by omega)]; exact h3 c hc2
      · rw [fr a (by omega) (by omega)]; exact h4 a b1 b2 b3
  · rw [if_neg g]
    refine wpo_g rfl ?_
    unfold f_B_weighSlippery_b36in2 f_B_weighSlippery_b37in2
    refine wpo_g rfl (set _ N (none1 (fun h => g (isSt_in h).1)) h3 h4)
theorem M_prep {F lv : Nat} (hF : 1000000 ≤ F) {x1 : Int} {I J : MI} {ρ : RIV} {s : BSt} (hρ : RivOK ρ) (hr : RivM I lv ρ) (hl : I 296 18 = (lv : Int)) (hs : MSt I s) {fac : Int} (hfac : fac = if x1 = 0 then 1 else 100000) : ∃ I', iter (fun q : Int × MI => f_M_findsOver_L6 F x1 q.1 q.2 J) F (0, I) = some I' ∧ MSt I' s ∧ (∀ c, c < 96 → (I' 335 c ≠ 0 ↔ 0 ≤ wSl ρ s c) ∧ (0 ≤ wSl ρ s c → I' 336 c = wSl ρ s c * fac)) ∧ FrQ I I' := by
  have key := wpo_iter (step := fun q : Int × MI => f_M_findsOver_L6 F x1 q.1 q.2 J) (Q := fun I' => MSt I' s ∧ (∀ c, c < 96 → (I' 335 c ≠ 0 ↔ 0 ≤ wSl ρ s c) ∧ (0 ≤ wSl ρ s c → I' 336 c = wSl ρ s c * fac)) ∧ FrQ I I') (fun q => ∃ i : Nat, i ≤ 96 ∧ q.1 = (i : Int) ∧ MSt q.2 s ∧ (∀ c, c < i → (q.2 335 c ≠ 0 ↔ 0 ≤ wSl ρ s c) ∧ (0 ≤ wSl ρ s c → q.2 336 c = wSl ρ s c * fac)) ∧ FrQ I q.2) (fun q => 96 - q.1.toNat) ?_ (F := F) (s := ((0 : Int), I)) (by dsimp only; omega) ⟨0, by omega, rfl, hs, fun c hc => absurd hc (by omega), frQ_refl⟩
  · exact key
  rintro ⟨x, N⟩ ⟨i, h1, h2, h3, h4, h5⟩
  dsimp only at h2 h3 h4 h5 ⊢
  subst h2
  unfold f_M_findsOver_L6
  refine wpo_i (fun hc => wpo_s ?_) (fun hc => ?_)
  · have : i = 96 := by omega
    subst this
    exact ⟨h3, h4, h5⟩
  have hi : i < 96 := by omega
  have hrN : RivM N lv ρ := rivm_congr hr (fun a b1 b2 => h5.1 a (by unfold scrM; omega) (by omega))
  have hlN : N 296 18 = (lv : Int) := by rw [h5.2 18 (by decide) (by decide)]; exact hl
  have hw := wSl_bd (ρ := ρ) (s := s) (c := i)
  have ew : w32 ((i : Int) + 1) = (i : Int) + 1 := w32i (by omega) (by omega)
  -- the end of a round
  have set : ∀ (m v : Int) (M : MI), (m ≠ 0 ↔ 0 ≤ wSl ρ s i) → (0 ≤ wSl ρ s i → v = wSl ρ s i * fac) → MSt M s → FrQ I M → M 335 i = m → (∀ c, c < i → (M 335 c ≠ 0 ↔ 0 ≤ wSl ρ s c) ∧ (0 ≤ wSl ρ s c → M 336 c = wSl ρ s c * fac)) → wpo (f_M_findsOver_b85in6 F x1 (i : Int) (i : Int) v M J) (fun r => Sum.elim (fun I' : MI => MSt I' s ∧ (∀ c, c < 96 → (I' 335 c ≠ 0 ↔ 0 ≤ wSl ρ s c) ∧ (0 ≤ wSl ρ s c → I' 336 c = wSl ρ s c * fac)) ∧ FrQ I I') (fun s' : Int × MI => (∃ i : Nat, i ≤ 96 ∧ s'.1 = (i : Int) ∧ MSt s'.2 s ∧ (∀ c, c < i → (s'.2 335 c ≠ 0 ↔ 0 ≤ wSl ρ s c) ∧ (0 ≤ wSl ρ s c → s'.2 336 c = wSl ρ s c * fac)) ∧ FrQ I s'.2) ∧ 96 - s'.1.toNat < 96 - ((i : Int)).toNat) r) := by
    intro m v M hm hv hMs hMf hMi hMc
    unfold f_M_findsOver_b85in6
    refine wpo_g (by omega) (wpo_s ?_)
    rw [ew, Int.toNat_natCast]
    refine ⟨⟨i + 1, by omega, by dsimp only; omega, ⟨fun k hk => ?_, fun c hc2 => ?_⟩, fun c hc2 => ?_, ⟨fun a b1 b2 => ?_, fun k b1 b2 => ?_⟩⟩, by dsimp only; omega⟩ <;> dsimp only
    · rw [up2_r (by decide)]; exact hMs.1 k hk
    · rw [up2_r (by decide)]; exact hMs.2 c hc2
    · rw [up2_r (by decide)]
      by_cases e : c = i
      · rw [e, up2_same, hMi]; exact ⟨hm, hv⟩
      · rw [up2_k e]; exact hMc c (by omega)
    · rw [up2_off (by unfold scrM at b1; omega)]; exact hMf.1 a b1 b2
    · rw [up2_r (by decide)]; exact hMf.2 k b1 b2
  -- what is written into may
  have mid : ∀ m : Int, (m = 0 ∨ m = 1) → (m ≠ 0 ↔ isSt ρ s.2 i = true) → wpo (f_M_findsOver_b45in6 F x1 (i : Int) (i : Int) m N J) (fun r => Sum.elim (fun I' : MI => MSt I' s ∧ (∀ c, c < 96 → (I' 335 c ≠ 0 ↔ 0 ≤ wSl ρ s c) ∧ (0 ≤ wSl ρ s c → I' 336 c = wSl ρ s c * fac)) ∧ FrQ I I') (fun s' : Int × MI => (∃ i : Nat, i ≤ 96 ∧ s'.1 = (i : Int) ∧ MSt s'.2 s ∧ (∀ c, c < i → (s'.2 335 c ≠ 0 ↔ 0 ≤ wSl ρ s c) ∧ (0 ≤ wSl ρ s c → s'.2 336 c = wSl ρ s c * fac)) ∧ FrQ I s'.2) ∧ 96 - s'.1.toNat < 96 - ((i : Int)).toNat) r) := by
    intro m hm hm2
    unfold f_M_findsOver_b45in6
    refine wpo_g (by omega) (wpo_g (by omega) ?_)
    rw [Int.toNat_natCast, up2_same]
    have m1 : ∀ a, a ≠ 335 → up2 N 335 i m a = N a := fun a ha => up2_off ha
    have sM : MSt (up2 N 335 i m) s := ⟨fun k hk => by rw [m1 332 (by decide)]; exact h3.1 k hk, fun c hc2 => by rw [m1 333 (by decide)]; exact h3.2 c hc2⟩
    have fM : FrQ I (up2 N 335 i m) := ⟨fun a b1 b2 => by rw [m1 a (by unfold scrM at b1; omega)]; exact h5.1 a b1 b2, fun k b1 b2 => by rw [m1 296 (by decide)]; exact h5.2 k b1 b2⟩
    have cM : ∀ c, c < i → (up2 N 335 i m 335 c ≠ 0 ↔ 0 ≤ wSl ρ s c) ∧ (0 ≤ wSl ρ s c → up2 N 335 i m 336 c = wSl ρ s c * fac) := fun c hc2 => by rw [up2_k (by omega), m1 336 (by decide)]; exact h4 c hc2
    rcases hm with h0 | h0
    · refine wpo_g h0 (set m 0 _ (hm2.trans hw.1.symm) (fun h => ?_) sM fM up2_same cM)
      exact absurd h0 (hm2.mpr (hw.1.mp h))
    · refine wpo_n (by omega) ?_
      have hst := hm2.mp (by omega)
      obtain ⟨M2, e2, s2, f2, _, _⟩ := M_tells (F := F) (J := J) (k := 1) (c := i) (force := 0) (most := 100) hF (rivm_congr hrN (fun a b1 b2 => m1 a (by omega))) (by rw [m1 296 (by decide)]; exact hlN) sM (Or.inr ⟨rfl, rfl⟩) hi (by omega)
      rw [show ((1 : Nat) : Int) = 1 from rfl] at e2
      rw [e2, Option.bind_some]
      have hws : wSl ρ s i = clA (teA ρ ρ.2.2 i 0 s) 100 := by unfold wSl; rw [if_pos hst]
      have hcb := clA_bd (w := teA ρ ρ.2.2 i 0 s) (most := 100) (by omega)
      have g335 : ∀ a, a ≠ 329 → a ≠ 330 → a ≠ 332 → a ≠ 333 → a ≠ 296 → M2 a = up2 N 335 i m a := f2.1
      have fin2 : ∀ v : Int, v = wSl ρ s i * fac → wpo (f_M_findsOver_b85in6 F x1 (i : Int) (i : Int) v M2 J) _ := fun v hv => set m v M2 (hm2.trans hw.1.symm) (fun _ => hv) s2 (frQ_trans fM (frM_Q f2)) (by rw [g335 335 (by decide) (by decide) (by decide) (by decide) (by decide), up2_same]) (fun c hc2 => by rw [g335 335 (by decide) (by decide) (by decide) (by decide) (by decide), g335 336 (by decide) (by decide) (by decide) (by decide) (by decide)]; exact cM c hc2)
      unfold f_M_findsOver_b80in6
      by_cases hx0 : x1 = 0
      · rw [if_pos hx0] at hfac
        refine wpo_n (fun h => h hx0) (fin2 _ ?_)
        dsimp only
        rw [← hws, hfac, w32i (by omega) (by omega)]
      · rw [if_neg hx0] at hfac
        refine wpo_g hx0 (fin2 _ ?_)
        dsimp only
        rw [← hws, hfac, w32i (by omega) (by omega)]
  rw [M_isCellc hρ hrN hlN hi, Option.bind_some]
  by_cases g : inRv ρ i = true
  · rw [if_pos g]
    refine wpo_n (by decide) ?_
    rw [M_isStep hrN hlN (h3.2 i hi) hi, Option.bind_some]
    by_cases g2 : s.2 i < dep ρ i
    · rw [if_pos g2]
      refine wpo_g rfl ?_
      unfold f_M_findsOver_b44in6
      exact mid 0 (Or.inl rfl) ⟨fun h => absurd rfl h, fun h => by have := (isSt_in h).2; omega⟩
    · rw [if_neg g2]
      refine wpo_n (by decide) (mid 1 (Or.inr rfl) ⟨fun _ => ?_, fun _ => by decide⟩)
      unfold isSt
      simp [g]
      omega
  · rw [if_neg g]
    refine wpo_g rfl ?_
    unfold f_M_findsOver_b44in6
    exact mid 0 (Or.inl rfl) ⟨fun h => absurd rfl h, fun h => absurd (isSt_in h).1 g⟩

theorem over_both0 {j lv rv sp : Nat} {I J : MI} {ρ : RIV} {s : BSt} (hp : isPair rv sp) (hρ : RivOK ρ) (hx : RivX I rv ρ) (hm : RivM I lv ρ) (hl : I 296 18 = (lv : Int)) (hb : BedQ I 49 ρ s) (hn : ∀ k, k < 250 → I 331 k = s.1 k) (hd : s.1 240 ≤ 900000) : ∃ (fnd : Int) (I1 N : MI), f_X_findWayOver FU 0 rv I = some (fnd, I1) ∧ f_M_findsOver FU 0 I1 J = some (fnd, N) ∧ FrX rv I I1 ∧ FrQ I1 N ∧ (fnd = 0 ∨ (fnd = 1 ∧ ∃ (n : Nat) (S : Int) (g : Nat → Nat), n ≤ 96 ∧ 0 ≤ S ∧ S ≤ 9600 ∧ I1 244 2 = (n : Int) ∧ N 296 60 = (n : Int) ∧ (∀ k, k < n → I1 246 k = ((g k : Nat) : Int) ∧ N 338 k = ((g k : Nat) : Int) ∧ g k < 96) ∧ f_Y_sum FU I1 = some S ∧ N 337 96 = 100000 * ((n : Int) + 1) + S)) := by
  have hF := FU_big
  have hp' := hp
  unfold isPair at hp'
  obtain ⟨I0, w1, w2, w3⟩ := weighSl_eq (F := FU) (rv := rv) hF (by omega) hx hb hd
  have hx0 : RivX I0 rv ρ := rivx_congr hx (fun a b1 b2 b3 b4 => w3 a (by omega) (by omega) (by omega))
  have hwr : ∀ c, c < 96 → 0 ≤ wSl ρ s c → inRv ρ c = true := fun c hc h => (isSt_in (wSl_bd.1.mp h)).1
  have hw100 : ∀ c, c < 96 → wSl ρ s c ≤ 100 := fun c hc => wSl_bd.2
  obtain ⟨D, I1, d1, d2, d3, d4⟩ := X_find (F := FU) (rv := rv) (x2 := 1) (pl := 10000) (I := I0) (w := wSl ρ s) (cc := fun c => 1 * wSl ρ s c) hF hρ hx0 (by omega) w2 (fun c hc h => by have := hw100 c hc; exact ⟨rfl, by (first | omega | (dsimp only; omega)), by (first | omega | (dsimp only; omega))⟩) (by omega) hwr
  have ex : f_X_findWayOver FU 0 rv I = some ((if D 96 < 1073741824 then 1 else 0), I1) := by
    unfold f_X_findWayOver
    rw [w1, Option.bind_some]
    rw [if_neg (show ¬ ¬ (0 : Int) = 0 by decide)]
    rw [d2, Option.bind_some]
  have fr1 : FrX rv I I1 := fun a ha => by
    clear d4
    unfold scrX at ha
    rw [d3 a (by omega) (by omega) (by omega) (by omega), w3 a (by omega) (by omega) (by omega)]
  have g32 : ∀ a, 275 ≤ a → I1 a = I a := fun a ha => fr1 a (by clear d4; unfold scrX; omega)
  -- the model
  obtain ⟨N1, c1, c2, c3⟩ := M_copyq (F := FU) (I := I1) (J := J) hF hb.1 (fun k hk => by rw [g32 331 (by omega)]; exact hn k hk)
  have hm1 : RivM N1 lv ρ := rivm_congr hm (fun a b1 b2 => by rw [c3 a (by omega) (by omega), g32 a (by omega)])
  have hl1 : N1 296 18 = (lv : Int) := by rw [c3 296 (by decide) (by decide), g32 296 (by omega)]; exact hl
  obtain ⟨N2, e2, s2, v2, f2⟩ := M_prep (F := FU) (x1 := 0) (J := J) hF hρ hm1 hl1 c2 (fac := 1) (by decide)
  have hm2 : RivM N2 lv ρ := rivm_congr hm1 (fun a b1 b2 => f2.1 a (by unfold scrM; omega) (by omega))
  have hl2 : N2 296 18 = (lv : Int) := by rw [f2.2 18 (by decide) (by decide)]; exact hl1
  have hcst : ∀ k, k < 96 → 0 ≤ wSl ρ s k → N2 336 k = (fun k => 100000 * (0) + (wSl ρ s k)) k := fun k hk h => by rw [(v2 k hk).2 h]; (first | omega | (dsimp only; omega))
  obtain ⟨N3, e3, s3, f3⟩ := M_ways (F := FU) (e := 100000 * 1 + 0) (I := N2) (J := J) (w := wSl ρ s) (c := fun k => 100000 * (0) + (wSl ρ s k)) FU_huge hρ hm2 hl2 (fun k hk => (v2 k hk).1) hcst (by omega) (fun k hk h => by have := hw100 k hk; (first | omega | (dsimp only; omega)))
  have hfin := fin0 (he := 1) (le := 0) (h := fun k => 0) (l := fun k => wSl ρ s k) d1 (by decide) (by decide) (by decide) (fun k hk h => by have := hw100 k hk; (first | omega | (dsimp only; omega))) (by decide) rfl s3
  have f13 : FrQ I1 N3 := frQ_trans (fr32_Q c3) (frQ_trans f2 ⟨fun a b1 b2 => f3 a (by unfold scrM at b1; omega), fun k b1 b2 => by rw [f3 296 (by decide)]⟩)
  have em : f_M_findsOver FU 0 I1 J = if N3 337 96 < 2000000000 then ((f_M_fillsLine FU (100000 * 1 + 0) N3 J).bind fun q32 => some (1, q32)) else some (0, N3) := by
    unfold f_M_findsOver
    rw [c1, Option.bind_some, e2, Option.bind_some]
    rw [if_neg (show ¬ ¬ (0 : Int) = 0 by decide)]
    unfold f_M_findsOver_b104 f_M_findsOver_b134
    have e3' : f_M_fillsWays FU 100000 N2 J = some N3 := e3
    rw [e3', Option.bind_some]
    rw [if_neg (show ¬ ¬ (0 : Int) = 0 by decide)]
    rfl
  by_cases g : D 96 < 1073741824
  · have g2 := hfin.1.mp g
    rw [if_pos g] at ex
    rw [if_pos g2] at em
    obtain ⟨n, n1, n2, n3, n4⟩ := d4 g
    obtain ⟨N4, m, q1, q2, q3, q4, q5, q6, q7⟩ := M_line (F := FU) (e := 100000 * 1 + 0) (I := N3) (J := J) (w := wSl ρ s) (c := fun k => 100000 * (0) + (wSl ρ s k)) hF hρ (rivm_congr hm2 (fun a b1 b2 => f3 a (by omega))) (by rw [f3 296 (by decide)]; exact hl2) (fun k hk => by rw [f3 335 (by decide)]; exact (v2 k hk).1) (fun k hk h => by rw [f3 336 (by decide)]; exact hcst k hk h) (by omega) (fun k hk h => by have := hw100 k hk; (first | omega | (dsimp only; omega))) s3 (fun k hk h h2 => hfin.2 k (Or.inr ⟨hk, h⟩) h2) g2
    rw [q1, Option.bind_some] at em
    obtain ⟨hnm, hit⟩ := both0 (he := 1) (le := 0) (h := fun k => 0) (l := fun k => wSl ρ s k) d1 (by decide) (by decide) (by decide) (fun k hk h => by have := hw100 k hk; (first | omega | (dsimp only; omega))) (by decide) rfl s3 g n2 q3
    subst hnm
    have hok := fun i (hi : i ≤ n) => itn_ok d1 (by decide) (fun k hk h => by (first | omega | (dsimp only; omega))) g i (fun j' hj' => n2.1 j' (by omega))
    generalize hG : itn ρ (wSl ρ s) 10000 (fun c => 1 * wSl ρ s c) D 1073741824 = G at n2 n4 hit hok
    have hgk : ∀ k, k < n → G (k + 1) < 96 ∧ 0 ≤ wSl ρ s (G (k + 1)) := fun k hk => by
      obtain ⟨a1, a2, a3, a4⟩ := hok (k + 1) (by omega)
      have := a4 (by omega)
      rcases a1 with h | h
      · omega
      · exact h
    have hsum := Y_sum (F := FU) (n := n) (I := I1) (w := wSl ρ s) (g := fun k => G (k + 1)) hF (fun c hc => by rw [d3 245 (by decide) (by decide) (by decide) (by decide)]; exact w2 c hc) n1 n3 (fun k hk => ⟨n4 k hk, (hgk k hk).1, (hgk k hk).2, hw100 _ (hgk k hk).1⟩)
    have hS := sumN_bd (f := fun k => wSl ρ s (G (k + 1))) (n := n) (b := 100) (fun k hk => ⟨(hgk k hk).2, hw100 _ (hgk k hk).1⟩)
    have hch := chain_sum s3 (by omega) (fun k hk h => by (first | omega | (dsimp only; omega))) g2 n q3.1
    rw [q3.2] at hch
    have hlin : sumN (fun k => (fun k => 100000 * (0) + (wSl ρ s k)) (itn ρ (wSl ρ s) (100000 * 1 + 0) (fun k => 100000 * (0) + (wSl ρ s k)) (N3 337) 2000000000 (k + 1))) n = 1 * sumN (fun k => wSl ρ s (G (k + 1))) n + sumN (fun _ => 0) n := sumN_lin (fun k hk => by rw [← hit (k + 1) (by omega)]; first | done | omega | (dsimp only; omega))
    have hz0 := sumN_bd (f := fun _ => 0) (n := n) (b := 0) (fun k hk => by omega)
    rw [hlin] at hch
    refine ⟨1, I1, N4, ex, em, fr1, frQ_trans f13 ⟨fun a b1 b2 => q6 a b2 (by unfold scrM at b1; omega), fun k b1 b2 => q7 k (by omega)⟩, Or.inr ⟨rfl, n, sumN (fun k => wSl ρ s (G (k + 1))) n, fun k => G (k + 1), n1, hS.1, by omega, n3, q4, fun k hk => ⟨n4 k hk, ?_, (hgk k hk).1⟩, hsum, ?_⟩⟩
    · rw [q5 k hk, ← hit (k + 1) (by omega)]
    · rw [q6 337 (by decide) (by decide)]
      generalize sumN (fun k => wSl ρ s (G (k + 1))) n = S at hch hS ⊢
      omega
  · rw [if_neg g] at ex
    rw [if_neg (fun h => g (hfin.1.mpr h))] at em
    exact ⟨0, I1, N3, ex, em, fr1, f13, Or.inl rfl⟩

theorem over_both1 {j lv rv sp : Nat} {I J : MI} {ρ : RIV} {s : BSt} (hp : isPair rv sp) (hρ : RivOK ρ) (hx : RivX I rv ρ) (hm : RivM I lv ρ) (hl : I 296 18 = (lv : Int)) (hb : BedQ I 49 ρ s) (hn : ∀ k, k < 250 → I 331 k = s.1 k) (hd : s.1 240 ≤ 900000) : ∃ (fnd : Int) (I1 N : MI), f_X_findWayOver FU 1 rv I = some (fnd, I1) ∧ f_M_findsOver FU 1 I1 J = some (fnd, N) ∧ FrX rv I I1 ∧ FrQ I1 N ∧ (fnd = 0 ∨ (fnd = 1 ∧ ∃ (n : Nat) (S : Int) (g : Nat → Nat), n ≤ 96 ∧ 0 ≤ S ∧ S ≤ 9600 ∧ I1 244 2 = (n : Int) ∧ N 296 60 = (n : Int) ∧ (∀ k, k < n → I1 246 k = ((g k : Nat) : Int) ∧ N 338 k = ((g k : Nat) : Int) ∧ g k < 96) ∧ f_Y_sum FU I1 = some S ∧ N 337 96 = 100000 * S + ((n : Int) + 1))) := by
  have hF := FU_big
  have hp' := hp
  unfold isPair at hp'
  obtain ⟨I0, w1, w2, w3⟩ := weighSl_eq (F := FU) (rv := rv) hF (by omega) hx hb hd
  have hx0 : RivX I0 rv ρ := rivx_congr hx (fun a b1 b2 b3 b4 => w3 a (by omega) (by omega) (by omega))
  have hwr : ∀ c, c < 96 → 0 ≤ wSl ρ s c → inRv ρ c = true := fun c hc h => (isSt_in (wSl_bd.1.mp h)).1
  have hw100 : ∀ c, c < 96 → wSl ρ s c ≤ 100 := fun c hc => wSl_bd.2
  obtain ⟨D, I1, d1, d2, d3, d4⟩ := X_find (F := FU) (rv := rv) (x2 := 1000) (pl := 1) (I := I0) (w := wSl ρ s) (cc := fun c => 1000 * wSl ρ s c) hF hρ hx0 (by omega) w2 (fun c hc h => by have := hw100 c hc; exact ⟨rfl, by (first | omega | (dsimp only; omega)), by (first | omega | (dsimp only; omega))⟩) (by omega) hwr
  have ex : f_X_findWayOver FU 1 rv I = some ((if D 96 < 1073741824 then 1 else 0), I1) := by
    unfold f_X_findWayOver
    rw [w1, Option.bind_some]
    rw [if_pos (show ¬ (1 : Int) = 0 by decide)]
    rw [d2, Option.bind_some]
  have fr1 : FrX rv I I1 := fun a ha => by
    clear d4
    unfold scrX at ha
    rw [d3 a (by omega) (by omega) (by omega) (by omega), w3 a (by omega) (by omega) (by omega)]
  have g32 : ∀ a, 275 ≤ a → I1 a = I a := fun a ha => fr1 a (by clear d4; unfold scrX; omega)
  -- the model
  obtain ⟨N1, c1, c2, c3⟩ := M_copyq (F := FU) (I := I1) (J := J) hF hb.1 (fun k hk => by rw [g32 331 (by omega)]; exact hn k hk)
  have hm1 : RivM N1 lv ρ := rivm_congr hm (fun a b1 b2 => by rw [c3 a (by omega) (by omega), g32 a (by omega)])
  have hl1 : N1 296 18 = (lv : Int) := by rw [c3 296 (by decide) (by decide), g32 296 (by omega)]; exact hl
  obtain ⟨N2, e2, s2, v2, f2⟩ := M_prep (F := FU) (x1 := 1) (J := J) hF hρ hm1 hl1 c2 (fac := 100000) (by decide)
  have hm2 : RivM N2 lv ρ := rivm_congr hm1 (fun a b1 b2 => f2.1 a (by unfold scrM; omega) (by omega))
  have hl2 : N2 296 18 = (lv : Int) := by rw [f2.2 18 (by decide) (by decide)]; exact hl1
  have hcst : ∀ k, k < 96 → 0 ≤ wSl ρ s k → N2 336 k = (fun k => 100000 * (wSl ρ s k) + (0)) k := fun k hk h => by rw [(v2 k hk).2 h]; (first | omega | (dsimp only; omega))
  obtain ⟨N3, e3, s3, f3⟩ := M_ways (F := FU) (e := 100000 * 0 + 1) (I := N2) (J := J) (w := wSl ρ s) (c := fun k => 100000 * (wSl ρ s k) + (0)) FU_huge hρ hm2 hl2 (fun k hk => (v2 k hk).1) hcst (by omega) (fun k hk h => by have := hw100 k hk; (first | omega | (dsimp only; omega)))
  have hfin := fin1 (he := 0) (le := 1) (h := fun k => wSl ρ s k) (l := fun k => 0) d1 (by decide) (by decide) (by decide) (fun k hk h => by have := hw100 k hk; (first | omega | (dsimp only; omega))) (by decide) rfl s3
  have f13 : FrQ I1 N3 := frQ_trans (fr32_Q c3) (frQ_trans f2 ⟨fun a b1 b2 => f3 a (by unfold scrM at b1; omega), fun k b1 b2 => by rw [f3 296 (by decide)]⟩)
  have em : f_M_findsOver FU 1 I1 J = if N3 337 96 < 2000000000 then ((f_M_fillsLine FU (100000 * 0 + 1) N3 J).bind fun q32 => some (1, q32)) else some (0, N3) := by
    unfold f_M_findsOver
    rw [c1, Option.bind_some, e2, Option.bind_some]
    rw [if_pos (show ¬ (1 : Int) = 0 by decide)]
    unfold f_M_findsOver_b104 f_M_findsOver_b134
    have e3' : f_M_fillsWays FU 1 N2 J = some N3 := e3
    rw [e3', Option.bind_some]
    rw [if_pos (show ¬ (1 : Int) = 0 by decide)]
    rfl
  by_cases g : D 96 < 1073741824
  · have g2 := hfin.1.mp g
    rw [if_pos g] at ex
    rw [if_pos g2] at em
    obtain ⟨n, n1, n2, n3, n4⟩ := d4 g
    obtain ⟨N4, m, q1, q2, q3, q4, q5, q6, q7⟩ := M_line (F := FU) (e := 100000 * 0 + 1) (I := N3) (J := J) (w := wSl ρ s) (c := fun k => 100000 * (wSl ρ s k) + (0)) hF hρ (rivm_congr hm2 (fun a b1 b2 => f3 a (by omega))) (by rw [f3 296 (by decide)]; exact hl2) (fun k hk => by rw [f3 335 (by decide)]; exact (v2 k hk).1) (fun k hk h => by rw [f3 336 (by decide)]; exact hcst k hk h) (by omega) (fun k hk h => by have := hw100 k hk; (first | omega | (dsimp only; omega))) s3 (fun k hk h h2 => hfin.2 k (Or.inr ⟨hk, h⟩) h2) g2
    rw [q1, Option.bind_some] at em
    obtain ⟨hnm, hit⟩ := both1 (he := 0) (le := 1) (h := fun k => wSl ρ s k) (l := fun k => 0) d1 (by decide) (by decide) (by decide) (fun k hk h => by have := hw100 k hk; (first | omega | (dsimp only; omega))) (by decide) rfl s3 g n2 q3
    subst hnm
    have hok := fun i (hi : i ≤ n) => itn_ok d1 (by decide) (fun k hk h => by (first | omega | (dsimp only; omega))) g i (fun j' hj' => n2.1 j' (by omega))
    generalize hG : itn ρ (wSl ρ s) 1 (fun c => 1000 * wSl ρ s c) D 1073741824 = G at n2 n4 hit hok
    have hgk : ∀ k, k < n → G (k + 1) < 96 ∧ 0 ≤ wSl ρ s (G (k + 1)) := fun k hk => by
      obtain ⟨a1, a2, a3, a4⟩ := hok (k + 1) (by omega)
      have := a4 (by omega)
      rcases a1 with h | h
      · omega
      · exact h
    have hsum := Y_sum (F := FU) (n := n) (I := I1) (w := wSl ρ s) (g := fun k => G (k + 1)) hF (fun c hc => by rw [d3 245 (by decide) (by decide) (by decide) (by decide)]; exact w2 c hc) n1 n3 (fun k hk => ⟨n4 k hk, (hgk k hk).1, (hgk k hk).2, hw100 _ (hgk k hk).1⟩)
    have hS := sumN_bd (f := fun k => wSl ρ s (G (k + 1))) (n := n) (b := 100) (fun k hk => ⟨(hgk k hk).2, hw100 _ (hgk k hk).1⟩)
    have hch := chain_sum s3 (by omega) (fun k hk h => by (first | omega | (dsimp only; omega))) g2 n q3.1
    rw [q3.2] at hch
    have hlin : sumN (fun k => (fun k => 100000 * (wSl ρ s k) + (0)) (itn ρ (wSl ρ s) (100000 * 0 + 1) (fun k => 100000 * (wSl ρ s k) + (0)) (N3 337) 2000000000 (k + 1))) n = 100000 * sumN (fun k => wSl ρ s (G (k + 1))) n + sumN (fun _ => 0) n := sumN_lin (fun k hk => by rw [← hit (k + 1) (by omega)]; first | done | omega | (dsimp only; omega))
    have hz0 := sumN_bd (f := fun _ => 0) (n := n) (b := 0) (fun k hk => by omega)
    rw [hlin] at hch
    refine ⟨1, I1, N4, ex, em, fr1, frQ_trans f13 ⟨fun a b1 b2 => q6 a b2 (by unfold scrM at b1; omega), fun k b1 b2 => q7 k (by omega)⟩, Or.inr ⟨rfl, n, sumN (fun k => wSl ρ s (G (k + 1))) n, fun k => G (k + 1), n1, hS.1, by omega, n3, q4, fun k hk => ⟨n4 k hk, ?_, (hgk k hk).1⟩, hsum, ?_⟩⟩
    · rw [q5 k hk, ← hit (k + 1) (by omega)]
    · rw [q6 337 (by decide) (by decide)]
      generalize sumN (fun k => wSl ρ s (G (k + 1))) n = S at hch hS ⊢
      omega
  · rw [if_neg g] at ex
    rw [if_neg (fun h => g (hfin.1.mpr h))] at em
    exact ⟨0, I1, N3, ex, em, fr1, f13, Or.inl rfl⟩
theorem ag_over (j : Nat) (hj : j < 512) : ag_10 (InvQ j) (InvQ (j + 1)) := by
  intro I J rv sp x1 x2 hrr hss hI _ _
  have hF := FU_big
  have hI0 := hI
  obtain ⟨ρ, s, lv, hp, hρ, hx, hm, hl, hb, hn, hd, ht, hpl, hpa, hs, htl, hk⟩ := hI
  by_cases hok : (0 ≤ x1 ∧ x1 ≤ 1) ∧ 0 ≤ x2 ∧ x2 ≤ 1
  · have both : ∃ (fnd : Int) (I1 N : MI), f_X_findWayOver FU x1 rv I = some (fnd, I1) ∧ f_M_findsOver FU x1 I1 J = some (fnd, N) ∧ FrX rv I I1 ∧ FrQ I1 N ∧ (fnd = 0 ∨ (fnd = 1 ∧ ∃ (n : Nat) (S : Int) (g : Nat → Nat), n ≤ 96 ∧ 0 ≤ S ∧ S ≤ 9600 ∧ I1 244 2 = (n : Int) ∧ N 296 60 = (n : Int) ∧ (∀ k, k < n → I1 246 k = ((g k : Nat) : Int) ∧ N 338 k = ((g k : Nat) : Int) ∧ g k < 96) ∧ f_Y_sum FU I1 = some S ∧ N 337 96 = if x1 = 0 then 100000 * ((n : Int) + 1) + S else 100000 * S + ((n : Int) + 1))) := by
      have h01 : x1 = 0 ∨ x1 = 1 := by omega
      rcases h01 with h | h
      · subst h
        obtain ⟨f, I1, N, a, b, c, d, e⟩ := over_both0 (j := j) (sp := sp) (J := J) hp hρ hx hm hl hb hn (by omega)
        exact ⟨f, I1, N, a, b, c, d, e⟩
      · subst h
        obtain ⟨f, I1, N, a, b, c, d, e⟩ := over_both1 (j := j) (sp := sp) (J := J) hp hρ hx hm hl hb hn (by omega)
        exact ⟨f, I1, N, a, b, c, d, e⟩
    obtain ⟨fnd, I1, N, e1, e2, fr1, fr2, q⟩ := both
    have ex : f_X_over FU x1 x2 rv I = (if ¬ fnd = 0 then (if ¬ x2 = 0 then ((f_Y_sum FU I1).bind fun q10 => (some (q10, I1))) else ((f_Y_leaps FU I1).bind fun q13 => (some (q13, I1)))) else (some ((-2), I1))) := by
      unfold f_X_over
      rw [if_neg (by omega), if_neg (by omega), if_neg (by omega), if_pos (by omega), e1, Option.bind_some]
    have em : f_M_over FU x1 x2 I1 J = (if ¬ fnd = 0 then (if ¬ x1 = x2 then (some ((rem32 (N 337 96) 100000), N)) else (some ((div32 (N 337 96) 100000), N))) else (some ((-2), N))) := by
      unfold f_M_over
      rw [M_in, if_pos hok.1, Option.bind_some, if_neg (by decide), M_in, if_pos hok.2, Option.bind_some, if_pos (by decide), e2, Option.bind_some]
    rcases q with h0 | ⟨h1, n, S, g, n1, s1, s2, n2, n3, n4, n5, n6⟩
    · rw [h0, if_neg (by decide)] at ex em
      exact ag_mk (fm := fun M => f_M_over FU x1 x2 M J) (V := fun M => InvQ (j + 1) M J rv sp) ex em (invq_keep hI0 fr1 fr2) hrr hss
    · rw [h1, if_pos (by decide)] at ex em
      have hlp : f_Y_leaps FU I1 = some ((n : Int) + 1) := by unfold f_Y_leaps; rw [n2, w32i (by omega) (by omega)]
      rw [n5, hlp, Option.bind_some, Option.bind_some] at ex
      have hval : (if ¬ x1 = x2 then rem32 (N 337 96) 100000 else div32 (N 337 96) 100000) = if ¬ x2 = 0 then S else (n : Int) + 1 := by
        have hb : 0 ≤ N 337 96 ∧ N 337 96 ≤ 1000000000 := by rw [n6]; split <;> omega
        rw [rem32_eq hb.1 (by omega) (by omega) (by omega), div32_eq hb.1 (by omega) (by omega) (by omega), n6]
        have h01 : x1 = 0 ∨ x1 = 1 := by omega
        have h02 : x2 = 0 ∨ x2 = 1 := by omega
        rcases h01 with h | h <;> rcases h02 with h' | h' <;> subst h <;> subst h' <;> simp only [if_true, if_false, reduceIte, not_true_eq_false, not_false_eq_true] <;> first | omega | (rw [if_pos (by decide)]; omega) | skip
        all_goals first | omega | (simp; omega)
      have ex' : f_X_over FU x1 x2 rv I = some ((if ¬ x2 = 0 then S else (n : Int) + 1), I1) := by
        rw [ex]; split <;> rfl
      have em' : f_M_over FU x1 x2 I1 J = some ((if ¬ x2 = 0 then S else (n : Int) + 1), N) := by
        rw [em, ← hval]; split <;> rfl
      exact ag_mk (fm := fun M => f_M_over FU x1 x2 M J) (V := fun M => InvQ (j + 1) M J rv sp) ex' em' (invq_keep hI0 fr1 fr2) hrr hss
  · refine ag_mk (r := -1) (M := I) (N := I) (fm := fun M => f_M_over FU x1 x2 M J) (V := fun M => InvQ (j + 1) M J rv sp) ?_ ?_ (invq_more j I J rv sp hI0) hrr hss
    · unfold f_X_over
      by_cases h1 : x1 < 0
      · rw [if_pos h1]
      rw [if_neg h1]
      by_cases h2 : 1 < x1
      · rw [if_pos h2]
      rw [if_neg h2]
      by_cases h3 : x2 < 0
      · rw [if_pos h3]
      · rw [if_neg h3, if_neg (by omega)]
    · show f_M_over FU x1 x2 I J = _
      unfold f_M_over
      rw [M_in, Option.bind_some]
      by_cases h1 : 0 ≤ x1 ∧ x1 ≤ 1
      · rw [if_pos h1, if_neg (by decide), M_in, if_neg (by omega), Option.bind_some, if_neg (by decide)]
      · rw [if_neg h1, if_pos rfl]
theorem ag_overAt (j : Nat) (hj : j < 512) : ag_11 (InvQ j) (InvQ (j + 1)) := by
  intro I J rv sp x1 x2 hrr hss hI _ _
  have hF := FU_big
  have hI0 := hI
  obtain ⟨ρ, s, lv, hp, hρ, hx, hm, hl, hb, hn, hd, ht, hpl, hpa, hs, htl, hk⟩ := hI
  by_cases hok : (0 ≤ x1 ∧ x1 ≤ 1) ∧ 0 ≤ x2
  · have both : ∃ (fnd : Int) (I1 N : MI), f_X_findWayOver FU x1 rv I = some (fnd, I1) ∧ f_M_findsOver FU x1 I1 J = some (fnd, N) ∧ FrX rv I I1 ∧ FrQ I1 N ∧ (fnd = 0 ∨ (fnd = 1 ∧ ∃ (n : Nat) (g : Nat → Nat), n ≤ 96 ∧ I1 244 2 = (n : Int) ∧ N 296 60 = (n : Int) ∧ (∀ k, k < n → I1 246 k = ((g k : Nat) : Int) ∧ N 338 k = ((g k : Nat) : Int) ∧ g k < 96))) := by
      have h01 : x1 = 0 ∨ x1 = 1 := by omega
      rcases h01 with h | h
      · subst h
        obtain ⟨f, I1, N, a, b, c, d, e⟩ := over_both0 (j := j) (sp := sp) (J := J) hp hρ hx hm hl hb hn (by omega)
        refine ⟨f, I1, N, a, b, c, d, ?_⟩
        rcases e with e | ⟨e, n, S, g, n1, s1, s2, n2, n3, n4, n5, n6⟩
        · exact Or.inl e
        · exact Or.inr ⟨e, n, g, n1, n2, n3, n4⟩
      · subst h
        obtain ⟨f, I1, N, a, b, c, d, e⟩ := over_both1 (j := j) (sp := sp) (J := J) hp hρ hx hm hl hb hn (by omega)
        refine ⟨f, I1, N, a, b, c, d, ?_⟩
        rcases e with e | ⟨e, n, S, g, n1, s1, s2, n2, n3, n4, n5, n6⟩
        · exact Or.inl e
        · exact Or.inr ⟨e, n, g, n1, n2, n3, n4⟩
    obtain ⟨fnd, I1, N, e1, e2, fr1, fr2, q⟩ := both
    have ex : f_X_overAt FU x1 x2 rv I = (if ¬ fnd = 0 then (if (I1 244 2) ≤ x2 then (some ((-1), I1)) else (if 0 ≤ x2 ∧ x2 < 96 then ((f_X_cellName FU (I1 246 (x2).toNat) I1).bind fun q11 => (some (q11, I1))) else none)) else (some ((-2), I1))) := by
      unfold f_X_overAt
      rw [if_neg (by omega), if_neg (by omega), if_pos (by omega), e1, Option.bind_some]
    have em : f_M_overAt FU x1 x2 I1 J = (if ¬ fnd = 0 then (if (N 296 60) ≤ x2 then (some ((-1), N)) else (if 0 ≤ x2 ∧ x2 < 96 then (some ((w32 ((w32 (100 * (div32 (N 338 (x2).toNat) 12))) + (rem32 (N 338 (x2).toNat) 12))), N)) else none)) else (some ((-2), N))) := by
      unfold f_M_overAt
      rw [M_in, if_pos hok.1, Option.bind_some, if_neg (by decide), if_pos hok.2, e2, Option.bind_some]
    rcases q with h0 | ⟨h1, n, g, n1, n2, n3, n4⟩
    · rw [h0, if_neg (by decide)] at ex em
      exact ag_mk (fm := fun M => f_M_overAt FU x1 x2 M J) (V := fun M => InvQ (j + 1) M J rv sp) ex em (invq_keep hI0 fr1 fr2) hrr hss
    · rw [h1, if_pos (by decide)] at ex em
      rw [n2] at ex
      rw [n3] at em
      by_cases hlt : (n : Int) ≤ x2
      · rw [if_pos hlt] at ex em
        exact ag_mk (fm := fun M => f_M_overAt FU x1 x2 M J) (V := fun M => InvQ (j + 1) M J rv sp) ex em (invq_keep hI0 fr1 fr2) hrr hss
      · obtain ⟨g1, g2, g3⟩ := n4 x2.toNat (by omega)
        rw [if_neg hlt, if_pos (by omega), g1, cname_eq g3, Option.bind_some] at ex
        rw [if_neg hlt, if_pos (by omega), g2, div32_eq (by omega) (by omega) (by omega) (by omega), rem32_eq (by omega) (by omega) (by omega) (by omega), w32i (x := 100 * (((g x2.toNat : Nat) : Int) / 12)) (by omega) (by omega), w32i (by omega) (by omega)] at em
        have ev : 100 * (((g x2.toNat : Nat) : Int) / 12) + ((g x2.toNat : Nat) : Int) % 12 = ((100 * (g x2.toNat / 12) + g x2.toNat % 12 : Nat) : Int) := by omega
        rw [ev] at em
        exact ag_mk (fm := fun M => f_M_overAt FU x1 x2 M J) (V := fun M => InvQ (j + 1) M J rv sp) ex em (invq_keep hI0 fr1 fr2) hrr hss
  · refine ag_mk (r := -1) (M := I) (N := I) (fm := fun M => f_M_overAt FU x1 x2 M J) (V := fun M => InvQ (j + 1) M J rv sp) ?_ ?_ (invq_more j I J rv sp hI0) hrr hss
    · unfold f_X_overAt
      by_cases h1 : x1 < 0
      · rw [if_pos h1]
      rw [if_neg h1]
      by_cases h2 : 1 < x1
      · rw [if_pos h2]
      rw [if_neg h2, if_neg (by omega)]
    · show f_M_overAt FU x1 x2 I J = _
      unfold f_M_overAt
      rw [M_in, Option.bind_some]
      by_cases h1 : 0 ≤ x1 ∧ x1 ≤ 1
      · rw [if_pos h1, if_neg (by decide), if_neg (by omega)]
      · rw [if_neg h1, if_pos rfl]
