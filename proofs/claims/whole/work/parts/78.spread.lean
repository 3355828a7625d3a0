/-! givers: the class's searches -/
def SQ (N : Nat) (H : Nat → Prop) (A : Nat → Nat → Nat → Prop) (tf tk q : Nat → Int) (tail : Nat) : Prop := ∃ rk : Nat → Nat, cnt (fun m => decide (tf m ≠ -3)) N = (tail : Int) ∧ (∀ i, i < tail → ∃ m : Nat, m < N ∧ q i = (m : Int) ∧ tf m ≠ -3) ∧ ∀ m, m < N → tf m ≠ -3 → rk m < tail ∧ q (rk m) = (m : Int) ∧ ((tf m = -2 ∧ H m) ∨ ∃ p s : Nat, p < N ∧ tf m = ((p : Nat) : Int) ∧ tk m = ((s : Nat) : Int) ∧ tf p ≠ -3 ∧ rk p < rk m ∧ A p s m)
theorem sq_le {N : Nat} {H : Nat → Prop} {A : Nat → Nat → Nat → Prop} {tf tk q : Nat → Int} {tail : Nat} (h : SQ N H A tf tk q tail) : tail ≤ N := by
  obtain ⟨_, h2, _⟩ := h
  have := cnt_nn (fun m => decide (tf m ≠ -3)) N
  omega
theorem sq_push {N : Nat} {H : Nat → Prop} {A : Nat → Nat → Nat → Prop} {tf tk q tf' tk' q' : Nat → Int} {tail m : Nat} {v : Int} (h : SQ N H A tf tk q tail) (hm : m < N) (h0 : tf m = -3) (h1 : ∀ z, tf' z = if z = m then v else tf z) (h2 : ∀ z, z ≠ m → tk' z = tk z) (h3 : ∀ i, q' i = if i = tail then (m : Int) else q i) (hp : (v = -2 ∧ H m) ∨ ∃ p s : Nat, p < N ∧ v = (p : Int) ∧ tk' m = (s : Int) ∧ tf p ≠ -3 ∧ A p s m) : tail < N ∧ SQ N H A tf' tk' q' (tail + 1) := by
  obtain ⟨rk, a1, a2, a3⟩ := h
  have hv : v ≠ -3 := by
    rcases hp with ⟨e, _⟩ | ⟨p, s, _, e, _⟩ <;> omega
  have ht : tail < N := by
    have := cnt_lt (p := fun z => decide (tf z ≠ -3)) (q := fun _ => true) (n := N) (k := m) (fun _ _ _ => rfl) hm (by simp [h0]) rfl
    have := cnt_nn (fun _ => true) N
    omega
  have fnd : ∀ z, tf z ≠ -3 → tf' z = tf z := fun z hz => by rw [h1, if_neg (fun e => hz (by rw [e]; exact h0))]
  refine ⟨ht, fun z => if z = m then tail else rk z, ?_, fun i hi => ?_, fun z hz hf => ?_⟩
  · have := cnt_add (p := fun z => decide (tf z ≠ -3)) (q := fun z => decide (tf' z ≠ -3)) hm (by simp [h0]) (by rw [h1, if_pos rfl]; simp [hv]) (fun z _ hne => by rw [h1, if_neg hne])
    rw [this, a1]; omega
  · by_cases e : i = tail
    · exact ⟨m, hm, by rw [h3, if_pos e], by rw [h1, if_pos rfl]; exact hv⟩
    · obtain ⟨z, z1, z2, z3⟩ := a2 i (by omega)
      exact ⟨z, z1, by rw [h3, if_neg e]; exact z2, by rw [fnd z z3]; exact z3⟩
  · by_cases e : z = m
    · subst e
      dsimp only
      rw [if_pos rfl, h3, if_pos rfl, h1, if_pos rfl]
      refine ⟨by omega, rfl, ?_⟩
      rcases hp with p | ⟨p, s, x1, x2, x3, x4, x5⟩
      · exact Or.inl p
      · refine Or.inr ⟨p, s, x1, x2, x3, by rw [fnd p x4]; exact x4, ?_, x5⟩
        rw [if_neg (fun e => x4 (by rw [e]; exact h0))]
        exact (a3 p x1 x4).1
    · rw [h1, if_neg e] at hf
      obtain ⟨b1, b2, b3⟩ := a3 z hz hf
      dsimp only
      rw [if_neg e, h3, if_neg (by omega), h1, if_neg e, h2 z e]
      refine ⟨by omega, b2, ?_⟩
      rcases b3 with p | ⟨p, s, x1, x2, x3, x4, x5, x6⟩
      · exact Or.inl p
      · refine Or.inr ⟨p, s, x1, x2, x3, by rw [fnd p x4]; exact x4, ?_, x6⟩
        rw [if_neg (fun e => x4 (by rw [e]; exact h0))]
        exact x5
abbrev SM (N : Nat) (H : Nat → Prop) (A : Nat → Nat → Nat → Prop) (c1 c2 : Nat) (I : MI) (tail : Nat) : Prop := SQ N H A (I c1) (I c2) (I 274) tail
def SG (c1 c2 t t' : Nat) (I I' : MI) : Prop := t ≤ t' ∧ (∀ z, I c1 z ≠ -3 → I' c1 z ≠ -3) ∧ (∀ i, i < t → I' 274 i = I 274 i) ∧ ∀ a, a ≠ c1 → a ≠ c2 → a ≠ 274 → I' a = I a
theorem sg_refl {c1 c2 t : Nat} {I : MI} : SG c1 c2 t t I I := ⟨Nat.le_refl _, fun _ h => h, fun _ _ => rfl, fun _ _ _ _ => rfl⟩
theorem sg_trans {c1 c2 t1 t2 t3 : Nat} {I1 I2 I3 : MI} (h : SG c1 c2 t1 t2 I1 I2) (h' : SG c1 c2 t2 t3 I2 I3) : SG c1 c2 t1 t3 I1 I3 :=
  ⟨Nat.le_trans h.1 h'.1, fun z hz => h'.2.1 z (h.2.1 z hz), fun i hi => (h'.2.2.1 i (Nat.lt_of_lt_of_le hi h.1)).trans (h.2.2.1 i hi), fun a b1 b2 b3 => (h'.2.2.2 a b1 b2 b3).trans (h.2.2.2 a b1 b2 b3)⟩
theorem sm_push {c1 c2 N : Nat} (hcc : c1 ≠ c2 ∧ c1 ≠ 274 ∧ c2 ≠ 274) {H : Nat → Prop} {A : Nat → Nat → Nat → Prop} {I : MI} {tail m p s : Nat} (h : SM N H A c1 c2 I tail) (hm : m < N) (h0 : I c1 m = -3) (hp : p < N) (hf : I c1 p ≠ -3) (hA : A p s m) : tail < N ∧ SM N H A c1 c2 (up2 (up2 (up2 I c1 m (p : Int)) c2 m (s : Int)) 274 tail (m : Int)) (tail + 1) ∧ SG c1 c2 tail (tail + 1) I (up2 (up2 (up2 I c1 m (p : Int)) c2 m (s : Int)) 274 tail (m : Int)) ∧ up2 (up2 (up2 I c1 m (p : Int)) c2 m (s : Int)) 274 tail (m : Int) c1 m ≠ -3 := by
  have m1 : ∀ z, up2 (up2 (up2 I c1 m (p : Int)) c2 m (s : Int)) 274 tail (m : Int) c1 z = if z = m then (p : Int) else I c1 z := fun z => by
    rw [up2_r hcc.2.1, up2_r hcc.1]
    by_cases e : z = m
    · rw [e, up2_same, if_pos rfl]
    · rw [up2_k e, if_neg e]
  have m2 : ∀ z, up2 (up2 (up2 I c1 m (p : Int)) c2 m (s : Int)) 274 tail (m : Int) c2 z = if z = m then (s : Int) else I c2 z := fun z => by
    rw [up2_r hcc.2.2]
    by_cases e : z = m
    · rw [e, up2_same, if_pos rfl]
    · rw [up2_k e, if_neg e, up2_r hcc.1.symm]
  have m3 : ∀ i, up2 (up2 (up2 I c1 m (p : Int)) c2 m (s : Int)) 274 tail (m : Int) 274 i = if i = tail then (m : Int) else I 274 i := fun i => by
    by_cases e : i = tail
    · rw [e, up2_same, if_pos rfl]
    · rw [up2_k e, if_neg e, up2_r hcc.2.2.symm, up2_r hcc.2.1.symm]
  have m4 : ∀ a, a ≠ c1 → a ≠ c2 → a ≠ 274 → up2 (up2 (up2 I c1 m (p : Int)) c2 m (s : Int)) 274 tail (m : Int) a = I a := fun a b1 b2 b3 => by rw [up2_off b3, up2_off b2, up2_off b1]
  revert m1 m2 m3 m4
  generalize up2 (up2 (up2 I c1 m (p : Int)) c2 m (s : Int)) 274 tail (m : Int) = M
  intro m1 m2 m3 m4
  obtain ⟨r1, r2⟩ := sq_push (tf' := M c1) (tk' := M c2) (q' := M 274) (v := (p : Int)) h hm h0 m1 (fun z hz => by rw [m2, if_neg hz]) m3 (Or.inr ⟨p, s, hp, rfl, by rw [m2, if_pos rfl], hf, hA⟩)
  exact ⟨r1, r2, ⟨by omega, fun z hz => by
    rw [m1]; split
    · omega
    · exact hz, fun i hi => by rw [m3, if_neg (by omega)], m4⟩, by rw [m1, if_pos rfl]; omega⟩
/-- what the class knows of stones and leavers -/
def VX (I : MI) (N n : Nat) (cap gr : Nat → Int) (dr : Nat → Nat → Int) (cs : Nat → Nat) : Prop := N ≤ 8 ∧ n ≤ 72 ∧ I 255 0 = (N : Int) ∧ I 255 5 = (n : Int) ∧ (∀ m, m < N → I 256 m = gr m ∧ I 268 m = cap m ∧ cap m ≤ 100 ∧ ∀ y, y < 8 → I (258 + m) y = dr m y) ∧ ∀ i, i < n → cs i < 96 ∧ I 266 i = ((cs i : Nat) : Int)
theorem vx_congr {I I' : MI} {N n : Nat} {cap gr : Nat → Int} {dr : Nat → Nat → Int} {cs : Nat → Nat} (h : VX I N n cap gr dr cs) (hf : ∀ a, (255 ≤ a ∧ a ≤ 266) ∨ a = 268 → I' a = I a) : VX I' N n cap gr dr cs := by
  obtain ⟨h1, h2, h3, h4, h5, h6⟩ := h
  refine ⟨h1, h2, by rw [hf 255 (by omega)]; exact h3, by rw [hf 255 (by omega)]; exact h4, fun m hm => ?_, fun i hi => ?_⟩
  · obtain ⟨a, b, c, d⟩ := h5 m hm
    exact ⟨by rw [hf 256 (by omega)]; exact a, by rw [hf 268 (by omega)]; exact b, c, fun y hy => by rw [hf _ (by omega)]; exact d y hy⟩
  · rw [hf 266 (by omega)]; exact h6 i hi
def okX (dr : Nat → Nat → Int) (cs : Nat → Nat) (i m : Nat) : Prop := dr m (cs i / 12) ≤ ((cs i % 12 : Nat) : Int)
theorem canGive_eq {F N n i m : Nat} {I : MI} {cap gr : Nat → Int} {dr : Nat → Nat → Int} {cs : Nat → Nat} (h : VX I N n cap gr dr cs) (hi : i < n) (hm : m < N) : (caG cap (okX dr cs) i m → f_V_canGive F (i : Int) (m : Int) I = some 1) ∧ (¬ caG cap (okX dr cs) i m → f_V_canGive F (i : Int) (m : Int) I = some 0) := by
  obtain ⟨h1, h2, h3, h4, h5, h6⟩ := h
  obtain ⟨a1, a2, a3, a4⟩ := h5 m hm
  obtain ⟨c1, c2⟩ := h6 i hi
  have e1 : div32 ((cs i : Nat) : Int) 12 = ((cs i / 12 : Nat) : Int) := by rw [div32_eq (by omega) (by omega) (by omega) (by omega)]; omega
  have e2 : rem32 ((cs i : Nat) : Int) 12 = ((cs i % 12 : Nat) : Int) := by rw [rem32_eq (by omega) (by omega) (by omega) (by omega)]; omega
  unfold f_V_canGive
  rw [if_pos (by omega), if_pos (by omega), Int.toNat_natCast, Int.toNat_natCast, a2, c2, e1, e2, Int.toNat_natCast, a4 _ (by omega)]
  unfold caG okX
  constructor
  · rintro ⟨g1, g2⟩
    rw [if_neg (by omega), if_pos (by omega), if_neg (by omega)]
  · intro g
    by_cases g1 : cap m ≤ 0
    · rw [if_pos g1]
    · rw [if_neg g1, if_pos (by omega)]
      by_cases g2 : ((cs i % 12 : Nat) : Int) < dr m (cs i / 12)
      · rw [if_pos g2]
      · exact absurd ⟨by omega, by omega⟩ g
/-- arcs from one to another one over a stone; and backwards -/
def aFw (cap : Nat → Int) (ok : Nat → Nat → Prop) (fr to : Nat) (a : Nat → Nat) (p s m : Nat) : Prop := fr ≤ s ∧ s < to ∧ a s = p ∧ caG cap ok s m
def aBw (cap : Nat → Int) (ok : Nat → Nat → Prop) (fr to : Nat) (a : Nat → Nat) (p s m : Nat) : Prop := fr ≤ s ∧ s < to ∧ a s = m ∧ caG cap ok s p
theorem spread_in {F N n fr to tail head s p : Nat} (hF : 1000000 ≤ F) {x2 x3 : Int} {I : MI} {cap gr : Nat → Int} {dr : Nat → Nat → Int} {cs : Nat → Nat} {a : Nat → Nat} {H : Nat → Prop} (hv : VX I N n cap gr dr cs) (hs : fr ≤ s ∧ s < to) (hto : to ≤ n) (hq : SM N H (aFw cap (okX dr cs) fr to a) 270 271 I tail) (hh : head < tail) (hp : p < N) (hqp : I 274 head = (p : Int)) (hfp : I 270 p ≠ -3) (hap : a s = p) : ∃ (I' : MI) (tail' : Nat), iter (fun q : Int × Int × MI => f_V_spread_L52 F x2 x3 q.1 (head : Int) (s : Int) q.2.1 q.2.2) F ((tail : Int), 0, I) = some ((tail' : Int), I') ∧ SM N H (aFw cap (okX dr cs) fr to a) 270 271 I' tail' ∧ SG 270 271 tail tail' I I' ∧ ∀ m, m < N → caG cap (okX dr cs) s m → I' 270 m ≠ -3 := by
  have hN := hv.1
  have k := wpo_iter (step := fun q : Int × Int × MI => f_V_spread_L52 F x2 x3 q.1 (head : Int) (s : Int) q.2.1 q.2.2) (Q := fun e => ∃ tail' : Nat, e.1 = (tail' : Int) ∧ SM N H (aFw cap (okX dr cs) fr to a) 270 271 e.2 tail' ∧ SG 270 271 tail tail' I e.2 ∧ ∀ m, m < N → caG cap (okX dr cs) s m → e.2 270 m ≠ -3) (fun q => ∃ j tail' : Nat, j ≤ N ∧ q.2.1 = (j : Int) ∧ q.1 = (tail' : Int) ∧ SM N H (aFw cap (okX dr cs) fr to a) 270 271 q.2.2 tail' ∧ SG 270 271 tail tail' I q.2.2 ∧ ∀ m, m < j → caG cap (okX dr cs) s m → q.2.2 270 m ≠ -3) (fun q => N - q.2.1.toNat) ?_ (F := F) (s := ((tail : Int), (0 : Int), I)) (by dsimp only; omega) ⟨0, tail, by omega, rfl, rfl, hq, sg_refl, fun m hm => absurd hm (by omega)⟩
  · obtain ⟨⟨t, I'⟩, e, tail', q1, q2, q3, q4⟩ := k
    dsimp only at q1 q2 q3 q4
    rw [q1] at e
    exact ⟨I', tail', e, q2, q3, q4⟩
  rintro ⟨t, x, M⟩ ⟨j, tail', p1, p2, p3, p4, p5, p6⟩
  dsimp only at p2 p3 p4 p5 p6 ⊢
  subst p2
  subst p3
  have hvM : VX M N n cap gr dr cs := vx_congr hv (fun b hb => p5.2.2.2 b (by omega) (by omega) (by omega))
  have ew : w32 ((j : Int) + 1) = (j : Int) + 1 := w32i (by omega) (by omega)
  unfold f_V_spread_L52
  rw [hvM.2.2.1]
  refine wpo_i (fun hc => wpo_s ?_) (fun hc => wpo_g (by omega) ?_)
  · have : j = N := by omega
    subst this
    exact ⟨tail', rfl, p4, p5, p6⟩
  have hj : j < N := by omega
  rw [Int.toNat_natCast, ew]
  have keep : (caG cap (okX dr cs) s j → M 270 j ≠ -3) → ((∃ j' tail'' : Nat, j' ≤ N ∧ (j : Int) + 1 = (j' : Int) ∧ (tail' : Int) = (tail'' : Int) ∧ SM N H (aFw cap (okX dr cs) fr to a) 270 271 M tail'' ∧ SG 270 271 tail tail'' I M ∧ ∀ m, m < j' → caG cap (okX dr cs) s m → M 270 m ≠ -3) ∧ N - ((j : Int) + 1).toNat < N - ((j : Int)).toNat) := by
    intro hk
    refine ⟨⟨j + 1, tail', by omega, by omega, rfl, p4, p5, fun m hm hca => ?_⟩, by omega⟩
    by_cases e : m = j
    · rw [e] at hca ⊢; exact hk hca
    · exact p6 m (by omega) hca
  refine wpo_i (fun hc2 => wpo_s (keep (fun _ => hc2))) (fun hc2 => ?_)
  have h0 : M 270 j = -3 := by
    by_cases e : M 270 j = -3
    · exact e
    · exact absurd e hc2
  by_cases g : caG cap (okX dr cs) s j
  · rw [(canGive_eq hvM (by omega) hj).1 g, Option.bind_some]
    clear keep
    have hle := sq_le p4
    have ht := p5.1
    obtain ⟨r1, r2, r3, r4⟩ := sm_push (by decide) p4 hj h0 hp (p5.2.1 p hfp) (s := s) ⟨hs.1, hs.2, hap, g⟩
    refine wpo_g (by decide) (wpo_g (by omega) (wpo_g (by omega) (wpo_s ?_)))
    rw [Int.toNat_natCast, Int.toNat_natCast, p5.2.2.1 head hh, hqp, w32i (by omega) (by omega)]
    refine ⟨⟨j + 1, tail' + 1, by omega, by dsimp only; omega, by dsimp only; omega, r2, sg_trans p5 r3, fun m hm hca => ?_⟩, by dsimp only; omega⟩
    dsimp only
    by_cases e : m = j
    · rw [e]; exact r4
    · exact r3.2.1 m (p6 m (by omega) hca)
  · rw [(canGive_eq hvM (by omega) hj).2 g, Option.bind_some]
    exact wpo_n (by decide) (wpo_s (keep (fun h => absurd h g)))
/-- one of the queue is done -/
theorem spread_head {F N n fr to tail head p : Nat} (hF : 1000000 ≤ F) {I : MI} {cap gr : Nat → Int} {dr : Nat → Nat → Int} {cs : Nat → Nat} {a : Nat → Nat} {H : Nat → Prop} (hv : VX I N n cap gr dr cs) (hft : fr ≤ to) (hto : to ≤ n) (ha : ∀ s, fr ≤ s → s < to → I 267 s = ((a s : Nat) : Int)) (hq : SM N H (aFw cap (okX dr cs) fr to a) 270 271 I tail) (hh : head < tail) (hp : p < N) (hqp : I 274 head = (p : Int)) (hfp : I 270 p ≠ -3) : ∃ (I' : MI) (tail' : Nat), iter (fun q : Int × Int × MI => f_V_spread_L23 F (fr : Int) (to : Int) q.1 (head : Int) q.2.1 q.2.2) F ((tail : Int), (fr : Int), I) = some ((tail' : Int), I') ∧ SM N H (aFw cap (okX dr cs) fr to a) 270 271 I' tail' ∧ SG 270 271 tail tail' I I' ∧ ∀ s m, fr ≤ s → s < to → a s = p → m < N → caG cap (okX dr cs) s m → I' 270 m ≠ -3 := by
  have hN := hv.1
  have hn := hv.2.1
  have k := wpo_iter (step := fun q : Int × Int × MI => f_V_spread_L23 F (fr : Int) (to : Int) q.1 (head : Int) q.2.1 q.2.2) (Q := fun e => ∃ tail' : Nat, e.1 = (tail' : Int) ∧ SM N H (aFw cap (okX dr cs) fr to a) 270 271 e.2 tail' ∧ SG 270 271 tail tail' I e.2 ∧ ∀ s m, fr ≤ s → s < to → a s = p → m < N → caG cap (okX dr cs) s m → e.2 270 m ≠ -3) (fun q => ∃ j tail' : Nat, fr ≤ j ∧ j ≤ to ∧ q.2.1 = (j : Int) ∧ q.1 = (tail' : Int) ∧ SM N H (aFw cap (okX dr cs) fr to a) 270 271 q.2.2 tail' ∧ SG 270 271 tail tail' I q.2.2 ∧ ∀ s m, fr ≤ s → s < j → a s = p → m < N → caG cap (okX dr cs) s m → q.2.2 270 m ≠ -3) (fun q => to - q.2.1.toNat) ?_ (F := F) (s := ((tail : Int), (fr : Int), I)) (by dsimp only; omega) ⟨fr, tail, by omega, by omega, rfl, rfl, hq, sg_refl, fun s m h1 h2 => absurd h2 (by omega)⟩
  · obtain ⟨⟨t, I'⟩, e, tail', q1, q2, q3, q4⟩ := k
    dsimp only at q1 q2 q3 q4
    rw [q1] at e
    exact ⟨I', tail', e, q2, q3, q4⟩
  rintro ⟨t, x, M⟩ ⟨j, tail', p0, p1, p2, p3, p4, p5, p6⟩
  dsimp only at p2 p3 p4 p5 p6 ⊢
  subst p2
  subst p3
  have hvM : VX M N n cap gr dr cs := vx_congr hv (fun b hb => p5.2.2.2 b (by omega) (by omega) (by omega))
  have ew : w32 ((j : Int) + 1) = (j : Int) + 1 := w32i (by omega) (by omega)
  have hle := sq_le p4
  have ht := p5.1
  unfold f_V_spread_L23
  refine wpo_i (fun hc => wpo_s ?_) (fun hc => wpo_g (by omega) (wpo_g (by omega) ?_))
  · have : j = to := by omega
    subst this
    exact ⟨tail', rfl, p4, p5, p6⟩
  rw [Int.toNat_natCast, Int.toNat_natCast, p5.2.2.2 267 (by decide) (by decide) (by decide), ha j p0 (by omega), p5.2.2.1 head hh, hqp, ew]
  refine wpo_i (fun hc2 => ?_) (fun hc2 => wpo_s ?_)
  · have hap : a j = p := by omega
    obtain ⟨I2, t2, e2, r1, r2, r3⟩ := spread_in (F := F) (head := head) (x2 := (fr : Int)) (x3 := (to : Int)) hF hvM ⟨p0, by omega⟩ hto p4 (by omega) hp (by rw [p5.2.2.1 head hh]; exact hqp) (p5.2.1 p hfp) hap
    rw [e2, Option.bind_some]
    refine wpo_s ⟨⟨j + 1, t2, by omega, by omega, by dsimp only; omega, rfl, r1, sg_trans p5 r2, fun s m h1 h2 h3 h4 h5 => ?_⟩, by dsimp only; omega⟩
    dsimp only
    by_cases e : s = j
    · rw [e] at h5; exact r3 m h4 h5
    · exact r2.2.1 m (p6 s m h1 (by omega) h3 h4 h5)
  · refine ⟨⟨j + 1, tail', by omega, by omega, by dsimp only; omega, rfl, p4, p5, fun s m h1 h2 h3 h4 h5 => ?_⟩, by dsimp only; omega⟩
    by_cases e : s = j
    · rw [e] at h3; omega
    · exact p6 s m h1 (by omega) h3 h4 h5
theorem spread_eq {F N n fr to tail : Nat} (hF : 1000000 ≤ F) {I : MI} {cap gr : Nat → Int} {dr : Nat → Nat → Int} {cs : Nat → Nat} {a : Nat → Nat} {H : Nat → Prop} (hv : VX I N n cap gr dr cs) (hft : fr ≤ to) (hto : to ≤ n) (ha : ∀ s, fr ≤ s → s < to → I 267 s = ((a s : Nat) : Int)) (hq : SM N H (aFw cap (okX dr cs) fr to a) 270 271 I tail) : ∃ (I' : MI) (tail' : Nat), f_V_spread F (tail : Int) (fr : Int) (to : Int) I = some I' ∧ SM N H (aFw cap (okX dr cs) fr to a) 270 271 I' tail' ∧ SG 270 271 tail tail' I I' ∧ ∀ s m, fr ≤ s → s < to → a s < N → I' 270 (a s) ≠ -3 → m < N → caG cap (okX dr cs) s m → I' 270 m ≠ -3 := by
  have hN := hv.1
  unfold f_V_spread
  have k := wpo_iter (step := fun q : Int × Int × MI => f_V_spread_L6 F (fr : Int) (to : Int) q.1 q.2.1 q.2.2) (Q := fun I' => ∃ tail' : Nat, SM N H (aFw cap (okX dr cs) fr to a) 270 271 I' tail' ∧ SG 270 271 tail tail' I I' ∧ ∀ s m, fr ≤ s → s < to → a s < N → I' 270 (a s) ≠ -3 → m < N → caG cap (okX dr cs) s m → I' 270 m ≠ -3) (fun q => ∃ j tail' : Nat, j ≤ tail' ∧ q.2.1 = (j : Int) ∧ q.1 = (tail' : Int) ∧ SM N H (aFw cap (okX dr cs) fr to a) 270 271 q.2.2 tail' ∧ SG 270 271 tail tail' I q.2.2 ∧ ∀ i p s m : Nat, i < j → p < N → q.2.2 274 i = (p : Int) → fr ≤ s → s < to → a s = p → m < N → caG cap (okX dr cs) s m → q.2.2 270 m ≠ -3) (fun q => N - q.2.1.toNat) ?_ (F := F) (s := ((tail : Int), (0 : Int), I)) (by dsimp only; omega) ⟨0, tail, by omega, rfl, rfl, hq, sg_refl, fun i p s m hi => absurd hi (by omega)⟩
  · obtain ⟨I', e, tail', q2, q3, q4⟩ := k
    rw [e, Option.bind_some]
    exact ⟨I', tail', rfl, q2, q3, q4⟩
  rintro ⟨t, x, M⟩ ⟨j, tail', p1, p2, p3, p4, p5, p6⟩
  dsimp only at p2 p3 p4 p5 p6 ⊢
  subst p2
  subst p3
  have hvM : VX M N n cap gr dr cs := vx_congr hv (fun b hb => p5.2.2.2 b (by omega) (by omega) (by omega))
  have hle := sq_le p4
  unfold f_V_spread_L6
  refine wpo_i (fun hc => wpo_s ?_) (fun hc => wpo_n (by omega) ?_)
  · have : j = tail' := by omega
    subst this
    refine ⟨j, p4, p5, fun s m h1 h2 h3 h4 h5 h6 => ?_⟩
    obtain ⟨rk, b1, b2, b3⟩ := p4
    obtain ⟨b4, b5, _⟩ := b3 (a s) h3 h4
    exact p6 (rk (a s)) (a s) s m b4 h3 b5 h1 h2 rfl h5 h6
  obtain ⟨p, z1, z2, z3⟩ : ∃ p : Nat, p < N ∧ M 274 j = (p : Int) ∧ M 270 p ≠ -3 := by
    obtain ⟨_, _, q, _⟩ := p4
    exact q j (by omega)
  obtain ⟨I2, t2, e2, r1, r2, r3⟩ := spread_head (F := F) hF hvM hft hto (fun s h1 h2 => by rw [p5.2.2.2 267 (by decide) (by decide) (by decide)]; exact ha s h1 h2) p4 (by omega) z1 z2 z3
  rw [e2, Option.bind_some, w32i (by omega) (by omega)]
  have ht2 := r2.1
  refine wpo_s ⟨⟨j + 1, t2, by omega, by dsimp only; omega, rfl, r1, sg_trans p5 r2, fun i p' s m h1 h2 h3 h4 h5 h6 h7 h8 => ?_⟩, by dsimp only; omega⟩
  dsimp only at h3 ⊢
  rw [r2.2.2.1 i (by omega)] at h3
  by_cases e : i = j
  · rw [e, z2] at h3
    have : p' = p := by omega
    rw [this] at h6
    exact r3 s m h4 h5 h6 h7 h8
  · exact r2.2.1 m (p6 i p' s m (by omega) h2 h3 h4 h5 h6 h7 h8)
/-- .. backwards -/
theorem back_head {F N n fr to tail head p : Nat} (hF : 1000000 ≤ F) {I : MI} {cap gr : Nat → Int} {dr : Nat → Nat → Int} {cs : Nat → Nat} {a : Nat → Nat} {H : Nat → Prop} (hv : VX I N n cap gr dr cs) (hft : fr ≤ to) (hto : to ≤ n) (ha : ∀ s, fr ≤ s → s < to → I 267 s = ((a s : Nat) : Int) ∧ a s < N) (hq : SM N H (aBw cap (okX dr cs) fr to a) 272 273 I tail) (hh : head < tail) (hp : p < N) (hqp : I 274 head = (p : Int)) (hfp : I 272 p ≠ -3) : ∃ (I' : MI) (tail' : Nat), iter (fun q : Int × Int × MI => f_V_spreadBack_L47 F (fr : Int) (to : Int) q.1 (head : Int) q.2.1 q.2.2) F ((tail : Int), (fr : Int), I) = some ((tail' : Int), I') ∧ SM N H (aBw cap (okX dr cs) fr to a) 272 273 I' tail' ∧ SG 272 273 tail tail' I I' ∧ ∀ s, fr ≤ s → s < to → caG cap (okX dr cs) s p → I' 272 (a s) ≠ -3 := by
  have hN := hv.1
  have hn := hv.2.1
  have k := wpo_iter (step := fun q : Int × Int × MI => f_V_spreadBack_L47 F (fr : Int) (to : Int) q.1 (head : Int) q.2.1 q.2.2) (Q := fun e => ∃ tail' : Nat, e.1 = (tail' : Int) ∧ SM N H (aBw cap (okX dr cs) fr to a) 272 273 e.2 tail' ∧ SG 272 273 tail tail' I e.2 ∧ ∀ s, fr ≤ s → s < to → caG cap (okX dr cs) s p → e.2 272 (a s) ≠ -3) (fun q => ∃ j tail' : Nat, fr ≤ j ∧ j ≤ to ∧ q.2.1 = (j : Int) ∧ q.1 = (tail' : Int) ∧ SM N H (aBw cap (okX dr cs) fr to a) 272 273 q.2.2 tail' ∧ SG 272 273 tail tail' I q.2.2 ∧ ∀ s, fr ≤ s → s < j → caG cap (okX dr cs) s p → q.2.2 272 (a s) ≠ -3) (fun q => to - q.2.1.toNat) ?_ (F := F) (s := ((tail : Int), (fr : Int), I)) (by dsimp only; omega) ⟨fr, tail, by omega, by omega, rfl, rfl, hq, sg_refl, fun s h1 h2 => absurd h2 (by omega)⟩
  · obtain ⟨⟨t, I'⟩, e, tail', q1, q2, q3, q4⟩ := k
    dsimp only at q1 q2 q3 q4
    rw [q1] at e
    exact ⟨I', tail', e, q2, q3, q4⟩
  rintro ⟨t, x, M⟩ ⟨j, tail', p0, p1, p2, p3, p4, p5, p6⟩
  dsimp only at p2 p3 p4 p5 p6 ⊢
  subst p2
  subst p3
  have hvM : VX M N n cap gr dr cs := vx_congr hv (fun b hb => p5.2.2.2 b (by omega) (by omega) (by omega))
  have ew : w32 ((j : Int) + 1) = (j : Int) + 1 := w32i (by omega) (by omega)
  have hle := sq_le p4
  have ht := p5.1
  unfold f_V_spreadBack_L47
  refine wpo_i (fun hc => wpo_s ?_) (fun hc => wpo_g (by omega) ?_)
  · have : j = to := by omega
    subst this
    exact ⟨tail', rfl, p4, p5, p6⟩
  obtain ⟨ha1, ha2⟩ := ha j p0 (by omega)
  rw [Int.toNat_natCast, p5.2.2.2 267 (by decide) (by decide) (by decide), ha1, Int.toNat_natCast, ew]
  have keep : (caG cap (okX dr cs) j p → M 272 (a j) ≠ -3) → ((∃ j' tail'' : Nat, fr ≤ j' ∧ j' ≤ to ∧ (j : Int) + 1 = (j' : Int) ∧ (tail' : Int) = (tail'' : Int) ∧ SM N H (aBw cap (okX dr cs) fr to a) 272 273 M tail'' ∧ SG 272 273 tail tail'' I M ∧ ∀ s, fr ≤ s → s < j' → caG cap (okX dr cs) s p → M 272 (a s) ≠ -3) ∧ to - ((j : Int) + 1).toNat < to - ((j : Int)).toNat) := by
    intro hk
    refine ⟨⟨j + 1, tail', by omega, by omega, by omega, rfl, p4, p5, fun s h1 h2 h3 => ?_⟩, by omega⟩
    by_cases e : s = j
    · rw [e] at h3 ⊢; exact hk h3
    · exact p6 s h1 (by omega) h3
  refine wpo_n (by omega) (wpo_g (by omega) (wpo_i (fun hc2 => wpo_s (keep (fun _ => hc2))) (fun hc2 => wpo_g (by omega) ?_)))
  have h0 : M 272 (a j) = -3 := by
    by_cases e : M 272 (a j) = -3
    · exact e
    · exact absurd e hc2
  rw [Int.toNat_natCast, p5.2.2.1 head hh, hqp]
  by_cases g : caG cap (okX dr cs) j p
  · rw [(canGive_eq hvM (by omega) hp).1 g, Option.bind_some]
    clear keep
    obtain ⟨r1, r2, r3, r4⟩ := sm_push (by decide) p4 ha2 h0 hp (p5.2.1 p hfp) (s := j) ⟨p0, by omega, rfl, g⟩
    refine wpo_g (by decide) (wpo_g (by omega) (wpo_s ?_))
    rw [Int.toNat_natCast, w32i (by omega) (by omega)]
    refine ⟨⟨j + 1, tail' + 1, by omega, by omega, by dsimp only; omega, by dsimp only; omega, r2, sg_trans p5 r3, fun s h1 h2 h3 => ?_⟩, by dsimp only; omega⟩
    dsimp only
    by_cases e : s = j
    · rw [e]; exact r4
    · exact r3.2.1 _ (p6 s h1 (by omega) h3)
  · rw [(canGive_eq hvM (by omega) hp).2 g, Option.bind_some]
    exact wpo_n (by decide) (wpo_s (keep (fun h => absurd h g)))
theorem back_eq {F N n fr to x : Nat} (hF : 1000000 ≤ F) {I : MI} {cap gr : Nat → Int} {dr : Nat → Nat → Int} {cs : Nat → Nat} {a : Nat → Nat} (hv : VX I N n cap gr dr cs) (hft : fr ≤ to) (hto : to ≤ n) (ha : ∀ s, fr ≤ s → s < to → I 267 s = ((a s : Nat) : Int) ∧ a s < N) (hx : x < N) : ∃ (I' : MI) (tail' : Nat), f_V_spreadBack F (x : Int) (fr : Int) (to : Int) I = some I' ∧ SM N (fun m => m = x) (aBw cap (okX dr cs) fr to a) 272 273 I' tail' ∧ I' 272 x ≠ -3 ∧ (∀ b, b ≠ 272 → b ≠ 273 → b ≠ 274 → I' b = I b) ∧ ∀ s m, fr ≤ s → s < to → m < N → I' 272 m ≠ -3 → caG cap (okX dr cs) s m → I' 272 (a s) ≠ -3 := by
  have hN := hv.1
  unfold f_V_spreadBack
  rw [if_pos (by omega), Int.toNat_natCast]
  have z1 : ∀ m, m < N → up2 (up2 (fillA I 272 8 (-3)) 272 x (-2)) 274 0 (x : Int) 272 m = if m = x then -2 else -3 := fun m hm => by
    rw [up2_r (by decide)]
    by_cases e : m = x
    · rw [e, up2_same, if_pos rfl]
    · rw [up2_k e, if_neg e]; unfold fillA; rw [if_pos ⟨rfl, by omega⟩]
  have z2 : up2 (up2 (fillA I 272 8 (-3)) 272 x (-2)) 274 0 (x : Int) 274 0 = (x : Int) := up2_same
  have z3 : ∀ b, b ≠ 272 → b ≠ 273 → b ≠ 274 → up2 (up2 (fillA I 272 8 (-3)) 272 x (-2)) 274 0 (x : Int) b = I b := fun b b1 b2 b3 => by
    rw [up2_off b3, up2_off b1]; funext k; unfold fillA; rw [if_neg (by omega)]
  revert z1 z2 z3
  generalize up2 (up2 (fillA I 272 8 (-3)) 272 x (-2)) 274 0 (x : Int) = Z
  intro z1 z2 z3
  have hvZ : VX Z N n cap gr dr cs := vx_congr hv (fun b hb => z3 b (by omega) (by omega) (by omega))
  have hqZ : SM N (fun m => m = x) (aBw cap (okX dr cs) fr to a) 272 273 Z 1 := by
    refine ⟨fun _ => 0, ?_, fun i hi => ⟨x, hx, by rw [show i = 0 by omega]; exact z2, by rw [z1 x hx, if_pos rfl]; decide⟩, fun m hm hf => ?_⟩
    · have := cnt_add (p := fun _ => false) (q := fun m => decide (Z 272 m ≠ -3)) hx rfl (by rw [z1 x hx, if_pos rfl]; rfl) (fun j hj hne => by rw [z1 j hj, if_neg hne]; rfl)
      rw [this, cnt_none (fun _ _ => rfl)]; rfl
    · rw [z1 m hm] at hf ⊢
      by_cases e : m = x
      · rw [if_pos e, e]
        exact ⟨Nat.lt_succ_self 0, z2, Or.inl ⟨rfl, rfl⟩⟩
      · rw [if_neg e] at hf; exact absurd rfl hf
  have hfx : Z 272 x ≠ -3 := by rw [z1 x hx, if_pos rfl]; decide
  have k := wpo_iter (step := fun q : Int × Int × MI => f_V_spreadBack_L30 F (fr : Int) (to : Int) q.1 q.2.1 q.2.2) (Q := fun I' => ∃ tail' : Nat, SM N (fun m => m = x) (aBw cap (okX dr cs) fr to a) 272 273 I' tail' ∧ SG 272 273 1 tail' Z I' ∧ ∀ s m, fr ≤ s → s < to → m < N → I' 272 m ≠ -3 → caG cap (okX dr cs) s m → I' 272 (a s) ≠ -3) (fun q => ∃ j tail' : Nat, j ≤ tail' ∧ q.2.1 = (j : Int) ∧ q.1 = (tail' : Int) ∧ SM N (fun m => m = x) (aBw cap (okX dr cs) fr to a) 272 273 q.2.2 tail' ∧ SG 272 273 1 tail' Z q.2.2 ∧ ∀ i p s : Nat, i < j → p < N → q.2.2 274 i = (p : Int) → fr ≤ s → s < to → caG cap (okX dr cs) s p → q.2.2 272 (a s) ≠ -3) (fun q => N - q.2.1.toNat) ?_ (F := F) (s := ((1 : Int), (0 : Int), Z)) (by dsimp only; omega) ⟨0, 1, by omega, rfl, rfl, hqZ, sg_refl, fun i p s hi => absurd hi (by omega)⟩
  · obtain ⟨I', e, tail', q2, q3, q4⟩ := k
    rw [e, Option.bind_some]
    exact ⟨I', tail', rfl, q2, q3.2.1 x hfx, fun b b1 b2 b3 => (q3.2.2.2 b b1 b2 b3).trans (z3 b b1 b2 b3), q4⟩
  rintro ⟨t, y, M⟩ ⟨j, tail', p1, p2, p3, p4, p5, p6⟩
  dsimp only at p2 p3 p4 p5 p6 ⊢
  subst p2
  subst p3
  have hvM : VX M N n cap gr dr cs := vx_congr hvZ (fun b hb => p5.2.2.2 b (by omega) (by omega) (by omega))
  have hle := sq_le p4
  unfold f_V_spreadBack_L30
  refine wpo_i (fun hc => wpo_s ?_) (fun hc => wpo_n (by omega) ?_)
  · have : j = tail' := by omega
    subst this
    refine ⟨j, p4, p5, fun s m h1 h2 h3 h4 h5 => ?_⟩
    obtain ⟨rk, b1, b2, b3⟩ := p4
    obtain ⟨b4, b5, _⟩ := b3 m h3 h4
    exact p6 (rk m) m s b4 h3 b5 h1 h2 h5
  obtain ⟨p, y1, y2, y3⟩ : ∃ p : Nat, p < N ∧ M 274 j = (p : Int) ∧ M 272 p ≠ -3 := by
    obtain ⟨_, _, q, _⟩ := p4
    exact q j (by omega)
  obtain ⟨I2, t2, e2, r1, r2, r3⟩ := back_head (F := F) hF hvM hft hto (fun s h1 h2 => by rw [p5.2.2.2 267 (by decide) (by decide) (by decide), z3 267 (by decide) (by decide) (by decide)]; exact ha s h1 h2) p4 (by omega) y1 y2 y3
  rw [e2, Option.bind_some, w32i (by omega) (by omega)]
  have ht2 := r2.1
  refine wpo_s ⟨⟨j + 1, t2, by omega, by dsimp only; omega, rfl, r1, sg_trans p5 r2, fun i p' s h1 h2 h3 h4 h5 h6 => ?_⟩, by dsimp only; omega⟩
  dsimp only at h3 ⊢
  rw [r2.2.2.1 i (by omega)] at h3
  by_cases e : i = j
  · rw [e, y2] at h3
    have : p' = p := by omega
    rw [this] at h6
    exact r3 s h4 h5 h6
  · exact r2.2.1 _ (p6 i p' s (by omega) h2 h3 h4 h5 h6)
