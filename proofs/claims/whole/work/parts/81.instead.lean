/-! givers: the class moves a stone -/
theorem giveInstead_eq {F N n k other : Nat} (hF : 1000000 ≤ F) {I : MI} {cap gr : Nat → Int} {dr : Nat → Nat → Int} {cs : Nat → Nat} {a : Nat → Nat} (hv : VX I N n cap gr dr cs) (hk : k < n) (hg : GQ I N n n a) (ho : OptA N cap gr (okX dr cs) n (uT n) a) (hoN : other < N) (hca : caG cap (okX dr cs) k other) (hne : other ≠ a k) : ∃ (r : Int) (I' : MI), f_V_giveInstead F (k : Int) ((a k : Nat) : Int) (other : Int) I = some (r, I') ∧ FrV I I' ∧ ((r = 0 ∧ GQ I' N n n a ∧ ∀ b, OptA N cap gr (okX dr cs) n (uT n) b → (∀ i, i < k → b i = a i) → b k ≠ other) ∨ (r = 1 ∧ ∃ a', GQ I' N n n a' ∧ OptA N cap gr (okX dr cs) n (uT n) a' ∧ (∀ i, i < k → a' i = a i) ∧ a' k = other)) := by
  have hN := hv.1
  have hn := hv.2.1
  obtain ⟨g1, g2⟩ := hg
  have hal : ∀ s, s < n → a s < N ∧ okX dr cs s (a s) := fun s hs => ho.1.1 s hs (uT_n hs)
  have hak := hal k hk
  unfold f_V_giveInstead
  rw [if_pos (by omega), Int.toNat_natCast]
  have z1 : ∀ m, m < N → up2 (up2 (fillA I 270 8 (-3)) 270 other (-2)) 274 0 (other : Int) 270 m = if m = other then -2 else -3 := fun m hm => by
    rw [up2_r (by decide)]
    by_cases e : m = other
    · rw [e, up2_same, if_pos rfl]
    · rw [up2_k e, if_neg e]; unfold fillA; rw [if_pos ⟨rfl, by omega⟩]
  have z2 : up2 (up2 (fillA I 270 8 (-3)) 270 other (-2)) 274 0 (other : Int) 274 0 = (other : Int) := up2_same
  have z3 : ∀ b, b ≠ 270 → b ≠ 274 → up2 (up2 (fillA I 270 8 (-3)) 270 other (-2)) 274 0 (other : Int) b = I b := fun b b1 b3 => by
    rw [up2_off b3, up2_off b1]; funext y; unfold fillA; rw [if_neg (fun z => b1 z.1)]
  revert z1 z2 z3
  generalize up2 (up2 (fillA I 270 8 (-3)) 270 other (-2)) 274 0 (other : Int) = Z
  intro z1 z2 z3
  have hvZ : VX Z N n cap gr dr cs := vx_congr hv (fun b hb => z3 b (by omega) (by omega))
  have hqZ : SM N (fun m => m = other) (aFw cap (okX dr cs) (k + 1) n a) 270 271 Z 1 := by
    refine ⟨fun _ => 0, ?_, fun i hi => ⟨other, hoN, by rw [show i = 0 by omega]; exact z2, by rw [z1 other hoN, if_pos rfl]; decide⟩, fun m hm hf => ?_⟩
    · have := cnt_add (p := fun _ => false) (q := fun m => decide (Z 270 m ≠ -3)) hoN rfl (by rw [z1 other hoN, if_pos rfl]; rfl) (fun j hj hne => by rw [z1 j hj, if_neg hne]; rfl)
      rw [this, cnt_none (fun _ _ => rfl)]; rfl
    · rw [z1 m hm] at hf ⊢
      by_cases e : m = other
      · rw [if_pos e, e]
        exact ⟨Nat.lt_succ_self 0, z2, Or.inl ⟨rfl, rfl⟩⟩
      · rw [if_neg e] at hf; exact absurd rfl hf
  obtain ⟨I1, t1, e1, r1, r2, r3⟩ := spread_eq (F := F) (fr := k + 1) (to := n) (a := a) hF hvZ (by omega) (Nat.le_refl n) (fun s _ hs => by rw [z3 267 (by decide) (by decide)]; exact g1 s hs) hqZ
  rw [show (((1 : Nat)) : Int) = 1 from rfl, show ((k + 1 : Nat) : Int) = (k : Int) + 1 by omega] at e1
  rw [w32i (by omega) (by omega), hvZ.2.2.2.1, e1, Option.bind_some]
  have f1 : ∀ b, b ≠ 270 → b ≠ 271 → b ≠ 274 → I1 b = I b := fun b h1 h2 h3 => (r2.2.2.2 b h1 h2 h3).trans (z3 b h1 h3)
  have hv1 : VX I1 N n cap gr dr cs := vx_congr hv (fun b hb => f1 b (by omega) (by omega) (by omega))
  have fr1 : FrV I I1 := fun b h1 h2 => f1 b (by omega) (by omega) (by omega)
  have hRo : I1 270 other ≠ -3 := r2.2.1 other (by rw [z1 other hoN, if_pos rfl]; decide)
  have hRc : ∀ s m, k < s → s < n → m < N → I1 270 (a s) ≠ -3 → caG cap (okX dr cs) s m → I1 270 m ≠ -3 := fun s m h1 h2 h3 h4 h5 => r3 s m (by omega) h2 (hal s h2).1 h4 h3 h5
  rw [if_pos (by omega), Int.toNat_natCast]
  by_cases gk : I1 270 (a k) = -3
  · rw [if_pos gk]
    obtain ⟨I2, t2, e2, b1, b2, b3, b4⟩ := back_eq (F := F) (fr := k + 1) (to := n) (a := a) (x := a k) hF hv1 (by omega) (Nat.le_refl n) (fun s _ hs => ⟨by rw [f1 267 (by decide) (by decide) (by decide)]; exact g1 s hs, (hal s hs).1⟩) hak.1
    rw [show ((k + 1 : Nat) : Int) = (k : Int) + 1 by omega] at e2
    rw [hv1.2.2.2.1, e2, Option.bind_some]
    have f2 : ∀ b, b ≠ 270 → b ≠ 271 → b ≠ 272 → b ≠ 273 → b ≠ 274 → I2 b = I b := fun b h1 h2 h3 h4 h5 => (b3 b h3 h4 h5).trans (f1 b h1 h2 h5)
    have hv2 : VX I2 N n cap gr dr cs := vx_congr hv (fun b hb => f2 b (by omega) (by omega) (by omega) (by omega) (by omega))
    have fr2 : FrV I I2 := fun b h1 h2 => f2 b (by omega) (by omega) (by omega) (by omega) (by omega)
    have h70 : I2 270 = I1 270 := b3 270 (by decide) (by decide) (by decide)
    have h71 : I2 271 = I1 271 := b3 271 (by decide) (by decide) (by decide)
    have h69 : I2 269 = I 269 := f2 269 (by decide) (by decide) (by decide) (by decide) (by decide)
    have h67 : I2 267 = I 267 := f2 267 (by decide) (by decide) (by decide) (by decide) (by decide)
    obtain ⟨e, e3, c1⟩ := more_eq (F := F) (x1 := (k : Int)) (x3 := (other : Int)) hF hv2
    rw [e3, Option.bind_some]
    rcases c1 with ⟨m, l, c2, c3, c4, c5, c6, c7, c8⟩ | ⟨c4, c5⟩
    · rw [c4]
      dsimp only
      rw [h70] at c5
      rw [h69, g2 m c2] at c6
      obtain ⟨h, I3, a1, e4, p1, p2, p3, p4, p5, p6⟩ := passOn_eq (F := F) (n := n) (k := n) (I := I2) (a := a) (fr := k + 1) (to := n) (cap := cap) (ok := okX dr cs) (H := fun m => m = other) hF hN hn (Nat.le_refl n) (Nat.le_refl n) (fun s hs => by rw [h67]; exact g1 s hs) (by rw [h70, h71]; exact sq_walk r1) c2 (by rw [h70]; exact c5)
      rw [e4, Option.bind_some]
      dsimp only
      have dis : ∀ s, k + 1 ≤ s → s < n → a s < N → I3 272 (a s) ≠ -3 → a1 s = a s := fun s h1 h2 h3 h4 => by
        rcases p5 s with e | ⟨_, _, _, q1, _⟩
        · exact e
        · rw [h70] at q1
          rw [p4 272 (by decide)] at h4
          exact absurd gk (sw_meet (sq_walk b1) (R := fun z => I1 270 z ≠ -3) (fun s m h1 h2 h3 h4 h5 => hRc s m (by omega) h2 h3 h4 h5) h3 h4 q1)
      obtain ⟨h', I4, a2, e5, w1, w2, w3, w4, w5, w6⟩ := handOn_eq (F := F) (n := n) (k := n) (I := I3) (a := a) (a1 := a1) (fr := k + 1) (to := n) (cap := cap) (ok := okX dr cs) (H := fun m => m = a k) hF hN hn (Nat.le_refl n) (Nat.le_refl n) p3 dis (by rw [p4 272 (by decide), p4 273 (by decide)]; exact sq_walk b1) c3 (by rw [p4 272 (by decide)]; exact c7)
      rw [e5, Option.bind_some, if_pos (by omega), if_pos (by omega), if_pos (by omega), Int.toNat_natCast, Int.toNat_natCast, Int.toNat_natCast]
      have hml : m ≠ l := fun e => absurd gk (sw_meet (sq_walk b1) (R := fun z => I1 270 z ≠ -3) (fun s m h1 h2 h3 h4 h5 => hRc s m (by omega) h2 h3 h4 h5) c3 c7 (by rw [← e]; exact c5))
      have h49 : I4 269 = I 269 := by rw [w4 269 (by decide), p4 269 (by decide), h69]
      have capb : ∀ q, q < N → cT (uT n) n a q ≤ 100 := fun q hq => by
        have := ho.1.2 q hq
        have := (hv.2.2.2.2.1 q hq).2.2.1
        omega
      have v1 : up2 I4 267 k (other : Int) 269 m = cT (uT n) n a m := by rw [up2_r (by decide), h49, g2 m c2]
      have nn1 := cT_nn (T := uT n) (n := n) (a := a) (m := m)
      have nn2 := cT_nn (T := uT n) (n := n) (a := a) (m := l)
      have cb1 := capb m c2
      have cb2 := capb l c3
      have v2 : up2 (up2 I4 267 k (other : Int)) 269 m (cT (uT n) n a m + 1) 269 l = cT (uT n) n a l := by
        rw [up2_k hml.symm, up2_r (by decide), h49, g2 l c3]
      rw [v1, w32i (by omega) (by omega), v2, w32i (by omega) (by omega)]
      have hTn : ∀ s, k + 1 ≤ s → s < n → uT n s = true := fun s _ hs => uT_n hs
      have a2k : a2 k = a k := by
        rcases w5 k with e | ⟨q, _⟩
        · rcases p5 k with e' | ⟨q, _⟩
          · rw [e, e']
          · omega
        · omega
      have a2p : ∀ i, i < k → a2 i = a i := fun i hi => by
        rcases w5 i with e | ⟨q, _⟩
        · rcases p5 i with e' | ⟨q, _⟩
          · rw [e, e']
          · omega
        · omega
      have a2v : ∀ i, i < n → a2 i < N ∧ okX dr cs i (a2 i) := fun i hi => by
        rcases w5 i with e | ⟨_, _, _, _, q5, q6⟩
        · rcases p5 i with e' | ⟨_, _, _, _, q5, q6⟩
          · rw [e, e']; exact hal i hi
          · rw [e]; exact ⟨q6, q5.2⟩
        · exact ⟨q6, q5.2⟩
      have cnew : ∀ q, cT (uT n) n (fun i => if i = k then other else a2 i) q = cT (uT n) n a q + dl m q - dl l q := fun q => by
        have h1 := p6 (uT n) hTn q
        have h2 := w6 (uT n) hTn q
        rw [cT_upd (a := a2) (b := fun i => if i = k then other else a2 i) hk (uT_n hk) (fun i _ hne => if_neg hne) q, if_pos rfl, a2k]
        rw [p2] at h1
        rw [w2] at h2
        omega
      have vnew : VA N cap (okX dr cs) n (uT n) (fun i => if i = k then other else a2 i) := by
        refine ⟨fun i hi _ => ?_, fun q hq => ?_⟩
        · dsimp only
          by_cases e : i = k
          · rw [if_pos e, e]; exact ⟨hoN, hca.2⟩
          · rw [if_neg e]; exact a2v i hi
        · rw [cnew q]
          have := dl_b (x := l) (q := q)
          by_cases e : q = m
          · rw [e, dl_same, dl_ne hml]; omega
          · rw [dl_ne e]
            have := ho.1.2 q hq
            omega
      have hcost := cost_of (g := gr) (fun i hi ht => (ho.1.1 i hi ht).1) (fun i hi ht => (vnew.1 i hi ht).1) c2 c3 (fun q _ => cnew q)
      refine ⟨1, _, rfl, fun b h1 h2 => by rw [up2_off (by omega), up2_off (by omega), up2_off h1, w4 b h1, p4 b h1]; exact fr2 b h1 h2, Or.inr ⟨rfl, fun i => if i = k then other else a2 i, ⟨fun s hs => ?_, fun q hq => ?_⟩, ⟨vnew, fun b hb => ?_⟩, fun i hi => ?_, if_pos rfl⟩⟩
      · rw [up2_r (by decide), up2_r (by decide)]
        dsimp only
        by_cases e : s = k
        · rw [e, up2_same, if_pos rfl]
        · rw [up2_k e, if_neg e]; exact w3 s hs
      · rw [cnew q]
        by_cases e : q = l
        · rw [e, up2_same, dl_same, dl_ne hml.symm]; omega
        · rw [up2_k e, dl_ne e]
          by_cases e' : q = m
          · rw [e', up2_same, dl_same]; omega
          · rw [up2_k e', up2_r (by decide), h49, g2 q hq, dl_ne e']; omega
      · have := ho.2 b hb
        omega
      · dsimp only
        rw [if_neg (by omega)]; exact a2p i hi
    · rw [c4]
      refine ⟨0, I2, rfl, fr2, Or.inl ⟨rfl, ⟨fun s hs => by rw [h67]; exact g1 s hs, fun q hq => by rw [h69]; exact g2 q hq⟩, fun b hb hpre hbk => ?_⟩⟩
      obtain ⟨m, l, q1, q2, q3, q4, q5, q6⟩ := instead_ex (a := a) (b := b) (R := fun z => I2 270 z ≠ -3) (B := fun z => I2 272 z ≠ -3) hk ho hb.1 (opt_cost hb ho) hpre (by rw [hbk, h70]; exact hRo) (fun s m h1 h2 h3 h4 h5 => by rw [h70] at h4 ⊢; exact hRc s m h1 h2 h3 h4 h5) (fun h => h (by rw [h70]; exact gk)) b2 (fun s m h1 h2 h3 h4 h5 => b4 s m (by omega) h2 h3 h4 h5)
      exact c5 m l q1 q2 q3 (by rw [h69, g2 m q1]; exact q4) q5 q6
  · rw [if_neg gk]
    obtain ⟨h, I3, a1, e4, p1, p2, p3, p4, p5, p6⟩ := passOn_eq (F := F) (n := n) (k := n) (I := I1) (a := a) (fr := k + 1) (to := n) (cap := cap) (ok := okX dr cs) (H := fun m => m = other) hF hN hn (Nat.le_refl n) (Nat.le_refl n) (fun s hs => by rw [f1 267 (by decide) (by decide) (by decide)]; exact g1 s hs) (sq_walk r1) hak.1 gk
    rw [e4, Option.bind_some]
    dsimp only
    rw [if_pos (by omega), Int.toNat_natCast]
    have hTn : ∀ s, k + 1 ≤ s → s < n → uT n s = true := fun s _ hs => uT_n hs
    have a1k : a1 k = a k := by
      rcases p5 k with e' | ⟨q, _⟩
      · exact e'
      · omega
    have cnew : ∀ q, cT (uT n) n (fun i => if i = k then other else a1 i) q = cT (uT n) n a q := fun q => by
      have h1 := p6 (uT n) hTn q
      rw [cT_upd (a := a1) (b := fun i => if i = k then other else a1 i) hk (uT_n hk) (fun i _ hne => if_neg hne) q, if_pos rfl, a1k]
      rw [p2] at h1
      omega
    have vnew : VA N cap (okX dr cs) n (uT n) (fun i => if i = k then other else a1 i) := by
      refine ⟨fun i hi _ => ?_, fun q hq => by rw [cnew q]; exact ho.1.2 q hq⟩
      dsimp only
      by_cases e : i = k
      · rw [if_pos e, e]; exact ⟨hoN, hca.2⟩
      · rw [if_neg e]
        rcases p5 i with e' | ⟨_, _, _, _, q5, q6⟩
        · rw [e']; exact hal i hi
        · exact ⟨q6, q5.2⟩
    have hcost := cost_of (g := gr) (fun i hi ht => (ho.1.1 i hi ht).1) (fun i hi ht => (vnew.1 i hi ht).1) hoN hoN (fun q _ => by rw [cnew q]; omega)
    refine ⟨1, _, rfl, fun b h1 h2 => by rw [up2_off h1, p4 b h1]; exact fr1 b h1 h2, Or.inr ⟨rfl, fun i => if i = k then other else a1 i, ⟨fun s hs => ?_, fun q hq => ?_⟩, ⟨vnew, fun b hb => ?_⟩, fun i hi => ?_, if_pos rfl⟩⟩
    · dsimp only
      by_cases e : s = k
      · rw [e, up2_same, if_pos rfl]
      · rw [up2_k e, if_neg e]; exact p3 s hs
    · rw [cnew q, up2_r (by decide), p4 269 (by decide), f1 269 (by decide) (by decide) (by decide)]; exact g2 q hq
    · have := ho.2 b hb
      omega
    · dsimp only
      rw [if_neg (by omega)]
      rcases p5 i with e' | ⟨q, _⟩
      · exact e'
      · omega
theorem byFirst_eq {F N n k : Nat} (hF : 1000000 ≤ F) {I : MI} {cap gr : Nat → Int} {dr : Nat → Nat → Int} {cs : Nat → Nat} {a : Nat → Nat} (hv : VX I N n cap gr dr cs) (hk : k < n) (hg : GQ I N n n a) (ho : OptA N cap gr (okX dr cs) n (uT n) a) : ∃ (I' : MI) (a' : Nat → Nat), f_V_giveByFirst F (k : Int) I = some I' ∧ FrV I I' ∧ GQ I' N n n a' ∧ OptA N cap gr (okX dr cs) n (uT n) a' ∧ (∀ i, i < k → a' i = a i) ∧ ∀ b, OptA N cap gr (okX dr cs) n (uT n) b → (∀ i, i < k → b i = a' i) → a' k ≤ b k := by
  have hN := hv.1
  have hn := hv.2.1
  have hak := ho.1.1 k hk (uT_n hk)
  unfold f_V_giveByFirst
  rw [if_pos (by omega), Int.toNat_natCast, hg.1 k hk]
  have kk := wpo_iter (step := fun s : Int × MI => f_V_giveByFirst_L9 F (k : Int) ((a k : Nat) : Int) s.1 s.2) (Q := fun e => ∃ (I' : MI) (a' : Nat → Nat), (e = .inl I' ∨ e = .inr I') ∧ FrV I I' ∧ GQ I' N n n a' ∧ OptA N cap gr (okX dr cs) n (uT n) a' ∧ (∀ i, i < k → a' i = a i) ∧ ∀ b, OptA N cap gr (okX dr cs) n (uT n) b → (∀ i, i < k → b i = a' i) → a' k ≤ b k) (fun s => ∃ j : Nat, j ≤ a k ∧ s.1 = (j : Int) ∧ FrV I s.2 ∧ GQ s.2 N n n a ∧ ∀ m, m < j → ∀ b, OptA N cap gr (okX dr cs) n (uT n) b → (∀ i, i < k → b i = a i) → b k ≠ m) (fun s => a k - s.1.toNat) ?_ (F := F) (s := ((0 : Int), I)) (by dsimp only; omega) ⟨0, by omega, rfl, fun _ _ _ => rfl, hg, fun m hm => absurd hm (by omega)⟩
  · obtain ⟨e, e1, I', a', e2, q⟩ := kk
    rw [e1, Option.bind_some]
    rcases e2 with e2 | e2
    · rw [e2]; exact ⟨I', a', rfl, q⟩
    · rw [e2]; exact ⟨I', a', rfl, q⟩
  rintro ⟨x, M⟩ ⟨j, p1, p2, p3, p4, p5⟩
  dsimp only at p2 p3 p4 ⊢
  subst p2
  have hvM := vx_fr hv p3
  have ew : w32 ((j : Int) + 1) = (j : Int) + 1 := by clear p5; exact w32i (by omega) (by omega)
  unfold f_V_giveByFirst_L9
  refine wpo_i (fun hc => wpo_s ?_) (fun hc => ?_)
  · refine ⟨M, a, Or.inr rfl, p3, p4, ho, fun _ _ => rfl, fun b hb hpre => ?_⟩
    have h1 : ∀ m, m < a k → b k ≠ m := fun m hm => p5 m (by clear p5; omega) b hb hpre
    by_cases h : a k ≤ b k
    · exact h
    · exact absurd rfl (h1 (b k) (by clear p5; omega))
  have hj : j < a k := by clear p5; omega
  rw [ew]
  by_cases g : caG cap (okX dr cs) k j
  · rw [(canGive_eq hvM hk (by clear p5; omega)).1 g, Option.bind_some]
    refine wpo_n (by decide) ?_
    obtain ⟨r, I', e1, f1, c1⟩ := giveInstead_eq (F := F) (other := j) hF hvM hk p4 ho (by clear p5; omega) g (by clear p5; omega)
    rw [e1, Option.bind_some]
    rcases c1 with ⟨h0, h1, h2⟩ | ⟨h0, a', h1, h2, h3, h4⟩
    · rw [h0]
      refine wpo_g rfl (wpo_s ⟨⟨j + 1, by clear p5; omega, by clear p5; dsimp only; omega, frV_trans p3 f1, h1, fun m hm b hb hpre => ?_⟩, by clear p5; dsimp only; omega⟩)
      by_cases e : m = j
      · rw [e]; exact h2 b hb hpre
      · exact p5 m (by clear p5; omega) b hb hpre
    · rw [h0]
      refine wpo_n (by simp) (wpo_s ⟨I', a', Or.inl rfl, frV_trans p3 f1, h1, h2, h3, fun b hb hpre => ?_⟩)
      have h5 : ∀ m, m < j → b k ≠ m := fun m hm => p5 m hm b hb (fun i hi => (hpre i hi).trans (h3 i hi))
      rw [h4]
      by_cases h : j ≤ b k
      · exact h
      · exact absurd rfl (h5 (b k) (by clear p5; omega))
  · rw [(canGive_eq hvM hk (by clear p5; omega)).2 g, Option.bind_some]
    refine wpo_g rfl (wpo_s ⟨⟨j + 1, by clear p5; omega, by clear p5; dsimp only; omega, p3, p4, fun m hm b hb hpre => ?_⟩, by clear p5; dsimp only; omega⟩)
    by_cases e : m = j
    · rw [e]
      intro hbk
      have := va_caG hb.1 hk (uT_n hk)
      rw [hbk] at this
      exact g this
    · exact p5 m (by clear p5; omega) b hb hpre
