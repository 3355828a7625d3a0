/-! givers: the class gives -/
/-- the class's assignment: a on the first k stones, how many each gives -/
def GQ (I : MI) (N n k : Nat) (a : Nat → Nat) : Prop := (∀ s, s < k → I 267 s = ((a s : Nat) : Int)) ∧ ∀ m, m < N → I 269 m = cT (uT k) n a m
def FrV (I I' : MI) : Prop := ∀ b, b ≠ 267 → (b < 269 ∨ 274 < b) → I' b = I b
theorem frV_trans {I I' I2 : MI} (h : FrV I I') (h' : FrV I' I2) : FrV I I2 := fun b h1 h2 => (h' b h1 h2).trans (h b h1 h2)
theorem vx_fr {I I' : MI} {N n : Nat} {cap gr : Nat → Int} {dr : Nat → Nat → Int} {cs : Nat → Nat} (h : VX I N n cap gr dr cs) (hf : FrV I I') : VX I' N n cap gr dr cs := vx_congr h (fun a ha => hf a (by omega) (by omega))
theorem give_eq {F N n k : Nat} (hF : 1000000 ≤ F) {I : MI} {cap gr : Nat → Int} {dr : Nat → Nat → Int} {cs : Nat → Nat} {a : Nat → Nat} (hv : VX I N n cap gr dr cs) (hk : k < n) (hg : GQ I N n k a) (ho : OptA N cap gr (okX dr cs) n (uT k) a) : ∃ (r : Int) (I' : MI), f_V_give F (k : Int) I = some (r, I') ∧ FrV I I' ∧ ((r = 0 ∧ ∀ b, ¬ VA N cap (okX dr cs) n (uT (k + 1)) b) ∨ (r = 1 ∧ ∃ a', GQ I' N n (k + 1) a' ∧ OptA N cap gr (okX dr cs) n (uT (k + 1)) a')) := by
  have hN := hv.1
  have hn := hv.2.1
  obtain ⟨g1, g2⟩ := hg
  unfold f_V_give
  have z1 : ∀ m, m < 8 → fillA I 270 8 (-3) 270 m = -3 := fun m hm => by unfold fillA; rw [if_pos ⟨rfl, hm⟩]
  have z2 : ∀ b, b ≠ 270 → fillA I 270 8 (-3) b = I b := fun b hb => by funext y; unfold fillA; rw [if_neg (fun z => hb z.1)]
  revert z1 z2
  generalize fillA I 270 8 (-3) = Z
  intro z1 z2
  have k1 := wpo_iter (step := fun s : Int × Int × MI => f_V_give_L13 F (k : Int) s.1 s.2.1 s.2.2) (Q := fun e => ∃ tail : Nat, e.1 = (tail : Int) ∧ SM N (fun m => caG cap (okX dr cs) k m) (aFw cap (okX dr cs) 0 k a) 270 271 e.2 tail ∧ (∀ m, m < N → caG cap (okX dr cs) k m → e.2 270 m ≠ -3) ∧ ∀ b, b ≠ 270 → b ≠ 274 → e.2 b = Z b) (fun s => ∃ j tail : Nat, j ≤ N ∧ s.2.1 = (j : Int) ∧ s.1 = (tail : Int) ∧ SM N (fun m => caG cap (okX dr cs) k m) (aFw cap (okX dr cs) 0 k a) 270 271 s.2.2 tail ∧ (∀ m, m < j → caG cap (okX dr cs) k m → s.2.2 270 m ≠ -3) ∧ (∀ m, j ≤ m → m < 8 → s.2.2 270 m = -3) ∧ ∀ b, b ≠ 270 → b ≠ 274 → s.2.2 b = Z b) (fun s => N - s.2.1.toNat) ?_ (F := F) (s := ((0 : Int), (0 : Int), Z)) (by dsimp only; omega) ⟨0, 0, by omega, rfl, rfl, ⟨fun _ => 0, cnt_none (fun m hm => by simp [z1 m (by omega)]), fun i hi => absurd hi (by omega), fun m hm hf => absurd (z1 m (by omega)) hf⟩, fun m hm => absurd hm (by omega), fun m _ hm => z1 m hm, fun _ _ _ => rfl⟩
  · obtain ⟨⟨t, I1⟩, e1, tail, q1, q2, q3, q4⟩ := k1
    dsimp only at q1 q2 q3 q4
    have f1 : ∀ b, b ≠ 270 → b ≠ 274 → I1 b = I b := fun b h1 h2 => (q4 b h1 h2).trans (z2 b h1)
    have hv1 : VX I1 N n cap gr dr cs := vx_congr hv (fun b hb => f1 b (by omega) (by omega))
    rw [e1, Option.bind_some, q1]
    dsimp only
    obtain ⟨I2, t2, e2, r1, r2, r3⟩ := spread_eq (F := F) (fr := 0) (to := k) (a := a) hF hv1 (by omega) (by omega) (fun s _ hs => by rw [f1 267 (by decide) (by decide)]; exact g1 s hs) q2
    rw [show (((0 : Nat)) : Int) = 0 from rfl] at e2
    have f2 : ∀ b, b ≠ 270 → b ≠ 271 → b ≠ 274 → I2 b = I b := fun b h1 h2 h3 => (r2.2.2.2 b h1 h2 h3).trans (f1 b h1 h3)
    have hv2 : VX I2 N n cap gr dr cs := vx_congr hv (fun b hb => f2 b (by omega) (by omega) (by omega))
    have fr2 : FrV I I2 := fun b h1 h2 => f2 b (by omega) (by omega) (by omega)
    have hR1 : ∀ m, m < N → caG cap (okX dr cs) k m → I2 270 m ≠ -3 := fun m hm hc => r2.2.1 m (q3 m hm hc)
    have hal : ∀ s, s < k → a s < N := fun s hs => (ho.1.1 s (by omega) (by simp [uT, hs])).1
    have ex := fun b hb => give_ex (b := b) (R := fun m => I2 270 m ≠ -3) hk ho hb hR1 (fun s m hs hm hr hc => r3 s m (by omega) hs (hal s hs) hr hm hc)
    rw [e2, Option.bind_some]
    obtain ⟨b, e3, s3⟩ := leastFree_eq (F := F) hF hv2
    rw [e3, Option.bind_some]
    rcases s3 with ⟨h1, h2⟩ | ⟨l, l1, l2, l3, l4, l5⟩
    · rw [h1, if_neg (by simp)]
      refine ⟨0, I2, rfl, fr2, Or.inl ⟨rfl, fun b hb => ?_⟩⟩
      obtain ⟨m, m1, m2, m3, _⟩ := ex b hb
      have := h2 m m1 m2
      rw [f2 269 (by decide) (by decide) (by decide), g2 m m1] at this
      omega
    · rw [l2, if_pos (by omega)]
      obtain ⟨h, I3, a', e4, h1, h2, h3, h4, h5, h6⟩ := passOn_eq (F := F) (n := n) (k := k) hF hN hn (Nat.le_refl k) (by omega) (fun s hs => by rw [f2 267 (by decide) (by decide) (by decide)]; exact g1 s hs) (sq_walk r1) l1 l3
      rw [e4, Option.bind_some]
      dsimp only
      rw [if_pos (by omega), if_pos (by omega), Int.toNat_natCast, Int.toNat_natCast]
      have u1 : up2 I3 267 k (h : Int) 269 l = cT (uT k) n a l := by
        rw [up2_r (by decide), h4 269 (by decide), f2 269 (by decide) (by decide) (by decide), g2 l l1]
      have nn := cT_nn (T := uT k) (n := n) (a := a) (m := l)
      have hcap := (hv.2.2.2.2.1 l l1).2.2.1
      have used := l4
      rw [f2 269 (by decide) (by decide) (by decide), g2 l l1] at used
      rw [u1, w32i (by omega) (by omega)]
      have cT6 : ∀ q, cT (uT k) n a' q = cT (uT k) n a q + dl l q - dl h q := fun q => h6 (uT k) (fun s _ hs => by simp [uT, hs]) q
      have ck : ∀ q, cT (uT (k + 1)) n (fun i => if i = k then h else a' i) q = cT (uT k) n a q + dl l q := fun q => by
        rw [cT_uT_s hk, if_pos rfl, cT_congr (b := a') (fun i _ ht => if_neg (fun e => by rw [e] at ht; simp [uT] at ht)), cT6 q]
        omega
      have va : ∀ s, s < k → a' s < N ∧ okX dr cs s (a' s) := fun s hs => by
        rcases h5 s with e | ⟨_, _, _, _, c5, c6⟩
        · rw [e]; exact ho.1.1 s (by omega) (by simp [uT, hs])
        · exact ⟨c6, c5.2⟩
      refine ⟨1, _, rfl, fun b b1 b2 => by rw [up2_off (by omega), up2_off b1, h4 b b1]; exact fr2 b b1 b2, Or.inr ⟨rfl, fun i => if i = k then h else a' i, ⟨fun s hs => ?_, fun m hm => ?_⟩, ⟨fun s hs ht => ?_, fun m hm => ?_⟩, fun b hb => ?_⟩⟩
      · rw [up2_r (by decide)]
        dsimp only
        by_cases e : s = k
        · rw [e, up2_same, if_pos rfl]
        · rw [up2_k e, if_neg e]; exact h3 s (by omega)
      · rw [ck m]
        by_cases e : m = l
        · rw [e, up2_same, dl_same]
        · rw [up2_k e, up2_r (by decide), h4 269 (by decide), f2 269 (by decide) (by decide) (by decide), g2 m hm, dl_ne e]; omega
      · dsimp only
        by_cases e : s = k
        · rw [if_pos e, e]; exact ⟨h1, h2.2⟩
        · rw [if_neg e]
          have : s < k + 1 := by simpa [uT] using ht
          exact va s (by omega)
      · rw [ck m]
        by_cases e : m = l
        · rw [e, dl_same]; omega
        · rw [dl_ne e]
          have := ho.1.2 m hm
          omega
      · obtain ⟨m, m1, m2, m3, m4⟩ := ex b hb
        have h7 := l5 m m1 m2 (by rw [f2 269 (by decide) (by decide) (by decide), g2 m m1]; exact m3)
        have h8 := cost_of (g := gr) (T := uT k) (n := n) (N := N) (a := a) (b := a') (fun i hi ht => (ho.1.1 i hi ht).1) (fun i hi ht => (va i (by simpa [uT] using ht)).1) l1 h1 (fun q _ => cT6 q)
        rw [cost_uT_s (a := fun i => if i = k then h else a' i) hk, if_pos rfl, cost_congr (b := a') (fun i _ ht => if_neg (fun e => by rw [e] at ht; simp [uT] at ht))]
        omega
  · rintro ⟨t, x, M⟩ ⟨j, tail, p1, p2, p3, p4, p5, p6, p7⟩
    dsimp only at p2 p3 p4 p5 p6 p7 ⊢
    subst p2
    subst p3
    have hvM : VX M N n cap gr dr cs := vx_congr hv (fun b hb => (p7 b (by omega) (by omega)).trans (z2 b (by omega)))
    have ew : w32 ((j : Int) + 1) = (j : Int) + 1 := w32i (by omega) (by omega)
    unfold f_V_give_L13
    rw [hvM.2.2.1]
    refine wpo_i (fun hc => wpo_s ?_) (fun hc => ?_)
    · have : j = N := by omega
      subst this
      exact ⟨tail, rfl, p4, p5, p7⟩
    have hj : j < N := by omega
    rw [ew]
    by_cases g : caG cap (okX dr cs) k j
    · rw [(canGive_eq hvM hk hj).1 g, Option.bind_some]
      have hle := sq_le p4
      have m1 : ∀ z, up2 (up2 M 270 j (-2)) 274 tail (j : Int) 270 z = if z = j then -2 else M 270 z := fun z => by
        rw [up2_r (by decide)]
        by_cases e : z = j
        · rw [e, up2_same, if_pos rfl]
        · rw [up2_k e, if_neg e]
      have m3 : ∀ i, up2 (up2 M 270 j (-2)) 274 tail (j : Int) 274 i = if i = tail then (j : Int) else M 274 i := fun i => by
        by_cases e : i = tail
        · rw [e, up2_same, if_pos rfl]
        · rw [up2_k e, if_neg e, up2_r (by decide)]
      have m4 : ∀ b, b ≠ 270 → b ≠ 274 → up2 (up2 M 270 j (-2)) 274 tail (j : Int) b = M b := fun b h1 h2 => by rw [up2_off h2, up2_off h1]
      obtain ⟨r1, r2⟩ := sq_push (tf' := up2 (up2 M 270 j (-2)) 274 tail (j : Int) 270) (tk' := up2 (up2 M 270 j (-2)) 274 tail (j : Int) 271) (q' := up2 (up2 M 270 j (-2)) 274 tail (j : Int) 274) (v := -2) p4 hj (p6 j (Nat.le_refl _) (by omega)) m1 (fun z _ => by rw [m4 271 (by decide) (by decide)]) m3 (Or.inl ⟨rfl, g⟩)
      refine wpo_g (by decide) (wpo_g (by omega) (wpo_g (by omega) (wpo_s ?_)))
      rw [Int.toNat_natCast, Int.toNat_natCast, w32i (by omega) (by omega)]
      refine ⟨⟨j + 1, tail + 1, by omega, by dsimp only; omega, by dsimp only; omega, r2, fun m hm hc2 => ?_, fun m h1 h2 => ?_, fun b h1 h2 => by dsimp only; rw [m4 b h1 h2]; exact p7 b h1 h2⟩, by dsimp only; omega⟩
      · dsimp only
        rw [m1]
        by_cases e : m = j
        · rw [if_pos e]; decide
        · rw [if_neg e]; exact p5 m (by omega) hc2
      · dsimp only
        rw [m1, if_neg (by omega)]
        exact p6 m (by omega) h2
    · rw [(canGive_eq hvM hk hj).2 g, Option.bind_some]
      refine wpo_n (by decide) (wpo_s ⟨⟨j + 1, tail, by omega, by dsimp only; omega, rfl, p4, fun m hm hc2 => ?_, fun m h1 h2 => p6 m (by omega) h2, p7⟩, by dsimp only; omega⟩)
      by_cases e : m = j
      · rw [e] at hc2; exact absurd hc2 g
      · exact p5 m (by omega) hc2
theorem less_eq {F N n more : Nat} (hF : 1000000 ≤ F) {x1 x3 : Int} {I : MI} {cap gr : Nat → Int} {dr : Nat → Nat → Int} {cs : Nat → Nat} (hv : VX I N n cap gr dr cs) (hm : more < N) : ∃ e, iter (fun s : Int => f_V_giveInstead_L101 F x1 x3 (more : Int) s I) F 0 = some e ∧ ((∃ l : Nat, l < N ∧ e = .inl (l : Int) ∧ I 272 l ≠ -3 ∧ gr l = gr more) ∨ (e = .inr () ∧ ∀ l, l < N → I 272 l ≠ -3 → gr l ≠ gr more)) := by
  have hN := hv.1
  refine wpo_iter (step := fun s : Int => f_V_giveInstead_L101 F x1 x3 (more : Int) s I) (Q := fun e => (∃ l : Nat, l < N ∧ e = .inl (l : Int) ∧ I 272 l ≠ -3 ∧ gr l = gr more) ∨ (e = .inr () ∧ ∀ l, l < N → I 272 l ≠ -3 → gr l ≠ gr more)) (fun s => ∃ j : Nat, j ≤ N ∧ s = (j : Int) ∧ ∀ l, l < j → I 272 l ≠ -3 → gr l ≠ gr more) (fun s => N - s.toNat) ?_ (F := F) (s := (0 : Int)) (by omega) ⟨0, by omega, rfl, fun l hl => absurd hl (by omega)⟩
  rintro x ⟨j, p1, p2, p3⟩
  subst p2
  have ew : w32 ((j : Int) + 1) = (j : Int) + 1 := w32i (by omega) (by omega)
  unfold f_V_giveInstead_L101
  rw [hv.2.2.1, ew]
  refine wpo_i (fun hc => wpo_s ?_) (fun hc => wpo_g (by omega) ?_)
  · have : j = N := by omega
    subst this
    exact Or.inr ⟨rfl, p3⟩
  have hj : j < N := by omega
  rw [Int.toNat_natCast, Int.toNat_natCast, (hv.2.2.2.2.1 j hj).1, (hv.2.2.2.2.1 more hm).1]
  refine wpo_i (fun hc2 => wpo_s ⟨⟨j + 1, by omega, by omega, fun l hl h => ?_⟩, by omega⟩) (fun hc2 => wpo_g (by omega) (wpo_i (fun hc3 => wpo_s (Or.inl ⟨j, hj, rfl, hc2, hc3⟩)) (fun hc3 => wpo_s ⟨⟨j + 1, by omega, by omega, fun l hl h => ?_⟩, by omega⟩)))
  · by_cases e : l = j
    · rw [e] at h; exact absurd hc2 h
    · exact p3 l (by omega) h
  · by_cases e : l = j
    · rw [e]; exact hc3
    · exact p3 l (by omega) h
theorem more_eq {F N n : Nat} (hF : 1000000 ≤ F) {x1 x3 : Int} {I : MI} {cap gr : Nat → Int} {dr : Nat → Nat → Int} {cs : Nat → Nat} (hv : VX I N n cap gr dr cs) : ∃ e, iter (fun s : Int => f_V_giveInstead_L77 F x1 x3 s I) F 0 = some e ∧ ((∃ m l : Nat, m < N ∧ l < N ∧ e = .inl ((m : Int), (l : Int)) ∧ I 270 m ≠ -3 ∧ I 269 m < cap m ∧ I 272 l ≠ -3 ∧ gr l = gr m) ∨ (e = .inr () ∧ ∀ m l, m < N → l < N → I 270 m ≠ -3 → I 269 m < cap m → I 272 l ≠ -3 → gr l ≠ gr m)) := by
  have hN := hv.1
  refine wpo_iter (step := fun s : Int => f_V_giveInstead_L77 F x1 x3 s I) (Q := fun e => (∃ m l : Nat, m < N ∧ l < N ∧ e = .inl ((m : Int), (l : Int)) ∧ I 270 m ≠ -3 ∧ I 269 m < cap m ∧ I 272 l ≠ -3 ∧ gr l = gr m) ∨ (e = .inr () ∧ ∀ m l, m < N → l < N → I 270 m ≠ -3 → I 269 m < cap m → I 272 l ≠ -3 → gr l ≠ gr m)) (fun s => ∃ j : Nat, j ≤ N ∧ s = (j : Int) ∧ ∀ m l, m < j → l < N → I 270 m ≠ -3 → I 269 m < cap m → I 272 l ≠ -3 → gr l ≠ gr m) (fun s => N - s.toNat) ?_ (F := F) (s := (0 : Int)) (by omega) ⟨0, by omega, rfl, fun m l hl => absurd hl (by omega)⟩
  rintro x ⟨j, p1, p2, p3⟩
  subst p2
  have ew : w32 ((j : Int) + 1) = (j : Int) + 1 := w32i (by omega) (by omega)
  unfold f_V_giveInstead_L77
  rw [hv.2.2.1, ew]
  refine wpo_i (fun hc => wpo_s ?_) (fun hc => ?_)
  · have : j = N := by omega
    subst this
    exact Or.inr ⟨rfl, p3⟩
  have hj : j < N := by omega
  rw [isFree_eq hv hj, Option.bind_some]
  by_cases g : I 270 j ≠ -3 ∧ I 269 j < cap j
  · rw [if_pos g]
    refine wpo_g (by decide) ?_
    obtain ⟨e, e1, e2⟩ := less_eq (F := F) (x1 := x1) (x3 := x3) hF hv hj
    rw [e1, Option.bind_some]
    rcases e2 with ⟨l, l1, l2, l3, l4⟩ | ⟨l2, l3⟩
    · rw [l2]
      exact wpo_s (Or.inl ⟨j, l, hj, l1, rfl, g.1, g.2, l3, l4⟩)
    · rw [l2]
      refine wpo_s ⟨⟨j + 1, by omega, by omega, fun m l hm hl h1 h2 h3 => ?_⟩, by omega⟩
      by_cases e : m = j
      · rw [e]; exact l3 l hl h3
      · exact p3 m l (by omega) hl h1 h2 h3
  · rw [if_neg g]
    refine wpo_n (by decide) (wpo_s ⟨⟨j + 1, by omega, by omega, fun m l hm hl h1 h2 h3 => ?_⟩, by omega⟩)
    by_cases e : m = j
    · rw [e] at h1 h2; exact absurd ⟨h1, h2⟩ g
    · exact p3 m l (by omega) hl h1 h2 h3
