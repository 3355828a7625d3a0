/-! fits: the model's try, and both -/
theorem M_isSo {lv k n m x y : Nat} {I J : MI} {ρ : RIV} {s : BSt} (hρ : RivOK ρ) (hr : RivM I lv ρ) (hl : I 296 18 = (lv : Int)) (hv : VOK ρ s) (hn1 : ∀ k, k < 250 → I 331 k = s.1 k) (hd : s.1 240 ≤ 800000) (hn : n ≤ 60) (hk : k ≤ 20) (hc : ∀ i, i < k → 0 ≤ I 242 i ∧ I 242 i < 96) (he : ∀ i, i < k → I 350 i = I 242 i ∧ I 351 i = I 243 i) (hm : (m : Int) < aN ρ) (hx0 : (x : Int) < aL ρ) (hy : (y : Int) < aW ρ) (hlf : 0 < man ρ m - thA s m) : ∃ v I', f_M_isSo FU (m : Int) (x : Int) (y : Int) (k : Int) (n : Int) I J = some (v, I') ∧ (v ≠ 0 ↔ fitP ρ s I m n k y x = true) ∧ FrQ I I' := by
  have hF := FU_big
  have hW := hρ.2.1
  have hL := hρ.1
  have hN := hρ.2.2.2.1
  obtain ⟨I1, e1, q1, f1⟩ := M_copyq (F := FU) (J := J) hF hv hn1
  have hr1 : RivM I1 lv ρ := rivm_congr hr (fun a b1 b2 => f1 a (by omega) (by omega))
  have hl1 : I1 296 18 = (lv : Int) := by rw [f1 296 (by decide) (by decide)]; exact hl
  obtain ⟨I2, t1, t2, t3⟩ := M_throw (F := FU) (J := J) (m := m) (x := x) (y := y) hF hρ hr1 hl1 hv q1 hm hx0 hy hlf
  have hday : (thrA ρ m x y (9 * m + (thA s m).toNat) s).1 240 = s.1 240 := by
    have h9 := thA_nn (s := s) (m := m)
    have hman := (hρ.2.2.2.2.2.2.2.1 m hm).2.2.1
    exact thr_day (by omega) (by omega) (by omega) (drift_nn hρ hm (by omega)) hL.2
  have hv2 := vok_thr hρ hv hm hx0 hy hlf
  have hr2 : RivM I2 lv ρ := rivm_congr hr1 (fun a b1 b2 => t3 a (by omega) (by omega))
  have hl2 : I2 296 18 = (lv : Int) := by rw [t3 296 (by decide) (by decide)]; exact hl1
  obtain ⟨I3, d1, d2, d2', d3⟩ := days_loop (F := FU) (n := n) (J := J) (st := fun s : Int × MI => f_M_isSo_L15 FU (k : Int) (n : Int) s.1 s.2 J) hF hρ hr2 hl2 hv2 t2 (by omega) (by omega) (fun M => by dsimp only; unfold f_M_isSo_L15; rw [if_pos (by omega)]) (fun i M hi => by
        dsimp only
        unfold f_M_isSo_L15
        rw [if_neg (by omega), w32i (by omega) (by omega)])
  have g3 : ∀ a, a ≠ 329 → a ≠ 330 → a ≠ 332 → a ≠ 333 → a ≠ 296 → I3 a = I a := fun a b1 b2 b3 b4 b5 => by rw [d3.1 a b1 b2 b3 b4 b5, t3 a b3 b4, f1 a b3 b4]
  have fr : FrQ I I3 := frQ_trans (fr32_Q (fun a b1 b2 => (t3 a b1 b2).trans (f1 a b1 b2))) (frM_Q d3)
  have key := wpo_iter (step := fun q : Int => f_M_isSo_L35 FU (k : Int) q I3 J) (Q := fun e => (e = .inl () ∧ ¬ toldP (trl ρ s m n x y).2 I k) ∨ (e = .inr () ∧ toldP (trl ρ s m n x y).2 I k)) (fun q => ∃ i : Nat, i ≤ k ∧ q = (i : Int) ∧ ∀ i', i' < i → (trl ρ s m n x y).2 (I 242 i').toNat = I 243 i') (fun q => k - q.toNat) ?_ (F := FU) (s := (0 : Int)) (by omega) ⟨0, by omega, rfl, fun i' hi' => absurd hi' (by omega)⟩
  · obtain ⟨e, ex, he⟩ := key
    unfold f_M_isSo
    rw [e1, Option.bind_some, t1, Option.bind_some]
    dsimp only
    rw [d1, Option.bind_some, ex, Option.bind_some]
    rcases he with ⟨h, h'⟩ | ⟨h, h'⟩
    · rw [h]; exact ⟨0, I3, rfl, ⟨fun g => absurd rfl g, fun g => absurd (fitP_iff.mp g) h'⟩, fr⟩
    · rw [h]; exact ⟨1, I3, rfl, ⟨fun _ => fitP_iff.mpr h', fun _ => by decide⟩, fr⟩
  rintro q ⟨i, h1, h2, h3⟩
  subst h2
  unfold f_M_isSo_L35
  refine wpo_i (fun hc1 => wpo_s (Or.inr ⟨rfl, fun i' hi' => h3 i' (by omega)⟩)) (fun hc1 => wpo_g (by omega) ?_)
  have hci := hc i (by omega)
  have hei := he i (by omega)
  rw [Int.toNat_natCast, g3 350 (by decide) (by decide) (by decide) (by decide) (by decide), g3 351 (by decide) (by decide) (by decide) (by decide) (by decide), hei.1, hei.2, w32i (by omega) (by omega), d2.2 (I 242 i).toNat (by omega)]
  refine wpo_g hci (wpo_i (fun hc2 => wpo_s ⟨⟨i + 1, by omega, by omega, fun i' hi' => ?_⟩, by omega⟩) (fun hc2 => wpo_s (Or.inl ⟨rfl, fun h => hc2 (h i (by omega))⟩)))
  by_cases e : i' = i
  · rw [e]; exact hc2
  · exact h3 i' (by omega)
theorem fitP_congr {ρ : RIV} {s : BSt} {I I' : MI} {m n k : Nat} (h2 : I' 242 = I 242) (h3 : I' 243 = I 243) : fitP ρ s I' m n k = fitP ρ s I m n k := by
  funext y x
  apply Bool.eq_iff_iff.mpr
  rw [fitP_iff, fitP_iff]
  unfold toldP
  rw [h2, h3]
def fitR (p : Nat → Nat → Bool) (i : Int) (L W : Nat) : Int := Sum.elim (fun r => r) (fun c => if ¬ i = -1 then -1 else c) (scY p i L W)
theorem X_fits {rv k n m : Nat} {i : Int} (hrv : rv = 11 ∨ rv = 30) {I : MI} {ρ : RIV} {s : BSt} (hρ : RivOK ρ) (hx : RivX I rv ρ) (hb : BedQ I 49 ρ s) (hd : s.1 240 ≤ 800000) (hn : n ≤ 60) (hk : k ≤ 20) (hc : ∀ i, i < k → (0 ≤ I 242 i ∧ I 242 i < 96) ∧ ((((I 242 i).toNat / 12 : Nat)) : Int) < aW ρ) (hm : (m : Int) < aN ρ) (hl : 0 < man ρ m - thA s m) : ∃ wr I1 e, f_X_rowsWrongWithout FU (k : Int) (n : Int) rv I = some (wr, I1) ∧ iter (fun s : Int × Int × MI => f_X_fits_L69 FU (m : Int) (k : Int) (n : Int) i wr s.1 s.2.1 rv s.2.2) FU (0, 0, I1) = some e ∧ ((∃ (y x : Nat) (N : MI), y < (aW ρ).toNat ∧ x < (aL ρ).toNat ∧ FrX rv I N ∧ e = .inl ((y : Int), (x : Int), N) ∧ scY (fitP ρ s I m n k) i (aL ρ).toNat (aW ρ).toNat = .inl ((100 * y + x : Nat) : Int)) ∨ (∃ (c : Int) (N : MI), FrX rv I N ∧ e = .inr (c, N) ∧ scY (fitP ρ s I m n k) i (aL ρ).toNat (aW ρ).toNat = .inr c)) := by
  have hF := FU_big
  have hW := hρ.2.1
  have hL := hρ.1
  have hN := hρ.2.2.2.1
  have hst : 9 * m + (thA s m).toNat < 72 := by
    have h9 := thA_nn (s := s) (m := m)
    have hman := (hρ.2.2.2.2.2.2.2.1 m hm).2.2.1
    omega
  obtain ⟨I1, e1, f1⟩ := X_wrong (rv := rv) (k := k) (n := n) hrv hρ hx hb (by omega) hn hk (fun i hi => (hc i hi).1)
  have riv : ∀ M, FrX rv I M → RivX M rv ρ := fun M h => rivx_congr hx (fun a b1 b2 b3 b4 => by
    by_cases q : a = rv + 12 ∨ a = rv + 13 ∨ a = rv + 17 ∨ a = rv + 18
    · omega
    · exact h a (by unfold scrX; omega))
  have bed : ∀ M, FrX rv I M → BedQ M 49 ρ s := fun M h => bedq_congr hb (fun a b1 b2 => h a (by unfold scrX; omega))
  have sc := scan_y (F := FU) (W := (aW ρ).toNat) (L := (aL ρ).toNat) (p := fitP ρ s I m n k) (i := i) (Inv := FrX rv I) (M0 := I1) (st := fun q : Int × Int × MI => f_X_fits_L69 FU (m : Int) (k : Int) (n : Int) i (foldB (wrgP ρ s I n k) (aW ρ).toNat) q.1 q.2.1 rv q.2.2) hF (by omega) (by omega) f1 (fun c M hM => by
    dsimp only
    unfold f_X_fits_L69
    rw [if_pos (by rw [(riv M hM).2.1]; omega)]) (fun c y M hy hM hcb => by
    dsimp only
    unfold f_X_fits_L69
    rw [if_neg (by rw [(riv M hM).2.1]; omega)]
    by_cases g : and32 (foldB (wrgP ρ s I n k) (aW ρ).toNat) (xor32 (shl32 1 (y : Int)) (-1)) = 0
    · rw [if_pos g]
      have g' := (only_row (by omega) hy).mp g
      obtain ⟨e, ex, he⟩ := scan_x (F := FU) (y := y) (L := (aL ρ).toNat) (p := fitP ρ s I m n k) (i := i) (c0 := c) (Inv := FrX rv I) (M0 := M) (st := fun s' : Int × Int × MI => f_X_fits_L99 FU (m : Int) (k : Int) (n : Int) i (foldB (wrgP ρ s I n k) (aW ρ).toNat) s'.1 (y : Int) s'.2.1 rv s'.2.2) hF (by omega) hcb hM (fun c M hM => by
        dsimp only
        unfold f_X_fits_L99
        rw [if_pos (by rw [(riv M hM).1]; omega)]) (fun c x M hx' hM => by
        dsimp only
        have g242 : M 242 = I 242 := hM 242 (by unfold scrX; omega)
        have g243 : M 243 = I 243 := hM 243 (by unfold scrX; omega)
        obtain ⟨v, M', ev, hv, fv⟩ := X_fitsAt (rv := rv) (k := k) (n := n) (m := m) (x := x) (y := y) hrv hρ (riv M hM) (bed M hM) (by omega) hn hk (fun i hi => by rw [g242]; exact (hc i hi).1) hm (by omega) (by omega) hl
        refine ⟨v, M', frX_trans hM fv, ?_, ?_⟩
        · rw [hv, toldR_congr (fun _ _ => rfl) g242 g243 (fun i hi => (hc i hi).1), fit_rows hρ hm (by omega) (by omega) hst (fun i hi => ⟨(hc i hi).1.2, (hc i hi).2⟩)]
          exact ⟨fun h => ⟨h, g'⟩, fun h => h.1⟩
        · unfold f_X_fits_L99
          rw [if_neg (by rw [(riv M hM).1]; omega), ev, Option.bind_some])
      rw [ex, Option.bind_some]
      rcases he with ⟨x, N, h1, h2, h3, h4⟩ | ⟨c', N, h2, h3, h4⟩
      · rw [h3]; exact Or.inl ⟨x, N, h1, h2, rfl, h4⟩
      · rw [h3]; exact Or.inr ⟨c', N, h2, rfl, h4⟩
    · rw [if_neg g]
      refine Or.inr ⟨c, M, hM, rfl, scX_skip (fun x hx' => ?_)⟩
      rw [← Bool.not_eq_true, fit_rows hρ hm (by omega) (by omega) hst (fun i hi => ⟨(hc i hi).1.2, (hc i hi).2⟩)]
      exact fun h => g ((only_row (by omega) hy).mpr h.2))
  obtain ⟨e, ex, he⟩ := sc
  have hWn : ((aW ρ).toNat : Int) = aW ρ := by omega
  exact ⟨_, I1, e, e1, ex, he⟩
theorem M_fits {lv k n m : Nat} {i : Int} {I J : MI} {ρ : RIV} {s : BSt} (hρ : RivOK ρ) (hr : RivM I lv ρ) (hl : I 296 18 = (lv : Int)) (hv : VOK ρ s) (hn1 : ∀ k, k < 250 → I 331 k = s.1 k) (hd : s.1 240 ≤ 800000) (hn : n ≤ 60) (hk : k ≤ 20) (hc : ∀ i, i < k → 0 ≤ I 242 i ∧ I 242 i < 96) (hE : ∀ i, i < k → I 350 i = I 242 i ∧ I 351 i = I 243 i) (hm : (m : Int) < aN ρ) (hlf : 0 < man ρ m - thA s m) : ∃ e, iter (fun s : Int × Int × MI => f_M_fits_L44 FU (m : Int) (k : Int) (n : Int) i s.1 s.2.1 s.2.2 J) FU (0, 0, I) = some e ∧ ((∃ (y x : Nat) (N : MI), y < (aW ρ).toNat ∧ x < (aL ρ).toNat ∧ FrQ I N ∧ e = .inl ((y : Int), (x : Int), N) ∧ scY (fitP ρ s I m n k) i (aL ρ).toNat (aW ρ).toNat = .inl ((100 * y + x : Nat) : Int)) ∨ (∃ (c : Int) (N : MI), FrQ I N ∧ e = .inr (c, N) ∧ scY (fitP ρ s I m n k) i (aL ρ).toNat (aW ρ).toNat = .inr c)) := by
  have hF := FU_big
  have hW := hρ.2.1
  have hL := hρ.1
  have riv : ∀ M, FrQ I M → RivM M lv ρ ∧ M 296 18 = (lv : Int) := fun M h => ⟨rivm_congr hr (fun a b1 b2 => h.1 a (by unfold scrM; omega) (by omega)), by rw [h.2 18 (by decide) (by decide)]; exact hl⟩
  have hlv : lv < 2 := hr.1
  refine scan_y (F := FU) (W := (aW ρ).toNat) (L := (aL ρ).toNat) (p := fitP ρ s I m n k) (i := i) (Inv := FrQ I) (M0 := I) (st := fun s : Int × Int × MI => f_M_fits_L44 FU (m : Int) (k : Int) (n : Int) i s.1 s.2.1 s.2.2 J) hF (by omega) (by omega) frQ_refl (fun c M hM => ?_) (fun c y M hy hM hcb => ?_)
  · have h := riv M hM
    dsimp only
    unfold f_M_fits_L44
    rw [if_pos (by rw [h.2]; omega), h.2, Int.toNat_natCast, if_pos (by rw [h.1.2.2.1]; omega)]
  · have h := riv M hM
    dsimp only
    unfold f_M_fits_L44
    rw [if_pos (by rw [h.2]; omega), h.2, Int.toNat_natCast, if_neg (by rw [h.1.2.2.1]; omega)]
    obtain ⟨e, ex, he⟩ := scan_x (F := FU) (y := y) (L := (aL ρ).toNat) (p := fitP ρ s I m n k) (i := i) (c0 := c) (Inv := FrQ I) (M0 := M) (st := fun s' : Int × Int × MI => f_M_fits_L61 FU (m : Int) (k : Int) (n : Int) i s'.1 (y : Int) s'.2.1 s'.2.2 J) hF (by omega) hcb hM (fun c M hM => by
      have h := riv M hM
      dsimp only
      unfold f_M_fits_L61
      rw [if_pos (by rw [h.2]; omega), h.2, Int.toNat_natCast, if_pos (by rw [h.1.2.1]; omega)]) (fun c x M hx' hM => by
      have h := riv M hM
      dsimp only
      have gg : ∀ a, (242 ≤ a ∧ a ≤ 243) ∨ (350 ≤ a ∧ a ≤ 351) ∨ a = 331 → M a = I a := fun a ha => hM.1 a (by unfold scrM; omega) (by omega)
      obtain ⟨v, M', ev, hv', fv⟩ := M_isSo (J := J) (k := k) (n := n) (m := m) (x := x) (y := y) hρ h.1 h.2 hv (fun k hk => by rw [gg 331 (by omega)]; exact hn1 k hk) hd hn hk (fun i hi => by rw [gg 242 (by omega)]; exact hc i hi) (fun i hi => by rw [gg 242 (by omega), gg 243 (by omega), gg 350 (by omega), gg 351 (by omega)]; exact hE i hi) hm (by omega) (by omega) hlf
      rw [fitP_congr (gg 242 (by omega)) (gg 243 (by omega))] at hv'
      refine ⟨v, M', frQ_trans hM fv, hv', ?_⟩
      unfold f_M_fits_L61
      rw [if_pos (by rw [h.2]; omega), h.2, Int.toNat_natCast, if_neg (by rw [h.1.2.1]; omega), ev, Option.bind_some])
    rw [ex, Option.bind_some]
    rcases he with ⟨x, N, h1, h2, h3, h4⟩ | ⟨c', N, h2, h3, h4⟩
    · rw [h3]; exact Or.inl ⟨x, N, h1, h2, rfl, h4⟩
    · rw [h3]; exact Or.inr ⟨c', N, h2, rfl, h4⟩
def hid (P : Prop) : Prop := P
theorem ag_fits (j : Nat) (hj : j < 512) : ag_22 (InvQ j) (InvQ (j + 1)) := by
  intro I J rv sp x1 x2 x3 x4 hrr hss hI _ _ _ _
  have hF := FU_big
  have hI0 := hI
  obtain ⟨ρ, s, lv, hp, hρ, hx, hm, hl, hb, hn, hd, ht, hpl, hpa, hs, htl, hk⟩ := hI
  have hp' := hp
  unfold isPair at hp'
  have hN := hρ.2.2.2.1
  have hL := hρ.1
  have hW := hρ.2.1
  obtain ⟨td, t1, t2, t3, t4⟩ := htl
  have can : ∀ I2 : MI, (∀ a, 275 ≤ a → I2 a = I a) → ∃ M1, f_M_canThrow FU x1 I2 J = some ((if 0 ≤ x1 ∧ x1 < aN ρ then mayA ρ s x1.toNat else 0), M1) ∧ ∀ a, a ≠ 332 → a ≠ 333 → M1 a = I2 a := fun I2 h2 => by
    obtain ⟨M1, c1, _, c3⟩ := M_can (F := FU) (m := x1) (I := I2) (J := J) hF hρ (rivm_congr hm (fun a b1 b2 => h2 a (by omega))) (by rw [h2 296 (by omega)]; exact hl) hb.1 (fun k hk => by rw [h2 331 (by omega)]; exact hn k hk)
    exact ⟨M1, c1, c3⟩
  obtain ⟨M1, c1, c3⟩ := can I (fun _ _ => rfl)
  have hno : f_X_fits FU x1 x2 x3 x4 rv I = some (-1, I) → f_M_fits FU x1 x2 x3 x4 I J = some (-1, M1) → ∃ rx rm, f_X_fits FU x1 x2 x3 x4 rv I = some rx ∧ f_M_fits FU x1 x2 x3 x4 rx.2 J = some rm ∧ rx.1 = rm.1 ∧ InvQ (j + 1) rm.2 J rv sp ∧ isRiv rv ∧ isRiv sp := fun e1 e2 =>
    ag_mk (fm := fun M => f_M_fits FU x1 x2 x3 x4 M J) (V := fun M => InvQ (j + 1) M J rv sp) e1 e2 (invq_keep hI0 frX_refl (fr32_Q c3)) hrr hss
  by_cases hlv : 0 ≤ x1 ∧ x1 < aN ρ
  rotate_left
  · refine hno ?_ ?_
    · unfold f_X_fits
      rw [X_isLeaver, if_neg (by rw [hx.2.2.2.1]; exact hlv), Option.bind_some, if_pos rfl]
    · unfold f_M_fits
      rw [c1, Option.bind_some, if_neg hlv, if_pos rfl]
  obtain ⟨m, rfl⟩ : ∃ m : Nat, x1 = (m : Int) := ⟨x1.toNat, by omega⟩
  rw [if_pos hlv, Int.toNat_natCast] at c1
  have emay := may_eq (F := FU) (b := 49) hρ hx hb.1 (hb.2.1.2.2.2.2.2.2.1 m (by omega)) hb.2.2 hlv.2
  rcases mayA_01 (ρ := ρ) (s := s) (m := m) with h0 | ⟨h1, hleft⟩
  · rw [h0] at c1 emay
    refine hno ?_ ?_
    · unfold f_X_fits
      rw [X_isLeaver, if_pos (by rw [hx.2.2.2.1]; exact hlv), Option.bind_some, if_neg (by decide), emay, Option.bind_some, if_neg (by decide)]
    · unfold f_M_fits
      rw [c1, Option.bind_some, if_pos rfl]
  rw [h1] at c1 emay
  have ex0 : f_X_fits FU (m : Int) x2 x3 x4 rv I = (if x2 < 0 then (some ((-1), I)) else (if (I 1 12) < x2 then (some ((-1), I)) else (if x3 < 0 then (some ((-1), I)) else (if 60 < x3 then (some ((-1), I)) else (if (-1) ≤ x4 then ((f_X_rowsWrongWithout FU x2 x3 rv I).bind fun q15 => ((iter (fun s : Int × Int × MI => f_X_fits_L69 FU (m : Int) x2 x3 x4 q15.1 s.1 s.2.1 rv s.2.2) FU (0, 0, q15.2)).bind fun e34 => (match e34 with | .inl e36 => ((f_X_cellNumber FU e36.2.1 e36.1 e36.2.2).bind fun q39 => ((f_X_cellName FU q39 e36.2.2).bind fun q42 => (some (q42, e36.2.2)))) | .inr o37 => (if ¬ x4 = (-1) then (some ((-1), o37.2)) else (some (o37.1, o37.2)))))) else (some ((-1), I))))))) := by
    unfold f_X_fits
    rw [X_isLeaver, if_pos (by rw [hx.2.2.2.1]; exact hlv), Option.bind_some, if_neg (by decide), emay, Option.bind_some, if_pos (by decide)]
    rfl
  have em0 : ∀ (N N1 : MI), f_M_canThrow FU (m : Int) N J = some (1, N1) → f_M_fits FU (m : Int) x2 x3 x4 N J = (if (if 0 ≤ x2 ∧ x2 ≤ N1 296 76 then (1 : Int) else 0) = 0 then (some ((-1), N1)) else (if (if 0 ≤ x3 ∧ x3 ≤ 60 then (1 : Int) else 0) = 0 then (some ((-1), N1)) else (if (-1) ≤ x4 then ((iter (fun s : Int × Int × MI => f_M_fits_L44 FU (m : Int) x2 x3 x4 s.1 s.2.1 s.2.2 J) FU (0, 0, N1)).bind fun e32 => (match e32 with | .inl e34 => (some ((w32 ((w32 (100 * e34.1)) + e34.2.1)), e34.2.2)) | .inr o35 => (if ¬ x4 = (-1) then (some ((-1), o35.2)) else (some (o35.1, o35.2))))) else (some ((-1), N1))))) := fun N N1 h => by
    unfold f_M_fits
    rw [h, Option.bind_some, if_neg (show ¬ (1 : Int) = 0 by decide), M_in, Option.bind_some, M_in, Option.bind_some]
    rfl
  have m76 : M1 296 76 = (td : Int) := by rw [c3 296 (by decide) (by decide)]; exact t3
  by_cases h2 : 0 ≤ x2 ∧ x2 ≤ (td : Int)
  rotate_left
  · refine hno ?_ ?_
    · rw [ex0, t2]
      by_cases g : x2 < 0
      · rw [if_pos g]
      · rw [if_neg g, if_pos (by omega)]
    · rw [em0 I M1 c1, m76, if_neg h2, if_pos rfl]
  by_cases h3 : 0 ≤ x3 ∧ x3 ≤ 60
  rotate_left
  · refine hno ?_ ?_
    · rw [ex0, t2, if_neg (by omega), if_neg (by omega)]
      by_cases g : x3 < 0
      · rw [if_pos g]
      · rw [if_neg g, if_pos (by omega)]
    · rw [em0 I M1 c1, m76, if_pos h2, if_neg (show ¬ (1 : Int) = 0 by decide), if_neg h3, if_pos rfl]
  by_cases h4 : -1 ≤ x4
  rotate_left
  · refine hno ?_ ?_
    · rw [ex0, t2, if_neg (by omega), if_neg (by omega), if_neg (by omega), if_neg (by omega), if_neg h4]
    · rw [em0 I M1 c1, m76, if_pos h2, if_neg (show ¬ (1 : Int) = 0 by decide), if_pos h3, if_neg (show ¬ (1 : Int) = 0 by decide), if_neg h4]
  obtain ⟨k, rfl⟩ : ∃ k : Nat, x2 = (k : Int) := ⟨x2.toNat, by omega⟩
  obtain ⟨n, rfl⟩ : ∃ n : Nat, x3 = (n : Int) := ⟨x3.toNat, by omega⟩
  have hcs : ∀ i, i < k → (0 ≤ I 242 i ∧ I 242 i < 96) ∧ ((((I 242 i).toNat / 12 : Nat)) : Int) < aW ρ := fun i hi => by
    obtain ⟨⟨c, g1, g2, g3, g4, g5⟩, g6⟩ := t4 i (by omega)
    rw [g2, Int.toNat_natCast]
    exact ⟨⟨by omega, by omega⟩, g5⟩
  have hes : ∀ i, i < k → I 350 i = I 242 i ∧ I 351 i = I 243 i := fun i hi => by
    obtain ⟨⟨c, g1, g2, g3, g4, g5⟩, g6⟩ := t4 i (by omega)
    exact ⟨by rw [g2, g3], g6.symm⟩
  obtain ⟨wr, I1, e, r1, r2, r3⟩ := X_fits (rv := rv) (k := k) (n := n) (m := m) (i := x4) (by omega) hρ hx hb (by omega) (by omega) (by omega) hcs hlv.2 hleft
  replace r3 : hid _ := r3
  have exx : ∃ N, FrX rv I N ∧ f_X_fits FU (m : Int) (k : Int) (n : Int) x4 rv I = some (fitR (fitP ρ s I m n k) x4 (aL ρ).toNat (aW ρ).toNat, N) := by
    rw [ex0, t2, if_neg (by omega), if_neg (by omega), if_neg (by omega), if_neg (by omega), if_pos h4, r1, Option.bind_some]
    dsimp only
    rw [r2, Option.bind_some]
    unfold fitR
    unfold hid at r3
    rcases r3 with ⟨y, x, N, g1, g2, g3, g4, g5⟩ | ⟨c, N, g3, g4, g5⟩
    · rw [g4, g5]
      refine ⟨N, g3, ?_⟩
      dsimp only
      rw [cnum_eq (by omega) (by omega), Option.bind_some, cname_eq (by omega), Option.bind_some]
      show some (_, N) = some (_, N)
      congr 2
      simp only [Sum.elim_inl]
      omega
    · rw [g4, g5]
      refine ⟨N, g3, ?_⟩
      dsimp only [Sum.elim_inr]
      by_cases g : ¬ x4 = -1
      · rw [if_pos g, if_pos g]
      · rw [if_neg g, if_neg g]
  clear r3
  obtain ⟨I3, frx, exx⟩ := exx
  have g3 : ∀ a, 275 ≤ a → I3 a = I a := fun a ha => frx a (by unfold scrX; omega)
  obtain ⟨N1, d1, d3⟩ := can I3 g3
  rw [if_pos hlv, Int.toNat_natCast, h1] at d1
  have n76 : N1 296 76 = (td : Int) := by rw [d3 296 (by decide) (by decide), g3 296 (by omega)]; exact t3
  have q242 : N1 242 = I 242 := by rw [d3 242 (by decide) (by decide), frx 242 (by unfold scrX; omega)]
  have q243 : N1 243 = I 243 := by rw [d3 243 (by decide) (by decide), frx 243 (by unfold scrX; omega)]
  obtain ⟨e', s2, s3⟩ := M_fits (lv := lv) (k := k) (n := n) (m := m) (i := x4) (I := N1) (J := J) (s := s) hρ (rivm_congr hm (fun a b1 b2 => by rw [d3 a (by omega) (by omega), g3 a (by omega)])) (by rw [d3 296 (by decide) (by decide), g3 296 (by omega)]; exact hl) hb.1 (fun k hk => by rw [d3 331 (by decide) (by decide), g3 331 (by omega)]; exact hn k hk) (by omega) (by omega) (by omega) (fun i hi => by rw [q242]; exact (hcs i hi).1) (fun i hi => by rw [q242, q243, d3 350 (by decide) (by decide), g3 350 (by omega), d3 351 (by decide) (by decide), g3 351 (by omega)]; exact hes i hi) hlv.2 hleft
  rw [fitP_congr q242 q243] at s3
  replace s3 : hid _ := s3
  have emm : ∃ N, FrQ N1 N ∧ f_M_fits FU (m : Int) (k : Int) (n : Int) x4 I3 J = some (fitR (fitP ρ s I m n k) x4 (aL ρ).toNat (aW ρ).toNat, N) := by
    rw [em0 I3 N1 d1, n76, if_pos h2, if_neg (show ¬ (1 : Int) = 0 by decide), if_pos h3, if_neg (show ¬ (1 : Int) = 0 by decide), if_pos h4, s2, Option.bind_some]
    unfold fitR
    unfold hid at s3
    rcases s3 with ⟨y, x, N, g1, g2, g3, g4, g5⟩ | ⟨c, N, g3, g4, g5⟩
    · rw [g4, g5]
      refine ⟨N, g3, ?_⟩
      dsimp only
      rw [w32i (x := 100 * (y : Int)) (by omega) (by omega), w32i (by omega) (by omega)]
      congr 2
    · rw [g4, g5]
      refine ⟨N, g3, ?_⟩
      dsimp only [Sum.elim_inr]
      by_cases g : ¬ x4 = -1
      · rw [if_pos g, if_pos g]
      · rw [if_neg g, if_neg g]
  obtain ⟨N, frn, emm⟩ := emm
  exact ag_mk (fm := fun M => f_M_fits FU (m : Int) (k : Int) (n : Int) x4 M J) (V := fun M => InvQ (j + 1) M J rv sp) exx emm (invq_keep hI0 frx (frQ_trans (fr32_Q d3) frn)) hrr hss
