/-! fits: the scans -/
theorem scan_x {F y L : Nat} {p : Nat → Nat → Bool} {i c0 : Int} {Inv : MI → Prop} {st : Int × Int × MI → Option (((Int × MI) ⊕ (Int × MI)) ⊕ (Int × Int × MI))} {M0 : MI} (hF : 1000000 ≤ F) (hL : L ≤ 12) (h0 : 0 ≤ c0 ∧ c0 ≤ 1000) (hM : Inv M0) (hend : ∀ c M, Inv M → st (c, (L : Int), M) = some (.inl (.inr (c, M)))) (hst : ∀ c (x : Nat) M, x < L → Inv M → ∃ v M', Inv M' ∧ (v ≠ 0 ↔ p y x = true) ∧ st (c, (x : Int), M) = if ¬ v = (0 : Int) then (if ¬ c = i then some (.inr (w32 (c + 1), w32 ((x : Int) + 1), M')) else some (.inl (.inl ((x : Int), M')))) else some (.inr (c, w32 ((x : Int) + 1), M'))) : ∃ e, iter st F (c0, 0, M0) = some e ∧ ((∃ (x : Nat) (N : MI), x < L ∧ Inv N ∧ e = .inl ((x : Int), N) ∧ scX p i y (.inr c0) L = .inl ((100 * y + x : Nat) : Int)) ∨ (∃ (c : Int) (N : MI), Inv N ∧ e = .inr (c, N) ∧ scX p i y (.inr c0) L = .inr c)) := by
  refine wpo_iter (step := st) (Q := fun (e : (Int × MI) ⊕ (Int × MI)) => (∃ (x : Nat) (N : MI), x < L ∧ Inv N ∧ e = .inl ((x : Int), N) ∧ scX p i y (.inr c0) L = .inl ((100 * y + x : Nat) : Int)) ∨ (∃ (c : Int) (N : MI), Inv N ∧ e = .inr (c, N) ∧ scX p i y (.inr c0) L = .inr c)) (fun (q : Int × Int × MI) => ∃ x : Nat, x ≤ L ∧ q.2.1 = (x : Int) ∧ Inv q.2.2 ∧ scX p i y (.inr c0) x = .inr q.1) (fun (q : Int × Int × MI) => L - q.2.1.toNat) ?_ (by dsimp only; omega) ⟨0, by omega, rfl, hM, rfl⟩
  rintro ⟨c, q, N⟩ ⟨x, h1, h2, h3, h4⟩
  dsimp only at h2 h3 h4 ⊢
  subst h2
  by_cases e : x = L
  · subst e
    rw [hend c N h3]
    exact wpo_s (Or.inr ⟨c, N, h3, rfl, h4⟩)
  have hb := scX_b h4
  obtain ⟨v, M', g1, g2, g3⟩ := hst c x N (by omega) h3
  rw [g3]
  have es : scX p i y (.inr c0) (x + 1) = if p y x then (if c = i then Sum.inl (((100 * y + x : Nat)) : Int) else Sum.inr (c + 1)) else Sum.inr c := by
    show Sum.elim _ _ (scX p i y (.inr c0) x) = _
    rw [h4]; rfl
  rw [w32i (x := (x : Int) + 1) (by omega) (by omega)]
  refine wpo_i (fun hv => wpo_i (fun hc => wpo_s ?_) (fun hc => wpo_s ?_)) (fun hv => wpo_s ?_)
  · rw [if_pos (g2.mp hv), if_neg hc] at es
    refine ⟨⟨x + 1, by omega, by dsimp only; omega, g1, ?_⟩, by dsimp only; omega⟩
    dsimp only
    rw [es, w32i (by omega) (by omega)]
  · rw [if_pos (g2.mp hv), if_pos (by omega)] at es
    refine Or.inl ⟨x, M', by omega, g1, rfl, ?_⟩
    have := scX_inl es (L - (x + 1))
    rw [show x + 1 + (L - (x + 1)) = L by omega] at this
    exact this
  · rw [if_neg (fun h => hv (g2.mpr h))] at es
    exact ⟨⟨x + 1, by omega, by dsimp only; omega, g1, es⟩, by dsimp only; omega⟩
theorem scan_y {F W L : Nat} {p : Nat → Nat → Bool} {i : Int} {Inv : MI → Prop} {st : Int × Int × MI → Option (((Int × Int × MI) ⊕ (Int × MI)) ⊕ (Int × Int × MI))} {M0 : MI} (hF : 1000000 ≤ F) (hW : W ≤ 8) (hL : L ≤ 12) (hM : Inv M0) (hend : ∀ c M, Inv M → st (c, (W : Int), M) = some (.inl (.inr (c, M)))) (hst : ∀ c (y : Nat) M, y < W → Inv M → 0 ≤ c ∧ c ≤ 1000 → (∃ (x : Nat) (N : MI), x < L ∧ Inv N ∧ st (c, (y : Int), M) = some (.inl (.inl ((y : Int), (x : Int), N))) ∧ scX p i y (.inr c) L = .inl ((100 * y + x : Nat) : Int)) ∨ (∃ (c' : Int) (N : MI), Inv N ∧ st (c, (y : Int), M) = some (.inr (c', w32 ((y : Int) + 1), N)) ∧ scX p i y (.inr c) L = .inr c')) : ∃ e, iter st F (0, 0, M0) = some e ∧ ((∃ (y x : Nat) (N : MI), y < W ∧ x < L ∧ Inv N ∧ e = .inl ((y : Int), (x : Int), N) ∧ scY p i L W = .inl ((100 * y + x : Nat) : Int)) ∨ (∃ (c : Int) (N : MI), Inv N ∧ e = .inr (c, N) ∧ scY p i L W = .inr c)) := by
  refine wpo_iter (step := st) (Q := fun (e : (Int × Int × MI) ⊕ (Int × MI)) => (∃ (y x : Nat) (N : MI), y < W ∧ x < L ∧ Inv N ∧ e = .inl ((y : Int), (x : Int), N) ∧ scY p i L W = .inl ((100 * y + x : Nat) : Int)) ∨ (∃ (c : Int) (N : MI), Inv N ∧ e = .inr (c, N) ∧ scY p i L W = .inr c)) (fun (q : Int × Int × MI) => ∃ y : Nat, y ≤ W ∧ q.2.1 = (y : Int) ∧ Inv q.2.2 ∧ scY p i L y = .inr q.1) (fun (q : Int × Int × MI) => W - q.2.1.toNat) ?_ (by dsimp only; omega) ⟨0, by omega, rfl, hM, rfl⟩
  rintro ⟨c, q, N⟩ ⟨y, h1, h2, h3, h4⟩
  dsimp only at h2 h3 h4 ⊢
  subst h2
  by_cases e : y = W
  · subst e
    rw [hend c N h3]
    exact wpo_s (Or.inr ⟨c, N, h3, rfl, h4⟩)
  have hb := scY_b h4
  have hb2 : (L : Int) * (y : Int) ≤ 96 := by
    have : L * y ≤ 12 * 8 := Nat.mul_le_mul hL (by omega)
    have h9 : ((L * y : Nat) : Int) = (L : Int) * (y : Int) := Int.natCast_mul L y
    omega
  rcases hst c y N (by omega) h3 (by omega) with ⟨x, M', g0, g1, g2, g3⟩ | ⟨c', M', g1, g2, g3⟩
  · rw [g2]
    refine wpo_s (Or.inl ⟨y, x, M', by omega, g0, g1, rfl, ?_⟩)
    have es : scY p i L (y + 1) = .inl ((100 * y + x : Nat) : Int) := by
      show scX p i y (scY p i L y) L = _
      rw [h4]; exact g3
    have := scY_inl es (W - (y + 1))
    rw [show y + 1 + (W - (y + 1)) = W by omega] at this
    exact this
  · rw [g2, w32i (by omega) (by omega)]
    refine wpo_s ⟨⟨y + 1, by omega, by dsimp only; omega, g1, ?_⟩, by dsimp only; omega⟩
    show scX p i y (scY p i L y) L = _
    rw [h4]; exact g3
theorem toldR_congr {H H' : Nat → Int} {I I' : MI} {k y : Nat} (h : ∀ c, c < 96 → H' c = H c) (h2 : I' 242 = I 242) (h3 : I' 243 = I 243) (hc : ∀ i, i < k → 0 ≤ I 242 i ∧ I 242 i < 96) : toldR H' I' k y ↔ toldR H I k y := by
  unfold toldR
  rw [h2, h3]
  constructor
  · intro g i hi hy
    rw [← h _ (by have := hc i hi; omega)]; exact g i hi hy
  · intro g i hi hy
    rw [h _ (by have := hc i hi; omega)]; exact g i hi hy
theorem X_wrong {rv k n : Nat} (hrv : rv = 11 ∨ rv = 30) {I : MI} {ρ : RIV} {s : BSt} (hρ : RivOK ρ) (hx : RivX I rv ρ) (hb : BedQ I 49 ρ s) (hd : s.1 240 ≤ 900000) (hn : n ≤ 60) (hk : k ≤ 20) (hc : ∀ i, i < k → 0 ≤ I 242 i ∧ I 242 i < 96) : ∃ I', f_X_rowsWrongWithout FU (k : Int) (n : Int) rv I = some (foldB (wrgP ρ s I n k) (aW ρ).toNat, I') ∧ FrX rv I I' := by
  have hF := FU_big
  have hW := hρ.2.1
  obtain ⟨I1, e1, q1, f1⟩ := copy_eq (F := FU) (r0 := 56) (r1 := 49) hb (by omega)
  have hx1 : RivX I1 rv ρ := rivx_congr hx (fun a b1 b2 b3 b4 => f1 a (by omega))
  obtain ⟨I2, e2, q2, f2⟩ := passDays_eq (F := FU) (b := 56) (rv := rv) (a := 0) (w := (aW ρ).toNat) (n := n) hF ⟨Or.inr rfl, by omega⟩ hρ hx1 q1 (by omega) (by omega) (by omega)
  have hx2 : RivX I2 rv ρ := rivx_fr ⟨Or.inr rfl, by omega⟩ hx1 f2
  have e2' : f_B_passDays FU 56 rv (n : Int) 0 (I1 rv 1) I1 = some I2 := by
    rw [hx1.2.1, show aW ρ = ((0 + (aW ρ).toNat : Nat) : Int) by omega]
    exact e2
  have g242 : I2 242 = I 242 := by rw [f2 242 (by omega) (by omega) (by omega) (by omega) (by omega), f1 242 (by omega)]
  have g243 : I2 243 = I 243 := by rw [f2 243 (by omega) (by omega) (by omega) (by omega) (by omega), f1 243 (by omega)]
  refine ⟨I2, ?_, fun a ha => by unfold scrX at ha; rw [f2 a (by omega) (by omega) (by omega) (by omega) (by omega), f1 a (by omega)]⟩
  unfold f_X_rowsWrongWithout
  rw [e1, Option.bind_some, e2', Option.bind_some]
  rw [iter_eq (e := foldB (wrgP ρ s I n k) (aW ρ).toNat) (fun q => ∃ y : Nat, y ≤ (aW ρ).toNat ∧ q.2 = (y : Int) ∧ q.1 = foldB (wrgP ρ s I n k) y) (fun q => (aW ρ).toNat - q.2.toNat) ?_ (by dsimp only; omega) ⟨0, by omega, rfl, rfl⟩]
  · rfl
  rintro ⟨v, q⟩ ⟨y, h1, h2, h3⟩
  dsimp only at h2 h3 ⊢
  subst h2
  subst h3
  unfold f_X_rowsWrongWithout_L36
  rw [hx2.2.1]
  refine wpo_i (fun hc1 => wpo_s ?_) (fun hc1 => ?_)
  · show foldB _ y = foldB _ _
    rw [show y = (aW ρ).toNat by omega]
  obtain ⟨w, ew, hw⟩ := so_eq (F := FU) (k := k) (y := y) (I := I2) hF hk (fun i hi => by rw [g242]; exact hc i hi)
  rw [ew, Option.bind_some, w32i (by omega) (by omega)]
  have hw2 : w ≠ 0 ↔ ¬ wrgP ρ s I n k y = true := by
    rw [hw, wrgP_iff, toldR_congr (fun c hc' => q2.2.1.1 c hc') g242 g243 hc]
    exact ⟨fun h g => g h, fun h => Classical.byContradiction h⟩
  have ef : foldB (wrgP ρ s I n k) (y + 1) = if wrgP ρ s I n k y = true then or32 (foldB (wrgP ρ s I n k) y) (shl32 1 (y : Int)) else foldB (wrgP ρ s I n k) y := rfl
  refine wpo_i (fun hc2 => wpo_s ⟨⟨y + 1, by omega, rfl, ?_⟩, by dsimp only; omega⟩) (fun hc2 => wpo_s ⟨⟨y + 1, by omega, rfl, ?_⟩, by dsimp only; omega⟩) <;> dsimp only
  · rw [ef, if_neg (hw2.mp hc2)]
  · rw [ef, if_pos (Classical.byContradiction fun g => hc2 (hw2.mpr g))]
theorem X_fitsAt {rv k n m x y : Nat} (hrv : rv = 11 ∨ rv = 30) {I : MI} {ρ : RIV} {s : BSt} (hρ : RivOK ρ) (hx : RivX I rv ρ) (hb : BedQ I 49 ρ s) (hd : s.1 240 ≤ 900000) (hn : n ≤ 60) (hk : k ≤ 20) (hc : ∀ i, i < k → 0 ≤ I 242 i ∧ I 242 i < 96) (hm : (m : Int) < aN ρ) (hx0 : (x : Int) < aL ρ) (hy : (y : Int) < aW ρ) (hl : 0 < man ρ m - thA s m) : ∃ v I', f_X_fitsAt FU (m : Int) (x : Int) (y : Int) (k : Int) (n : Int) rv I = some (v, I') ∧ (v ≠ 0 ↔ toldR (daysA ρ y 1 n (thrA ρ m x y (9 * m + (thA s m).toNat) s)).2 I k y) ∧ FrX rv I I' := by
  have hF := FU_big
  have hW := hρ.2.1
  have hL := hρ.1
  have hN := hρ.2.2.2.1
  unfold f_X_fitsAt
  obtain ⟨u, eu, hu⟩ := of_eq (F := FU) (k := k) (y := y) (I := I) hF hk hc
  rw [eu, Option.bind_some]
  by_cases g : u = 0
  · rw [if_neg (by omega)]
    exact ⟨1, I, rfl, ⟨fun _ i hi hiy => absurd hiy (hu g i hi), fun _ => by decide⟩, frX_refl⟩
  rw [if_pos g]
  obtain ⟨I1, e1, q1, f1⟩ := copy_eq (F := FU) (r0 := 56) (r1 := 49) hb (by omega)
  have hx1 : RivX I1 rv ρ := rivx_congr hx (fun a b1 b2 b3 b4 => f1 a (by omega))
  obtain ⟨I2, t1, t2, t3⟩ := throw_eq (F := FU) (b := 56) (rv := rv) (m := m) (x := x) (y := y) hF ⟨Or.inr rfl, by omega⟩ hρ hx1 q1 hm hx0 hy hl
  have hx2 : RivX I2 rv ρ := rivx_congr hx1 (fun a b1 b2 b3 b4 => t3 a (by omega))
  have hday : (thrA ρ m x y (9 * m + (thA s m).toNat) s).1 240 = s.1 240 := by
    have h9 := thA_nn (s := s) (m := m)
    have hman := (hρ.2.2.2.2.2.2.2.1 m hm).2.2.1
    exact thr_day (by omega) (by omega) (by omega) (drift_nn hρ hm (by omega)) hL.2
  obtain ⟨I3, d1, d2, d3⟩ := passDays_eq (F := FU) (b := 56) (rv := rv) (a := y) (w := 1) (n := n) hF ⟨Or.inr rfl, by omega⟩ hρ hx2 t2 (by omega) (by omega) (by omega)
  have d1' : f_B_passDays FU 56 rv (n : Int) (y : Int) (w32 ((y : Int) + 1)) I2 = some I3 := by
    rw [w32i (by omega) (by omega)]
    exact d1
  have g3 : ∀ a, (a < 56 ∨ 62 < a) → a ≠ rv + 12 → a ≠ rv + 13 → a ≠ rv + 17 → a ≠ rv + 18 → I3 a = I a := fun a b1 b2 b3 b4 b5 => by rw [d3 a (by omega) b2 b3 b4 b5, t3 a (by omega), f1 a (by omega)]
  have g242 : I3 242 = I 242 := g3 242 (by omega) (by omega) (by omega) (by omega) (by omega)
  have g243 : I3 243 = I 243 := g3 243 (by omega) (by omega) (by omega) (by omega) (by omega)
  obtain ⟨w, ew, hw⟩ := so_eq (F := FU) (k := k) (y := y) (I := I3) hF hk (fun i hi => by rw [g242]; exact hc i hi)
  refine ⟨w, I3, ?_, ?_, fun a ha => by unfold scrX at ha; exact g3 a (by omega) (by omega) (by omega) (by omega) (by omega)⟩
  · rw [e1, Option.bind_some, t1, Option.bind_some]
    dsimp only
    rw [d1', Option.bind_some, ew, Option.bind_some]
  · rw [hw, toldR_congr (fun c hc' => d2.2.1.1 c hc') g242 g243 hc]
