/-! texts: the class reads terms -/
def PP (B : Nat → Int) (n nt : Nat) (k : Nat) : Int := ((Pt B n nt k : Nat) : Int)
def CtX (nt : Nat) (I : MI) : Ctl → Prop
  | .inl e => e.1 ≠ 0 ∧ I 4 2 = e.1 ∧ I 4 3 = e.2 ∧ ∃ t : Nat, t ≤ 400 ∧ I 4 1 = (t : Int)
  | .inr (t, l, lp) => t ≤ 400 ∧ t ≤ nt ∧ I 4 2 = 0 ∧ I 4 1 = (t : Int) ∧ I 4 4 = l ∧ (l ≠ 0 → I 4 5 = lp)
def Fr4 (I I' : MI) : Prop := (∀ a, a ≠ 4 → I' a = I a) ∧ ∀ j, j ≠ 1 → j ≠ 2 → j ≠ 3 → I' 4 j = I 4 j
theorem fr4_refl {I : MI} : Fr4 I I := ⟨fun _ _ => rfl, fun _ _ _ _ => rfl⟩
theorem fr4_trans {I I' I2 : MI} (h : Fr4 I I') (h' : Fr4 I' I2) : Fr4 I I2 := ⟨fun a b1 => (h'.1 a b1).trans (h.1 a b1), fun j b1 b2 b3 => (h'.2 j b1 b2 b3).trans (h.2 j b1 b2 b3)⟩
theorem tkx_congr {I I' : MI} {B : Nat → Int} {n nt : Nat} (h : TkX I B n nt) (hf : ∀ a, 6 ≤ a → a ≤ 9 → I' a = I a) : TkX I' B n nt := by
  unfold TkX SX at *
  rw [hf 6 (by omega) (by omega), hf 7 (by omega) (by omega), hf 8 (by omega) (by omega), hf 9 (by omega) (by omega)]
  exact h
theorem tkx_at {I : MI} {B : Nat → Int} {n nt t : Nat} (h : TkX I B n nt) (ht : t ≤ nt) : I 6 t = Kt B n nt t ∧ I 7 t = PP B n nt t ∧ (Kt B n nt t = 301 → I 9 t = Vt B n t) := by
  obtain ⟨h1, h2, h3, h4⟩ := h
  unfold Kt PP Pt
  by_cases g : t < nt
  · obtain ⟨a1, a2, a3, a4, a5⟩ := h2 t g
    rw [if_pos g, if_pos g]
    exact ⟨a2, a3, fun h => a5 (by rw [a2]; exact h)⟩
  · have : t = nt := by omega
    subst this
    rw [if_neg g, if_neg g]
    exact ⟨h3, h4, fun h => absurd h (by decide)⟩
theorem Kt_end {B : Nat → Int} {n nt t : Nat} (ht : t ≤ nt) (h : Kt B n nt t ≠ 302) : t < nt := by
  by_cases g : t < nt
  · exact g
  · exact absurd (if_neg g) h
theorem failX {F nt n : Nat} {w : Int} {I : MI} {B : Nat → Int} {r : Ctl} (hT : TkX I B n nt) (hC : CtX nt I r) (hw : w ≠ 0) : ∃ I', f_E_fail F w I = some I' ∧ CtX nt I' (failA (PP B n nt) w r) ∧ Fr4 I I' := by
  unfold f_E_fail
  match r, hC with
  | .inl e, hC =>
    obtain ⟨c1, c2, c3, c4⟩ := hC
    rw [if_neg (by rw [c2]; exact c1)]
    exact ⟨I, rfl, ⟨c1, c2, c3, c4⟩, fr4_refl⟩
  | .inr (t, l, lp), hC =>
    obtain ⟨c1, c2, c3, c4, c5, c6⟩ := hC
    have e : up2 I 4 2 w 4 1 = (t : Int) := by rw [up2_k (by decide)]; exact c4
    rw [if_pos c3, e, if_pos (by omega), Int.toNat_natCast, up2_r (by decide), (tkx_at hT c2).2.1]
    refine ⟨_, rfl, ⟨hw, ?_, ?_, t, c1, ?_⟩, fun a ha => by rw [up2_off ha, up2_off ha], fun j b1 b2 b3 => by rw [up2_k b3, up2_k b2]⟩
    · rw [up2_k (by decide), up2_same]
    · rw [up2_same]
    · rw [up2_k (by decide)]; exact e
theorem takeX {F nt n : Nat} {k : Int} {I : MI} {B : Nat → Int} {r : Ctl} (hT : TkX I B n nt) (hC : CtX nt I r) (hk : k ≠ 302) : ∃ I', f_E_take F k I = some I' ∧ CtX nt I' (takeA (Kt B n nt) (PP B n nt) k r) ∧ Fr4 I I' := by
  unfold f_E_take
  match r, hC with
  | .inl e, hC =>
    have hC' := hC
    obtain ⟨c1, c2, c3, t, c4, c5⟩ := hC
    have dead : f_E_take_b39 F I = some I := by unfold f_E_take_b39; rw [if_pos (by rw [c2]; exact c1)]
    have fl : ∀ w : Int, f_E_fail F w I = some I := fun w => by unfold f_E_fail; rw [if_neg (by rw [c2]; exact c1)]
    rw [if_pos (by omega)]
    refine ⟨I, ?_, hC', fr4_refl⟩
    split
    · split
      · exact dead
      · rw [fl, Option.bind_some]; exact dead
    · rw [fl, Option.bind_some]; exact dead
  | .inr (t, l, lp), hC =>
    have hC' := hC
    obtain ⟨c1, c2, c3, c4, c5, c6⟩ := hC
    obtain ⟨k1, k2, k3⟩ := tkx_at hT c2
    rw [if_pos (by omega), c4, Int.toNat_natCast, k1]
    by_cases g : Kt B n nt t = k
    · rw [if_pos g]
      by_cases g2 : t < 400
      · rw [if_pos (by omega)]
        unfold f_E_take_b39
        rw [if_neg (by simp [c3]), c4, w32i (by omega) (by omega)]
        have hlt := Kt_end c2 (by rw [g]; exact hk)
        refine ⟨_, rfl, ?_, fun a ha => up2_off ha, fun j b1 b2 b3 => up2_k b1⟩
        show CtX nt _ (if Kt B n nt t = k then (if t < 400 then .inr (t + 1, l, lp) else .inl (2, PP B n nt t)) else .inl (1, PP B n nt t))
        rw [if_pos g, if_pos g2]
        refine ⟨by omega, by omega, by rw [up2_k (by decide)]; exact c3, by rw [up2_same]; omega, by rw [up2_k (by decide)]; exact c5, fun h => by rw [up2_k (by decide)]; exact c6 h⟩
      · rw [if_neg (by omega)]
        obtain ⟨I', e1, e2, e3⟩ := failX (F := F) (w := 2) hT hC' (by decide)
        rw [e1, Option.bind_some]
        have d : f_E_take_b39 F I' = some I' := by unfold f_E_take_b39; rw [if_pos (by rw [e2.2.1]; exact e2.1)]
        refine ⟨I', d, ?_, e3⟩
        show CtX nt _ (if Kt B n nt t = k then (if t < 400 then .inr (t + 1, l, lp) else .inl (2, PP B n nt t)) else .inl (1, PP B n nt t))
        rw [if_pos g, if_neg g2]
        exact e2
    · rw [if_neg g]
      obtain ⟨I', e1, e2, e3⟩ := failX (F := F) (w := 1) hT hC' (by decide)
      rw [e1, Option.bind_some]
      have d : f_E_take_b39 F I' = some I' := by unfold f_E_take_b39; rw [if_pos (by rw [e2.2.1]; exact e2.1)]
      refine ⟨I', d, ?_, e3⟩
      show CtX nt _ (if Kt B n nt t = k then (if t < 400 then .inr (t + 1, l, lp) else .inl (2, PP B n nt t)) else .inl (1, PP B n nt t))
      rw [if_neg g]
      exact e2
/-- a step of a law is laid -/
theorem putX {F w p : Nat} {op x : Int} {I : MI} (h : I w 4 = (p : Int)) (hp : p ≤ 402) : ∃ (v : Int) (I' : MI) (p' : Nat), f_W_put F w op x I = some (v, I') ∧ p' ≤ 402 ∧ I' w 4 = (p' : Int) ∧ (∀ a, a ≠ w → a ≠ w + 1 → a ≠ w + 2 → I' a = I a) ∧ (∀ k, k ≠ 4 → I' w k = I w k) ∧ (p < 402 → v = (p : Int) ∧ p' = p + 1 ∧ I' (w + 1) p = op ∧ I' (w + 2) p = x ∧ ∀ j, j ≠ p → I' (w + 1) j = I (w + 1) j ∧ I' (w + 2) j = I (w + 2) j) := by
  unfold f_W_put
  rw [h]
  by_cases g : p < 402
  · have e1 : up2 I (w + 1) p op w 4 = (p : Int) := by rw [up2_r (by omega)]; exact h
    have e2 : up2 (up2 I (w + 1) p op) (w + 2) p x w 4 = (p : Int) := by rw [up2_r (by omega)]; exact e1
    rw [if_pos (by omega), if_pos (by omega), Int.toNat_natCast, e1, if_pos (by omega), Int.toNat_natCast, e2, w32i (x := (p : Int) + 1) (by omega) (by omega), up2_same, w32i (by omega) (by omega)]
    refine ⟨_, _, p + 1, rfl, by omega, by rw [up2_same]; omega, fun a b1 b2 b3 => by rw [up2_off b1, up2_off b3, up2_off b2], fun k hk => by rw [up2_k hk, up2_r (by omega), up2_r (by omega)], fun _ => ⟨by omega, rfl, ?_, ?_, fun j hj => ⟨?_, ?_⟩⟩⟩
    · rw [up2_r (by omega), up2_r (by omega), up2_same]
    · rw [up2_r (by omega), up2_same]
    · rw [up2_r (by omega), up2_r (by omega), up2_k hj]
    · rw [up2_r (by omega), up2_k hj, up2_r (by omega)]
  · rw [if_neg (by omega)]
    exact ⟨0, I, p, rfl, hp, h, fun _ _ _ _ => rfl, fun _ _ => rfl, fun h => absurd h g⟩
/-- frames of a law's reading -/
def FrL (w : Nat) (I I' : MI) : Prop := (∀ a, a ≠ 4 → a ≠ w → a ≠ w + 1 → a ≠ w + 2 → I' a = I a) ∧ (∀ j, j ≠ 1 → j ≠ 2 → j ≠ 3 → I' 4 j = I 4 j) ∧ ∀ k, k ≠ 4 → I' w k = I w k
theorem frL_refl {w : Nat} {I : MI} : FrL w I I := ⟨fun _ _ _ _ _ => rfl, fun _ _ _ _ => rfl, fun _ _ => rfl⟩
theorem frL_trans {w : Nat} {I I' I2 : MI} (h : FrL w I I') (h' : FrL w I' I2) : FrL w I I2 := ⟨fun a b1 b2 b3 b4 => (h'.1 a b1 b2 b3 b4).trans (h.1 a b1 b2 b3 b4), fun j b1 b2 b3 => (h'.2.1 j b1 b2 b3).trans (h.2.1 j b1 b2 b3), fun k b1 => (h'.2.2 k b1).trans (h.2.2 k b1)⟩
theorem fr4_L {w : Nat} (hw : w ≠ 4) {I I' : MI} (h : Fr4 I I') : FrL w I I' := ⟨fun a b1 _ _ _ => h.1 a b1, h.2, fun k _ => by rw [h.1 w hw]⟩
theorem put_L {w : Nat} (hw : 10 < w) {I I' : MI} (h1 : ∀ a, a ≠ w → a ≠ w + 1 → a ≠ w + 2 → I' a = I a) (h2 : ∀ k, k ≠ 4 → I' w k = I w k) : FrL w I I' := ⟨fun a _ b2 b3 b4 => h1 a b2 b3 b4, fun j _ _ _ => by rw [h1 4 (by omega) (by omega) (by omega)], h2⟩
theorem tkx_L {w : Nat} (hw : 10 < w) {I I' : MI} {B : Nat → Int} {n nt : Nat} (h : TkX I B n nt) (hf : FrL w I I') : TkX I' B n nt := tkx_congr h (fun a b1 b2 => hf.1 a (by omega) (by omega) (by omega) (by omega))
theorem cx_put {nt w : Nat} (hw : 10 < w) {I I' : MI} {r : Ctl} (h : CtX nt I r) (h1 : ∀ a, a ≠ w → a ≠ w + 1 → a ≠ w + 2 → I' a = I a) : CtX nt I' r := by
  have e : I' 4 = I 4 := h1 4 (by omega) (by omega) (by omega)
  match r, h with
  | .inl e', h => unfold CtX at h ⊢; rw [e]; exact h
  | .inr (t, l, lp), h => unfold CtX at h ⊢; rw [e]; exact h
/-- what a reading from an open state comes to -/
def RdQ (B : Nat → Int) (n nt w b : Nat) (top : List Int → Prop) (ext : Int → Prop) (kb : Nat) (I : MI) (t : Nat) (l lp : Int) (p : Nat) (I' : MI) : Ctl → Prop
  | .inl e => ∀ W c, opens W = b → top W → mA (Kt B n nt) (PP B n nt) (Vt B n) t W c = .inl e
  | .inr (t', l', lp') => ∃ c2 : LCode, l' = l ∧ lp' = lp ∧ t < t' ∧ I' w 4 = ((p + c2.length : Nat) : Int) ∧ c2.length + t ≤ t' ∧ SegR (I' (w + 1)) (I' (w + 2)) p c2 ∧ (∀ j, j < p → I' (w + 1) j = I (w + 1) j ∧ I' (w + 2) j = I (w + 2) j) ∧ BalC kb c2 ∧ ext (Kt B n nt t') ∧ ∀ W c, opens W = b → top W → mA (Kt B n nt) (PP B n nt) (Vt B n) t W c = mB (Kt B n nt) (PP B n nt) (Vt B n) t' W (c ++ c2)
def RdS (B : Nat → Int) (n nt w b : Nat) (top : List Int → Prop) (ext : Int → Prop) (kb : Nat) (f : MI → Option MI) : Prop := ∀ (I : MI) (r : Ctl) (p : Nat), TkX I B n nt → CtX nt I r → I w 4 = (p : Int) → p ≤ 402 → (∀ t l lp, r = .inr (t, l, lp) → p ≤ t) → ∃ (I' : MI) (r' : Ctl), f I = some I' ∧ CtX nt I' r' ∧ FrL w I I' ∧ (∃ p' : Nat, p' ≤ 402 ∧ I' w 4 = (p' : Int)) ∧ (∀ e, r = .inl e → r' = .inl e) ∧ ∀ t l lp, r = .inr (t, l, lp) → RdQ B n nt w b top ext kb I t l lp p I' r'
def exT (_ : Int) : Prop := True
def exP (k : Int) : Prop := k ≠ 42 ∧ k ≠ 47
def exS (k : Int) : Prop := k ≠ 42 ∧ k ≠ 47 ∧ k ≠ 43 ∧ k ≠ 45
theorem unitX {F n nt w b : Nat} (hw : 10 < w) (hb : b ≤ 6) {B : Nat → Int} {rs : Nat → Int → MI → Option MI} (hrs : b < 6 → RdS B n nt w (b + 1) topS exS (3 + 2 * (6 - (b + 1))) (rs w ((b : Int) + 1))) : RdS B n nt w b topU exT (1 + 2 * (6 - b)) (f_E_readUnit F rs w (b : Int)) := by
  intro I r p hT hC h4 hp hpr
  unfold f_E_readUnit
  match r, hC with
  | .inl e, hC =>
    have hC' := hC
    obtain ⟨c1, c2, c3, c4⟩ := hC
    rw [if_neg (by rw [c2]; exact c1)]
    exact ⟨I, .inl e, rfl, hC', frL_refl, ⟨p, hp, h4⟩, fun e' h => by cases h; rfl, fun t l lp h => by cases h⟩
  | .inr (t, l, lp), hC =>
    have hC' := hC
    obtain ⟨c1, c2, c3, c4, c5, c6⟩ := hC
    obtain ⟨k1, k2, k3⟩ := tkx_at hT c2
    rw [if_pos c3, if_pos (by omega), c4, Int.toNat_natCast, k1]
    -- a step is laid, one token taken
    have one : ∀ (op x k : Int), k = Kt B n nt t → k ≠ 302 → (∀ W c, mA (Kt B n nt) (PP B n nt) (Vt B n) t W c = if t < 400 then mB (Kt B n nt) (PP B n nt) (Vt B n) (t + 1) W (c ++ [(op, x)]) else .inl (2, PP B n nt t)) → BalC 1 [(op, x)] → ∃ (I' : MI) (r' : Ctl), ((f_W_put F w op x I).bind fun q => (f_E_take F k q.2).bind fun q2 => some q2) = some I' ∧ CtX nt I' r' ∧ FrL w I I' ∧ (∃ p' : Nat, p' ≤ 402 ∧ I' w 4 = (p' : Int)) ∧ (∀ e, (Sum.inr (t, l, lp) : Ctl) = .inl e → r' = .inl e) ∧ ∀ t0 l0 lp0, (Sum.inr (t, l, lp) : Ctl) = .inr (t0, l0, lp0) → RdQ B n nt w b topU exT (1 + 2 * (6 - b)) I t0 l0 lp0 p I' r' := by
      intro op x k hk hk2 hm hbal
      obtain ⟨v, I1, p', e1, e2, e3, e4, e5, e6⟩ := putX (F := F) (op := op) (x := x) h4 hp
      have fL := put_L hw e4 e5
      obtain ⟨I2, g1, g2, g3⟩ := takeX (F := F) (k := k) (tkx_L hw hT fL) (cx_put hw hC' e4) hk2
      rw [e1, Option.bind_some]
      dsimp only
      rw [g1, Option.bind_some]
      refine ⟨I2, _, rfl, g2, frL_trans fL (fr4_L (by omega) g3), ⟨p', e2, by rw [g3.1 w (by omega)]; exact e3⟩, fun e h => (by cases h), fun t0 l0 lp0 h0 => ?_⟩
      cases h0
      have hpt := hpr t l lp rfl
      show RdQ B n nt w b topU exT (1 + 2 * (6 - b)) I t l lp p I2 (if Kt B n nt t = k then (if t < 400 then .inr (t + 1, l, lp) else .inl (2, PP B n nt t)) else .inl (1, PP B n nt t))
      rw [if_pos hk.symm]
      by_cases g : t < 400
      · rw [if_pos g]
        obtain ⟨_, d2, d3, d4, d5⟩ := e6 (by omega)
        refine ⟨[(op, x)], rfl, rfl, by omega, by rw [g3.1 w (by omega), e3, d2]; rfl, by simp only [List.length_cons, List.length_nil]; omega, ?_, fun j hj => ?_, bal_mono hbal (by omega), trivial, fun W c _ _ => by rw [hm, if_pos g]⟩
        · rw [g3.1 _ (by omega), g3.1 _ (by omega)]
          exact ⟨d3, d4, trivial⟩
        · rw [g3.1 _ (by omega), g3.1 _ (by omega)]
          exact d5 j (by omega)
      · rw [if_neg g]
        exact fun W c _ _ => by rw [hm, if_neg g]
    by_cases g1 : Kt B n nt t = 301
    · rw [if_neg (fun z => z g1), k3 g1]
      have := one 0 (Vt B n t) 301 g1.symm (by decide) (fun W c => by rw [mA_e c1, if_neg (by omega), if_pos g1]) bal_int
      obtain ⟨I', r', q1, q2⟩ := this
      exact ⟨I', r', q1, q2⟩
    · rw [if_pos g1]
      by_cases g2 : 267 ≤ Kt B n nt t ∧ Kt B n nt t ≤ 272
      · rw [if_neg (by omega), if_neg (by omega), w32i (by omega) (by omega)]
        exact one 1 (Kt B n nt t - 267) (Kt B n nt t) rfl (by omega) (fun W c => by rw [mA_e c1, if_neg (by omega), if_neg g1, if_pos g2]) (bal_var (by omega) (by omega))
      · have e89 : (if Kt B n nt t < 267 then f_E_readUnit_b89 F rs w (b : Int) (Kt B n nt t) I else if 272 < Kt B n nt t then f_E_readUnit_b89 F rs w (b : Int) (Kt B n nt t) I else ((f_W_put F w 1 (w32 (Kt B n nt t - 267)) I).bind fun q24 => ((f_E_take F (Kt B n nt t) q24.2).bind fun q27 => (some q27)))) = f_E_readUnit_b89 F rs w (b : Int) (Kt B n nt t) I := by
          by_cases h1 : Kt B n nt t < 267
          · rw [if_pos h1]
          · rw [if_neg h1, if_pos (by omega)]
        rw [e89]
        unfold f_E_readUnit_b89
        have bad : ∀ wf : Int, wf ≠ 0 → (∀ W c, opens W = b → mA (Kt B n nt) (PP B n nt) (Vt B n) t W c = .inl (wf, PP B n nt t)) → ∃ (I' : MI) (r' : Ctl), ((f_E_fail F wf I).bind fun q => some q) = some I' ∧ CtX nt I' r' ∧ FrL w I I' ∧ (∃ p' : Nat, p' ≤ 402 ∧ I' w 4 = (p' : Int)) ∧ (∀ e, (Sum.inr (t, l, lp) : Ctl) = .inl e → r' = .inl e) ∧ ∀ t0 l0 lp0, (Sum.inr (t, l, lp) : Ctl) = .inr (t0, l0, lp0) → RdQ B n nt w b topU exT (1 + 2 * (6 - b)) I t0 l0 lp0 p I' r' := by
          intro wf hwf hm
          obtain ⟨I', e1, e2, e3⟩ := failX (F := F) (w := wf) hT hC' hwf
          rw [e1, Option.bind_some]
          refine ⟨I', _, rfl, e2, fr4_L (by omega) e3, ⟨p, hp, by rw [e3.1 w (by omega)]; exact h4⟩, fun e h => (by cases h), fun t0 l0 lp0 h0 => ?_⟩
          cases h0
          exact fun W c hW _ => hm W c hW
        by_cases g3 : Kt B n nt t = 40
        · rw [if_pos g3]
          by_cases g4 : b < 6
          · rw [if_pos (by omega)]
            obtain ⟨I1, t1, t2, t3⟩ := takeX (F := F) (k := 40) hT hC' (by decide)
            have fL1 := fr4_L (w := w) (by omega) t3
            obtain ⟨I2, r2, s1, s2, s3, ⟨p2, s4, s5⟩, s6, s7⟩ := hrs g4 I1 _ p (tkx_L hw hT fL1) t2 (by rw [t3.1 w (by omega)]; exact h4) hp (fun t0 l0 lp0 h0 => by
              have hpt := hpr t l lp rfl
              have h0' : (if Kt B n nt t = 40 then (if t < 400 then Sum.inr (t + 1, l, lp) else Sum.inl (2, PP B n nt t)) else Sum.inl (1, PP B n nt t) : Ctl) = .inr (t0, l0, lp0) := h0
              rw [if_pos g3] at h0'
              by_cases g5 : t < 400
              · rw [if_pos g5] at h0'; cases h0'; omega
              · rw [if_neg g5] at h0'; cases h0')
            have fL2 := frL_trans fL1 s3
            obtain ⟨I3, u1, u2, u3⟩ := takeX (F := F) (k := 41) (tkx_L hw hT fL2) s2 (by decide)
            rw [t1, Option.bind_some, w32i (by omega) (by omega), s1, Option.bind_some, u1, Option.bind_some]
            refine ⟨I3, _, rfl, u2, frL_trans fL2 (fr4_L (by omega) u3), ⟨p2, s4, by rw [u3.1 w (by omega)]; exact s5⟩, fun e h => (by cases h), fun t0 l0 lp0 h0 => ?_⟩
            cases h0
            have hpt := hpr t l lp rfl
            have ta : takeA (Kt B n nt) (PP B n nt) 40 (.inr (t, l, lp)) = if t < 400 then .inr (t + 1, l, lp) else .inl (2, PP B n nt t) := by
              show (if Kt B n nt t = 40 then _ else _) = _
              rw [if_pos g3]
            have me : ∀ W c, opens W = b → mA (Kt B n nt) (PP B n nt) (Vt B n) t W c = if t < 400 then mA (Kt B n nt) (PP B n nt) (Vt B n) (t + 1) (6 :: W) c else .inl (2, PP B n nt t) := fun W c hW => by
              rw [mA_e c1, if_pos g3, if_neg (by omega)]
            rw [ta] at s6 s7
            by_cases g5 : t < 400
            · rw [if_pos g5] at s7
              have q := s7 (t + 1) l lp rfl
              match r2, s2, q with
              | .inl e, s2, q =>
                exact fun W c hW _ => by
                  rw [me W c hW, if_pos g5]
                  exact q (6 :: W) c (by rw [opens_6, hW]) (fun w' W' h => by cases h; rfl)
              | .inr (t', l', lp'), s2, q =>
                obtain ⟨z1, z2, _⟩ := s2
                obtain ⟨c2', q1, q2, q3, q4, q5, q6, q7, q8, q9, q10⟩ := q
                subst q1
                subst q2
                have mB2 : ∀ W c, opens W = b → mA (Kt B n nt) (PP B n nt) (Vt B n) t W c = if Kt B n nt t' = 41 then (if t' < 400 then mB (Kt B n nt) (PP B n nt) (Vt B n) (t' + 1) W (c ++ c2') else .inl (2, PP B n nt t')) else .inl (1, PP B n nt t') := fun W c hW => by
                  rw [me W c hW, if_pos g5, q10 (6 :: W) c (by rw [opens_6, hW]) (fun w' W' h => by cases h; rfl), mB_e z1, opens_6, popS_6, popS_6]
                  by_cases e41 : Kt B n nt t' = 41
                  · rw [if_pos ⟨e41, by omega⟩, if_pos e41]; rfl
                  · rw [if_neg (fun z => e41 z.1), if_neg e41]
                    unfold exS at q9
                    rw [if_neg (by simp [isOpK, q9]), if_pos (by omega)]
                show RdQ B n nt w b topU exT (1 + 2 * (6 - b)) I t l' lp' p I3 (if Kt B n nt t' = 41 then (if t' < 400 then .inr (t' + 1, l', lp') else .inl (2, PP B n nt t')) else .inl (1, PP B n nt t'))
                by_cases e41 : Kt B n nt t' = 41
                · rw [if_pos e41]
                  by_cases e400 : t' < 400
                  · rw [if_pos e400]
                    refine ⟨c2', rfl, rfl, by omega, by rw [u3.1 w (by omega)]; exact q4, by omega, by rw [u3.1 _ (by omega), u3.1 _ (by omega)]; exact q6, fun j hj => ?_, bal_mono q8 (by omega), trivial, fun W c hW _ => by rw [mB2 W c hW, if_pos e41, if_pos e400]⟩
                    rw [u3.1 _ (by omega), u3.1 _ (by omega), (q7 j hj).1, (q7 j hj).2, t3.1 _ (by omega), t3.1 _ (by omega)]
                    exact ⟨rfl, rfl⟩
                  · rw [if_neg e400]
                    exact fun W c hW _ => by rw [mB2 W c hW, if_pos e41, if_neg e400]
                · rw [if_neg e41]
                  exact fun W c hW _ => by rw [mB2 W c hW, if_neg e41]
            · rw [if_neg g5] at s6
              have q := s6 _ rfl
              subst q
              exact fun W c hW _ => by rw [me W c hW, if_neg g5]
          · rw [if_neg (by omega)]
            exact bad 2 (by decide) (fun W c hW => by rw [mA_e c1, if_pos g3, if_pos (by omega)])
        · rw [if_neg g3]
          exact bad 1 (by decide) (fun W c hW => by rw [mA_e c1, if_neg g3, if_neg g1, if_neg g2])
