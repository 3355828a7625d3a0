/-! texts: the model's place in a text -/
theorem Vt_bd {B : Nat → Int} {n nt t : Nat} (hN : NTk B n nt) (h : Kt B n nt t = 301) : 0 ≤ Vt B n t ∧ Vt B n t ≤ 9999 := by
  have hlt : t < nt := by
    by_cases g : t < nt
    · exact g
    · have : Kt B n nt t = 302 := if_neg g
      omega
  have hs := hN.2.1 t hlt
  have hk : kdB B (tokS B n t) (tokE B n (tokS B n t)) = 301 := (if_pos hlt).symm.trans h
  have h2 : soB (B (tokS B n t)) = 2 ∧ tokE B n (tokS B n t) - tokS B n t ≤ 4 := by
    unfold kdB at hk
    by_cases g1 : soB (B (tokS B n t)) = 1
    · rw [if_pos g1] at hk
      cases hw : kwd (lst B (tokS B n t) (tokE B n (tokS B n t) - tokS B n t)) with
      | some j =>
        rw [hw] at hk
        have := (kwd_lt hw).1
        dsimp only at hk
        omega
      | none =>
        rw [hw] at hk
        dsimp only at hk
        split at hk <;> omega
    · rw [if_neg g1] at hk
      by_cases g2 : soB (B (tokS B n t)) = 2
      · rw [if_pos g2] at hk
        refine ⟨g2, ?_⟩
        split at hk
        · assumption
        · omega
      · rw [if_neg g2] at hk
        split at hk <;> omega
  have hE : tokE B n (tokS B n t) = rn (soP 2) B n (tokS B n t) := by
    unfold tokE
    rw [if_neg (by omega), h2.1]
  have hr := rn_spec (p := soP 2) (B := B) (n := n) _ (tokS B n t) rfl
  have hd : ∀ k, tokS B n t ≤ k → k < tokS B n t + (tokE B n (tokS B n t) - tokS B n t) → 48 ≤ B k ∧ B k ≤ 57 := fun k b1 b2 => by
    have := hr.2.2.1 k b1 (by rw [← hE]; omega)
    exact soB_2.mp (by simpa [soP] using this)
  have hb := numB_bd hd
  have hp : (10 : Int) ^ (tokE B n (tokS B n t) - tokS B n t) ≤ 10000 := by
    have : tokE B n (tokS B n t) - tokS B n t = 0 ∨ tokE B n (tokS B n t) - tokS B n t = 1 ∨ tokE B n (tokS B n t) - tokS B n t = 2 ∨ tokE B n (tokS B n t) - tokS B n t = 3 ∨ tokE B n (tokS B n t) - tokS B n t = 4 := by omega
    rcases this with e | e | e | e | e <;> rw [e] <;> decide
  unfold Vt
  omega
theorem PP_lt {B : Nat → Int} {n nt a b : Nat} (hN : NTk B n nt) (h : a < b) (hb : b ≤ nt) : PP B n nt a < PP B n nt b := by
  have step : ∀ k, k < nt → tokS B n k < tokS B n (k + 1) := fun k hk => by
    have h1 := tokE_bd (B := B) (hN.2.1 k hk)
    have h2 := (rn_spec (p := soP 0) (B := B) (n := n) _ (tokE B n (tokS B n k)) rfl).1
    have h3 : tokS B n (k + 1) = rn (soP 0) B n (tokE B n (tokS B n k)) := rfl
    omega
  have mono : ∀ d k, k + d < nt → tokS B n k ≤ tokS B n (k + d) := fun d => by
    induction d with
    | zero => exact fun k _ => Nat.le_refl _
    | succ d ih =>
      intro k hk
      have h1 := ih k (by omega)
      have h2 := step (k + d) (by omega)
      show tokS B n k ≤ tokS B n (k + d + 1)
      omega
  unfold PP Pt
  rw [if_pos (by omega)]
  by_cases g : b < nt
  · rw [if_pos g]
    have h1 := step a (by omega)
    have h2 := mono (b - (a + 1)) (a + 1) (by omega)
    rw [show a + 1 + (b - (a + 1)) = b by omega] at h2
    omega
  · rw [if_neg g]
    have := hN.2.1 a (by omega)
    omega
def CtM (B : Nat → Int) (n nt : Nat) (I : MI) : Ctl → Prop
  | .inl e => 0 < e.1 ∧ I 296 13 = e.1 ∧ I 296 14 = e.2
  | .inr (t, l, lp) => t ≤ 400 ∧ t ≤ nt ∧ I 296 13 = 0 ∧ I 296 11 = (t : Int) ∧ I 296 15 = l ∧ 0 ≤ l ∧ (l ≠ 0 → I 296 16 = lp ∧ ∃ t0, t0 < t ∧ lp = PP B n nt t0)
def Fr5 (I I' : MI) : Prop := (∀ a, a ≠ 296 → I' a = I a) ∧ ∀ k, k ≠ 11 → k ≠ 13 → k ≠ 14 → k ≠ 15 → k ≠ 16 → I' 296 k = I 296 k
theorem fr5_refl {I : MI} : Fr5 I I := ⟨fun _ _ => rfl, fun _ _ _ _ _ _ => rfl⟩
theorem fr5_trans {I I' I2 : MI} (h : Fr5 I I') (h' : Fr5 I' I2) : Fr5 I I2 := ⟨fun a b1 => (h'.1 a b1).trans (h.1 a b1), fun j b1 b2 b3 b4 b5 => (h'.2 j b1 b2 b3 b4 b5).trans (h.2 j b1 b2 b3 b4 b5)⟩
theorem tkm_congr {I I' J J' : MI} {B : Nat → Int} {n nt : Nat} (h : TkM I J B n nt) (hf : ∀ a, 299 ≤ a → a ≤ 301 → I' a = I a) (hJ : J' 302 = J 302) : TkM I' J' B n nt := by
  unfold TkM SMk at *
  rw [hf 299 (by omega) (by omega), hf 300 (by omega) (by omega), hf 301 (by omega) (by omega), hJ]
  exact h
theorem tkm_at {I J : MI} {B : Nat → Int} {n nt t : Nat} (h : TkM I J B n nt) (ht : t ≤ nt) (h4 : t ≤ 400) : I 299 t = mkK (Kt B n nt t) ∧ I 300 t = PP B n nt t ∧ (Kt B n nt t = 301 → I 301 t = Vt B n t) ∧ (Kt B n nt t = 300 → J 302 t = wnum (Wt B n t)) := by
  obtain ⟨h1, h2, h3⟩ := h
  unfold Kt PP Pt
  by_cases g : t < nt
  · obtain ⟨a1, a2, a3, a4, a5⟩ := h2 t g
    rw [if_pos g, if_pos g]
    exact ⟨a2, a3, fun h => a4 (by rw [a2, h]; decide), fun h => a5 (by rw [a2, h]; decide)⟩
  · have : t = nt := by omega
    subst this
    obtain ⟨b1, b2⟩ := h3 h4
    rw [if_neg g, if_neg g]
    exact ⟨b1, b2, fun h => absurd h (by decide), fun h => absurd h (by decide)⟩
section
variable {F n nt : Nat} {B : Nat → Int} {I J : MI}
theorem isM_dead {c : Int} (h : I 296 13 ≠ 0) : f_M_is F c I J = some 0 := if_pos h
theorem isM {t : Nat} {l lp c x : Int} (hT : TkM I J B n nt) (hC : CtM B n nt I (.inr (t, l, lp))) (hx : VK x) (hc : c = mkK x) : f_M_is F c I J = some (if Kt B n nt t = x then 1 else 0) := by
  obtain ⟨c1, c2, c3, c4, c5⟩ := hC
  unfold f_M_is
  rw [if_neg (by simp [c3]), c4, if_pos (by omega), Int.toNat_natCast, (tkm_at hT c2 c1).1, hc]
  by_cases g : Kt B n nt t = x
  · rw [if_pos g, if_neg (by simp [g])]
  · rw [if_neg g, if_pos (fun e => g ((mk_iff Kt_VK hx).mp e))]
theorem failM {w : Int} {r : Ctl} (hT : TkM I J B n nt) (hC : CtM B n nt I r) (hw : 0 < w) : ∃ I', f_M_fail F w I J = some I' ∧ CtM B n nt I' (failA (PP B n nt) w r) ∧ Fr5 I I' ∧ I' 296 11 = I 296 11 := by
  unfold f_M_fail
  match r, hC with
  | .inl e, hC =>
    have h13 := hC.2.1
    have := hC.1
    rw [if_neg (by omega)]
    exact ⟨I, rfl, hC, fr5_refl, rfl⟩
  | .inr (t, l, lp), hC =>
    obtain ⟨c1, c2, c3, c4, c5⟩ := hC
    have e : up2 I 296 13 w 296 11 = (t : Int) := by rw [up2_k (by decide)]; exact c4
    rw [if_pos (by omega), e, if_pos (by omega), Int.toNat_natCast, up2_r (by decide), (tkm_at hT c2 c1).2.1]
    refine ⟨_, rfl, ⟨hw, ?_, ?_⟩, ⟨fun a ha => by rw [up2_off ha, up2_off ha], fun j b1 b2 b3 b4 b5 => by rw [up2_k b3, up2_k b2]⟩, ?_⟩
    · rw [up2_k (by decide), up2_same]
    · rw [up2_same]
    · rw [up2_k (by decide), up2_k (by decide)]
/-- one token on -/
def goA (P : Nat → Int) : Ctl → Ctl
  | .inl e => .inl e
  | .inr (t, l, lp) => if t < 400 then .inr (t + 1, l, lp) else .inl (2, P t)
theorem goesM {r : Ctl} (hT : TkM I J B n nt) (hC : CtM B n nt I r) (hk : ∀ t l lp, r = .inr (t, l, lp) → Kt B n nt t ≠ 302) : ∃ I', f_M_goesOn F I J = some I' ∧ CtM B n nt I' (goA (PP B n nt) r) ∧ Fr5 I I' := by
  unfold f_M_goesOn
  match r, hC, hk with
  | .inl e, hC, _ =>
    by_cases g : I 296 11 = 400
    · rw [if_neg (fun h => h g)]
      obtain ⟨I', e1, a1, f1, _⟩ := failM (F := F) (w := 2) hT hC (by decide)
      rw [e1]
      exact ⟨I', rfl, a1, f1⟩
    · rw [if_pos g]
      refine ⟨_, rfl, ⟨hC.1, ?_, ?_⟩, fun a ha => up2_off ha, fun j b1 b2 b3 b4 b5 => up2_k b1⟩
      · rw [up2_k (by decide)]; exact hC.2.1
      · rw [up2_k (by decide)]; exact hC.2.2
  | .inr (t, l, lp), hC, hk =>
    have hC' := hC
    obtain ⟨c1, c2, c3, c4, c5, c6, c7⟩ := hC
    have hlt := Kt_end c2 (hk t l lp rfl)
    rw [c4]
    by_cases g : t < 400
    · rw [if_pos (by omega), w32i (by omega) (by omega)]
      refine ⟨_, rfl, ?_, fun a ha => up2_off ha, fun j b1 b2 b3 b4 b5 => up2_k b1⟩
      have : goA (PP B n nt) (.inr (t, l, lp)) = .inr (t + 1, l, lp) := if_pos g
      rw [this]
      refine ⟨by omega, by omega, by rw [up2_k (by decide)]; exact c3, by rw [up2_same]; omega, by rw [up2_k (by decide)]; exact c5, c6, fun h => ?_⟩
      obtain ⟨d1, t0, d2, d3⟩ := c7 h
      exact ⟨by rw [up2_k (by decide)]; exact d1, t0, by omega, d3⟩
    · rw [if_neg (by omega)]
      obtain ⟨I', e1, a1, f1, _⟩ := failM (F := F) (w := 2) hT hC' (by decide)
      rw [e1]
      have : goA (PP B n nt) (.inr (t, l, lp)) = .inl (2, PP B n nt t) := if_neg g
      rw [this]
      exact ⟨I', rfl, a1, f1⟩
theorem mustM {x c : Int} {r : Ctl} (hT : TkM I J B n nt) (hC : CtM B n nt I r) (hx : VK x) (hc : c = mkK x) (h3 : x ≠ 302) : ∃ I', f_M_must F c I J = some I' ∧ CtM B n nt I' (takeA (Kt B n nt) (PP B n nt) x r) ∧ Fr5 I I' := by
  unfold f_M_must
  match r, hC with
  | .inl e, hC =>
    rw [isM_dead (by have := hC.1; rw [hC.2.1]; omega), Option.bind_some, if_pos rfl]
    obtain ⟨I', e1, a1, f1, _⟩ := failM (F := F) (w := 1) hT hC (by decide)
    rw [e1]
    exact ⟨I', rfl, a1, f1⟩
  | .inr (t, l, lp), hC =>
    rw [isM hT hC hx hc, Option.bind_some]
    by_cases g : Kt B n nt t = x
    · rw [if_pos g, if_neg (by decide)]
      obtain ⟨I', e1, a1, f1⟩ := goesM (F := F) hT hC (fun t' l' lp' h => by cases h; omega)
      rw [e1]
      have : takeA (Kt B n nt) (PP B n nt) x (.inr (t, l, lp)) = goA (PP B n nt) (.inr (t, l, lp)) := if_pos g
      rw [this]
      exact ⟨I', rfl, a1, f1⟩
    · rw [if_neg g, if_pos rfl]
      obtain ⟨I', e1, a1, f1, _⟩ := failM (F := F) (w := 1) hT hC (by decide)
      rw [e1]
      have : takeA (Kt B n nt) (PP B n nt) x (.inr (t, l, lp)) = failA (PP B n nt) 1 (.inr (t, l, lp)) := if_neg g
      rw [this]
      exact ⟨I', rfl, a1, f1⟩
/-- a later fault at a token -/
theorem wrongM {w : Int} {t t0 : Nat} {l lp : Int} (hT : TkM I J B n nt) (hC : CtM B n nt I (.inr (t, l, lp))) (hw : 0 < w) (h0 : t0 < nt ∧ t0 ≤ 400) (hl : l ≠ 0 → lp < PP B n nt t0 ∨ (lp = PP B n nt t0 ∧ l ≤ w)) : ∃ I', f_M_wrong F w (t0 : Int) I J = some I' ∧ I' 296 13 = 0 ∧ I' 296 11 = (t : Int) ∧ I' 296 15 = (if l = 0 then w else l) ∧ I' 296 16 = (if l = 0 then PP B n nt t0 else lp) ∧ Fr5 I I' := by
  obtain ⟨c1, c2, c3, c4, c5, c6, c7⟩ := hC
  unfold f_M_wrong f_M_wrong_b46
  rw [if_pos (by omega), if_neg (by omega), Int.toNat_natCast, (tkm_at hT (by omega) h0.2).2.1, c5]
  by_cases g : l = 0
  · rw [if_pos g, if_pos g, if_pos g]
    refine ⟨_, rfl, by rw [up2_k (by decide), up2_k (by decide)]; exact c3, by rw [up2_k (by decide), up2_k (by decide)]; exact c4, by rw [up2_k (by decide), up2_same], up2_same, fun a ha => by rw [up2_off ha, up2_off ha], fun j b1 b2 b3 b4 b5 => by rw [up2_k b5, up2_k b4]⟩
  · rw [if_neg g, if_neg g, if_neg g, (c7 g).1]
    have keep : ∃ I', some I = some I' ∧ I' 296 13 = 0 ∧ I' 296 11 = (t : Int) ∧ I' 296 15 = l ∧ I' 296 16 = lp ∧ Fr5 I I' := ⟨I, rfl, c3, c4, c5, (c7 g).1, fr5_refl⟩
    rcases hl g with h | ⟨h, h'⟩
    · rw [if_pos h]; exact keep
    · rw [if_neg (by omega), if_neg (by simp [h]), if_neg (by omega)]; exact keep
theorem boundedM {lo hi : Int} {r : Ctl} (hT : TkM I J B n nt) (hC : CtM B n nt I r) (hlo : 0 ≤ lo) : ∃ (v : Int) (I' : MI), f_M_bounded F lo hi I J = some (v, I') ∧ CtM B n nt I' (intA (Kt B n nt) (PP B n nt) (Vt B n) lo hi r).2 ∧ Fr5 I I' ∧ 0 ≤ v ∧ v ≤ lo + 9999 ∧ ∀ t l lp, (intA (Kt B n nt) (PP B n nt) (Vt B n) lo hi r).2 = .inr (t, l, lp) → (l = 0 → v = (intA (Kt B n nt) (PP B n nt) (Vt B n) lo hi r).1 ∧ ∃ t0 lp0, r = .inr (t0, 0, lp0)) := by
  unfold f_M_bounded f_M_bounded_b15
  match r, hC with
  | .inl e, hC =>
    rw [if_pos (by rw [hC.2.1]; exact hC.1)]
    obtain ⟨I', e1, a1, f1, _⟩ := failM (F := F) (w := 1) hT hC (by decide)
    rw [e1, Option.bind_some]
    exact ⟨lo, I', rfl, a1, f1, hlo, by omega, fun t l lp h => by cases h⟩
  | .inr (t, l, lp), hC =>
    have hC' := hC
    obtain ⟨c1, c2, c3, c4, c5, c6, c7⟩ := hC
    rw [if_neg (by omega), isM hT hC' (x := 301) (by unfold VK; omega) (by decide), Option.bind_some]
    by_cases g : Kt B n nt t = 301
    · have hv := Vt_bd hT.1 g
      have hlt := Kt_end c2 (show Kt B n nt t ≠ 302 by omega)
      rw [if_pos g, if_pos (by decide), c4, if_pos (by omega), Int.toNat_natCast, (tkm_at hT c2 c1).2.2.1 g]
      unfold f_M_bounded_b42 f_M_bounded_b51
      rw [c4]
      by_cases g4 : t < 400
      · have hi' : intA (Kt B n nt) (PP B n nt) (Vt B n) lo hi (.inr (t, l, lp)) = if lo ≤ Vt B n t ∧ Vt B n t ≤ hi then (Vt B n t, .inr (t + 1, l, lp)) else (lo, laterA 5 (PP B n nt t) (.inr (t + 1, l, lp))) := if_pos ⟨g, g4⟩
        rw [hi']
        have bad : ¬ (lo ≤ Vt B n t ∧ Vt B n t ≤ hi) → ∃ (v : Int) (I' : MI), ((f_M_wrong F 5 (t : Int) I J).bind fun q13 => ((f_M_goesOn F q13 J).bind fun q16 => some (Vt B n t, q16))) = some (v, I') ∧ CtM B n nt I' (laterA 5 (PP B n nt t) (.inr (t + 1, l, lp))) ∧ Fr5 I I' ∧ 0 ≤ v ∧ v ≤ lo + 9999 ∧ ∀ t' l' lp', laterA 5 (PP B n nt t) (.inr (t + 1, l, lp)) = .inr (t', l', lp') → (l' = 0 → v = lo ∧ ∃ t0 lp0, (.inr (t, l, lp) : Ctl) = .inr (t0, 0, lp0)) := by
          intro _
          obtain ⟨M, e1, m1, m2, m3, m4, f1⟩ := wrongM (F := F) (w := 5) (t0 := t) hT hC' (by decide) ⟨hlt, c1⟩ (fun h => Or.inl (by
            obtain ⟨_, t0, d2, d3⟩ := c7 h
            rw [d3]; exact PP_lt hT.1 d2 c2))
          have ne : ¬ (if l = 0 then (5 : Int) else l) = 0 := by split <;> omega
          have n0 : 0 ≤ (if l = 0 then (5 : Int) else l) := by split <;> omega
          have gd : ∃ M', f_M_goesOn F M J = some M' ∧ M' 296 13 = 0 ∧ M' 296 11 = ((t + 1 : Nat) : Int) ∧ M' 296 15 = (if l = 0 then 5 else l) ∧ M' 296 16 = (if l = 0 then PP B n nt t else lp) ∧ Fr5 M M' := by
            unfold f_M_goesOn
            rw [m2, if_pos (by omega), w32i (by omega) (by omega)]
            exact ⟨_, rfl, by rw [up2_k (by decide)]; exact m1, by rw [up2_same]; omega, by rw [up2_k (by decide)]; exact m3, by rw [up2_k (by decide)]; exact m4, fun a ha => up2_off ha, fun j b1 b2 b3 b4 b5 => up2_k b1⟩
          obtain ⟨M', e2, p1, p2, p3, p4, f2⟩ := gd
          rw [e1, Option.bind_some, e2, Option.bind_some]
          refine ⟨_, M', rfl, ?_, fr5_trans f1 f2, hv.1, by omega, fun t' l' lp' h h0 => ?_⟩
          · show CtM B n nt M' (.inr (t + 1, if l = 0 then 5 else l, if l = 0 then PP B n nt t else lp))
            refine ⟨by omega, by omega, p1, p2, p3, n0, fun _ => ⟨p4, ?_⟩⟩
            by_cases gl : l = 0
            · exact ⟨t, by omega, if_pos gl⟩
            · obtain ⟨_, t0, d2, d3⟩ := c7 gl
              exact ⟨t0, by omega, by rw [if_neg gl]; exact d3⟩
          · have h' : (Sum.inr (t + 1, if l = 0 then (5 : Int) else l, if l = 0 then PP B n nt t else lp) : Ctl) = .inr (t', l', lp') := h
            cases h'
            exact absurd h0 ne
        by_cases b1 : Vt B n t < lo
        · rw [if_pos b1, if_neg (by omega)]
          exact bad (by omega)
        · rw [if_neg b1]
          by_cases b2 : Vt B n t ≤ hi
          · rw [if_pos b2, if_pos ⟨by omega, b2⟩]
            obtain ⟨M, e1, a1, f1⟩ := goesM (F := F) hT hC' (fun t' l' lp' h => by cases h; omega)
            rw [e1, Option.bind_some]
            have : goA (PP B n nt) (.inr (t, l, lp)) = .inr (t + 1, l, lp) := if_pos g4
            rw [this] at a1
            exact ⟨_, M, rfl, a1, f1, hv.1, by omega, fun t' l' lp' h h0 => ⟨rfl, t, lp, by cases h; rw [h0]⟩⟩
          · rw [if_neg b2, if_neg (by omega)]
            exact bad (by omega)
      · have hi' : intA (Kt B n nt) (PP B n nt) (Vt B n) lo hi (.inr (t, l, lp)) = (lo, takeA (Kt B n nt) (PP B n nt) 301 (.inr (t, l, lp))) := if_neg (fun h => g4 h.2)
        have ht : takeA (Kt B n nt) (PP B n nt) 301 (.inr (t, l, lp)) = .inl (2, PP B n nt t) := (if_pos g).trans (if_neg g4)
        rw [hi', ht]
        have ht4 : t = 400 := by omega
        have go2 : ∀ M : MI, M 296 13 = 0 → M 296 11 = (t : Int) → (∀ a, a ≠ 296 → M a = I a) → ∃ M', f_M_goesOn F M J = some M' ∧ CtM B n nt M' (.inl (2, PP B n nt t)) ∧ Fr5 M M' := by
          intro M m1 m2 m3
          unfold f_M_goesOn f_M_fail
          have e : up2 M 296 13 2 296 11 = (t : Int) := by rw [up2_k (by decide)]; exact m2
          rw [m2, if_neg (by omega), if_pos (by omega), e, if_pos (by omega), Int.toNat_natCast, up2_r (by decide), m3 300 (by decide), (tkm_at hT c2 c1).2.1]
          exact ⟨_, rfl, ⟨by show (0 : Int) < 2; decide, by rw [up2_k (by decide), up2_same], up2_same⟩, fun a ha => by rw [up2_off ha, up2_off ha], fun j b1 b2 b3 b4 b5 => by rw [up2_k b3, up2_k b2]⟩
        have bad : ∃ (v : Int) (I' : MI), ((f_M_wrong F 5 (t : Int) I J).bind fun q13 => ((f_M_goesOn F q13 J).bind fun q16 => some (Vt B n t, q16))) = some (v, I') ∧ CtM B n nt I' (.inl (2, PP B n nt t)) ∧ Fr5 I I' ∧ 0 ≤ v ∧ v ≤ lo + 9999 ∧ ∀ t' l' lp', (.inl (2, PP B n nt t) : Ctl) = .inr (t', l', lp') → (l' = 0 → v = lo ∧ ∃ t0 lp0, (.inr (t, l, lp) : Ctl) = .inr (t0, 0, lp0)) := by
          obtain ⟨M, e1, m1, m2, m3, m4, f1⟩ := wrongM (F := F) (w := 5) (t0 := t) hT hC' (by decide) ⟨hlt, c1⟩ (fun h => Or.inl (by
            obtain ⟨_, t0, d2, d3⟩ := c7 h
            rw [d3]; exact PP_lt hT.1 d2 c2))
          obtain ⟨M', e2, p1, f2⟩ := go2 M m1 m2 f1.1
          rw [e1, Option.bind_some, e2, Option.bind_some]
          exact ⟨_, M', rfl, p1, fr5_trans f1 f2, hv.1, by omega, fun t' l' lp' h => by cases h⟩
        by_cases b1 : Vt B n t < lo
        · rw [if_pos b1]
          exact bad
        · rw [if_neg b1]
          by_cases b2 : Vt B n t ≤ hi
          · rw [if_pos b2]
            obtain ⟨M, e1, a1, f1⟩ := go2 I c3 c4 (fun _ _ => rfl)
            rw [e1, Option.bind_some]
            exact ⟨_, M, rfl, a1, f1, hv.1, by omega, fun t' l' lp' h => by cases h⟩
          · rw [if_neg b2]
            exact bad
    · rw [if_neg g, if_neg (by decide)]
      obtain ⟨I', e1, a1, f1, _⟩ := failM (F := F) (w := 1) hT hC' (by decide)
      rw [e1, Option.bind_some]
      have hi' : intA (Kt B n nt) (PP B n nt) (Vt B n) lo hi (.inr (t, l, lp)) = (lo, failA (PP B n nt) 1 (.inr (t, l, lp))) := (if_neg (fun h => g h.1)).trans (by rw [show takeA (Kt B n nt) (PP B n nt) 301 (.inr (t, l, lp)) = failA (PP B n nt) 1 (.inr (t, l, lp)) from if_neg g])
      rw [hi']
      exact ⟨lo, I', rfl, a1, f1, hlo, by omega, fun t' l' lp' h => by cases h⟩
end
