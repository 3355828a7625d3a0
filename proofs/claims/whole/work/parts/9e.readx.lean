/-! texts: the class reads a whole text -/
theorem rivx_law {I I' : MI} {sp b : Nat} {ρ : RIV} {Λ : LawT} (h : RivX I sp ρ) (hb : b = 0 ∨ b = 1) (hs : isSp sp) (hf : FrL (sp + 9 + 5 * b) I I') (hl : LawX I' (sp + 9 + 5 * b) Λ) : RivX I' sp (if b = 0 then (ρ.1, Λ, ρ.2.2) else (ρ.1, ρ.2.1, Λ)) := by
  obtain ⟨h1, h2, h3, h4, h5, h6, h7, h8, h9, h10, h11⟩ := h
  have hs' : 11 ≤ sp := by rcases hs with e | e <;> omega
  have z : ∀ a, a ≤ 8 → I' (sp + a) = I (sp + a) := fun a ha => hf.1 _ (by omega) (by omega) (by omega) (by omega)
  have z0 : I' sp = I sp := z 0 (by omega)
  have a1 : RivX I' sp (if b = 0 then (ρ.1, Λ, ρ.2.2) else (ρ.1, ρ.2.1, Λ)) ↔ (I' sp 0 = aL ρ ∧ I' sp 1 = aW ρ ∧ I' sp 2 = aJ ρ ∧ I' sp 5 = aN ρ ∧ I' sp 10 = aF ρ ∧ (∀ c, c < 96 → I' (sp + 1) c = dep ρ c) ∧ (∀ y, y < 8 → I' (sp + 2) y = flo ρ y) ∧ (∀ m : Nat, (m : Int) < aN ρ → I' (sp + 3) m = fsd ρ m ∧ I' (sp + 4) m = siz ρ m ∧ I' (sp + 5) m = man ρ m ∧ I' (sp + 6) m = gri ρ m) ∧ (∀ f : Nat, (f : Int) < aF ρ → I' (sp + 7) f = fld ρ f ∧ I' (sp + 8) f = frc ρ f) ∧ LawX I' (sp + 9) (if b = 0 then Λ else ρ.2.1) ∧ LawX I' (sp + 14) (if b = 0 then ρ.2.2 else Λ)) := by
    rcases hb with e | e
    · subst e; exact Iff.rfl
    · subst e; exact Iff.rfl
  rw [a1, z0, z 1 (by omega), z 2 (by omega), z 3 (by omega), z 4 (by omega), z 5 (by omega), z 6 (by omega), z 7 (by omega), z 8 (by omega)]
  refine ⟨h1, h2, h3, h4, h5, h6, h7, h8, h9, ?_, ?_⟩
  · rcases hb with e | e
    · subst e; exact hl
    · subst e
      rw [if_neg (by decide)]
      exact lawX_congr h10 (hf.1 _ (by omega) (by omega) (by omega) (by omega)) (hf.1 _ (by omega) (by omega) (by omega) (by omega)) (hf.1 _ (by omega) (by omega) (by omega) (by omega))
  · rcases hb with e | e
    · subst e
      rw [if_pos rfl]
      exact lawX_congr h11 (hf.1 _ (by omega) (by omega) (by omega) (by omega)) (hf.1 _ (by omega) (by omega) (by omega) (by omega)) (hf.1 _ (by omega) (by omega) (by omega) (by omega))
    · subst e; exact hl
section
variable {F n nt sp t : Nat} {B : Nat → Int} {I0 I : MI} {l lp : Int} {s : RIV × Nat × (Nat → Nat)}
theorem lawSX (b : Nat) (hb : b = 0 ∨ b = 1) (hF : 1000000 ≤ F) (hs : isSp sp) (h : SgX B n nt sp I0 I (.inr (t, l, lp), s)) (hk : Kt B n nt t = 262 + (b : Int)) : ∃ I', f_E_readLaw F (sp + 9 + 5 * b) I = some I' ∧ SgX B n nt sp I0 I' (stA B n nt (.inr (t, l, lp), s)) := by
  obtain ⟨r1, r2, r3, r4, r5⟩ := h.2.2.2.2 t l lp rfl
  dsimp only at r1 r2 r3 r4 r5
  have hs' : 11 ≤ sp := by rcases hs with e | e <;> omega
  have hst : stA B n nt (.inr (t, l, lp), s) = ((lawA B n nt (Kt B n nt t) (.inr (t, l, lp))).1, (if b = 0 then (s.1.1, (lawA B n nt (Kt B n nt t) (.inr (t, l, lp))).2, s.1.2.2) else (s.1.1, s.1.2.1, (lawA B n nt (Kt B n nt t) (.inr (t, l, lp))).2)), s.2) := by
    have h6 : stA B n nt (.inr (t, l, lp), s) = _ := (if_neg (show ¬ Kt B n nt t = 256 by omega)).trans ((if_neg (show ¬ Kt B n nt t = 257 by omega)).trans ((if_neg (show ¬ Kt B n nt t = 258 by omega)).trans ((if_neg (show ¬ Kt B n nt t = 259 by omega)).trans ((if_neg (show ¬ Kt B n nt t = 260 by omega)).trans (if_neg (show ¬ Kt B n nt t = 261 by omega))))))
    rw [h6]
    rcases hb with e | e
    · subst e
      have hk' : Kt B n nt t = 262 := by omega
      refine (if_pos (show Kt B n nt t = 262 by omega)).trans ?_
      rw [hk', if_pos rfl]
    · subst e
      have hk' : Kt B n nt t = 263 := by omega
      refine (if_neg (show ¬ Kt B n nt t = 262 by omega)).trans ((if_pos (show Kt B n nt t = 263 by omega)).trans ?_)
      rw [hk', if_neg (by decide)]
  rw [hst]
  obtain ⟨I', e1, c1, f1, _, d1⟩ := readLawX (F := F) (w := sp + 9 + 5 * b) hF (by omega) h.1 h.2.2.1 (by omega)
  refine ⟨I', e1, tkx_L (by omega) h.1 f1, tpx_congr h.2.1 (by rw [f1.1 2 (by omega) (by omega) (by omega) (by omega)]) (by rw [f1.1 3 (by omega) (by omega) (by omega) (by omega)]), c1, fun a b1 b2 b3 => ?_, fun t' l' lp' hr => ?_⟩
  · rw [f1.1 a b1 (by omega) (by omega) (by omega)]
    exact h.2.2.2.1 a b1 b2 b3
  · obtain ⟨_, _, _, hl⟩ := d1 t' l' lp' hr
    have hB := hl.1
    refine ⟨rivx_law r1 hb hs f1 hl, ?_, by rw [f1.2.1 6 (by decide) (by decide) (by decide)]; exact r3, r4, fun j hj => ?_⟩
    · obtain ⟨o1, o2, o3, o4, o5, o6, o7, o8, o9, o10, o11⟩ := r2
      rcases hb with e | e
      · subst e
        exact ⟨o1, o2, o3, o4, o5, o6, o7, o8, o9, hB, o11⟩
      · subst e
        exact ⟨o1, o2, o3, o4, o5, o6, o7, o8, o9, o10, hB⟩
    · rw [f1.1 10 (by omega) (by omega) (by omega) (by omega)]
      refine r5 j ?_
      rcases hb with e | e
      · subst e; exact hj
      · subst e; exact hj
theorem otherX (hs : isSp sp) (h : SgX B n nt sp I0 I (.inr (t, l, lp), s)) (hk : ¬ (256 ≤ Kt B n nt t ∧ Kt B n nt t ≤ 263)) : ∃ I', f_E_fail F 1 I = some I' ∧ SgX B n nt sp I0 I' (stA B n nt (.inr (t, l, lp), s)) := by
  have hst : stA B n nt (.inr (t, l, lp), s) = _ := (if_neg (show ¬ Kt B n nt t = 256 by omega)).trans ((if_neg (show ¬ Kt B n nt t = 257 by omega)).trans ((if_neg (show ¬ Kt B n nt t = 258 by omega)).trans ((if_neg (show ¬ Kt B n nt t = 259 by omega)).trans ((if_neg (show ¬ Kt B n nt t = 260 by omega)).trans ((if_neg (show ¬ Kt B n nt t = 261 by omega)).trans ((if_neg (show ¬ Kt B n nt t = 262 by omega)).trans (if_neg (show ¬ Kt B n nt t = 263 by omega))))))))
  rw [hst]
  obtain ⟨M, e, a⟩ := stx_fail (F := F) (w := 1) hs (by decide) (sg_st h)
  exact ⟨M, e, a.1, a.2.1, a.2.2.1, a.2.2.2.2.2.2.2, fun t' l' lp' h => by cases h⟩
theorem stepX {x : Int} (hF : 1000000 ≤ F) (hs : isSp sp) (h : SgX B n nt sp I0 I (.inr (t, l, lp), s)) (hk : Kt B n nt t ≠ 302) (hx : x ≤ 400) : ∃ I', f_E_readText_L34 F sp x I = some (.inr (w32 (x + 1), I')) ∧ SgX B n nt sp I0 I' (stA B n nt (.inr (t, l, lp), s)) := by
  obtain ⟨c1, c2, c3, c4, c5, c6⟩ := h.2.2.1
  unfold f_E_readText_L34
  rw [if_neg (by omega), if_neg (by simp [c3]), c4, if_pos (by omega), Int.toNat_natCast, (tkx_at h.1 c2).1, if_neg hk]
  by_cases g : Kt B n nt t = 256
  · rw [if_pos g]
    obtain ⟨I', e, a⟩ := riverX (F := F) hs h g
    rw [e]; exact ⟨I', rfl, a⟩
  rw [if_neg g]
  by_cases g : Kt B n nt t = 257
  · rw [if_pos g]
    obtain ⟨I', e, a⟩ := depthX (F := F) hs h g
    rw [e]; exact ⟨I', rfl, a⟩
  rw [if_neg g]
  by_cases g : Kt B n nt t = 258
  · rw [if_pos g]
    obtain ⟨I', e, a⟩ := flowX (F := F) hs h g
    rw [e]; exact ⟨I', rfl, a⟩
  rw [if_neg g]
  by_cases g : Kt B n nt t = 259
  · rw [if_pos g]
    obtain ⟨I', e, a⟩ := leapX (F := F) hs h g
    rw [e]; exact ⟨I', rfl, a⟩
  rw [if_neg g]
  by_cases g : Kt B n nt t = 260
  · rw [if_pos g]
    obtain ⟨I', e, a⟩ := leaverX (F := F) hF hs h g
    rw [e]; exact ⟨I', rfl, a⟩
  rw [if_neg g]
  by_cases g : Kt B n nt t = 261
  · rw [if_pos g]
    obtain ⟨I', e, a⟩ := floodX (F := F) hs h g
    rw [e]; exact ⟨I', rfl, a⟩
  rw [if_neg g]
  by_cases g : Kt B n nt t = 262
  · rw [if_pos g]
    obtain ⟨I', e, a⟩ := lawSX (F := F) 0 (Or.inl rfl) hF hs h (by omega)
    rw [show sp + 9 = sp + 9 + 5 * 0 from rfl, e]; exact ⟨I', rfl, a⟩
  rw [if_neg g]
  by_cases g : Kt B n nt t = 263
  · rw [if_pos g]
    obtain ⟨I', e, a⟩ := lawSX (F := F) 1 (Or.inr rfl) hF hs h (by omega)
    rw [show sp + 14 = sp + 9 + 5 * 1 from rfl, e]; exact ⟨I', rfl, a⟩
  rw [if_neg g]
  obtain ⟨I', e, a⟩ := otherX (F := F) hs h (by omega)
  rw [e]; exact ⟨I', rfl, a⟩
end
/-- nothing more is read -/
def Fin (B : Nat → Int) (n nt : Nat) (r : Ctl) : Prop := ∀ t l lp, r = .inr (t, l, lp) → Kt B n nt t = 302
theorem text_fin {B : Nat → Int} {n nt : Nat} {σ : SgT} (h : Fin B n nt σ.1) : ∀ f, textA B n nt f σ = σ
  | 0 => rfl
  | f + 1 => by
    obtain ⟨r, s⟩ := σ
    match r, h with
    | .inl e, h => rfl
    | .inr (t, l, lp), h => exact if_pos (h t l lp rfl)
theorem text_go {B : Nat → Int} {n nt t f : Nat} {l lp : Int} {s : RIV × Nat × (Nat → Nat)} (h : Kt B n nt t ≠ 302) : textA B n nt (f + 1) (.inr (t, l, lp), s) = textA B n nt f (stA B n nt (.inr (t, l, lp), s)) := if_neg h
theorem textLX {F n nt sp : Nat} {B : Nat → Int} {I0 I : MI} {σ : SgT} (hF : 1000000 ≤ F) (hs : isSp sp) (h : SgX B n nt sp I0 I σ) : ∃ I', iter (fun s : Int × MI => f_E_readText_L34 F sp s.1 s.2) F (0, I) = some I' ∧ SgX B n nt sp I0 I' (textA B n nt 402 σ) ∧ Fin B n nt (textA B n nt 402 σ).1 := by
  have key := wpo_iter (step := fun s : Int × MI => f_E_readText_L34 F sp s.1 s.2) (Q := fun N => SgX B n nt sp I0 N (textA B n nt 402 σ) ∧ Fin B n nt (textA B n nt 402 σ).1) (fun q => ∃ (j : Nat) (τ : SgT), j ≤ 401 ∧ q.1 = (j : Int) ∧ SgX B n nt sp I0 q.2 τ ∧ Ge τ.1 j ∧ textA B n nt (402 - j) τ = textA B n nt 402 σ) (fun q => 402 - q.1.toNat) ?_ (F := F) (s := ((0 : Int), I)) (by dsimp only; omega) ⟨0, σ, by omega, rfl, h, fun _ _ _ _ => Nat.zero_le _, rfl⟩
  · obtain ⟨N, e, q⟩ := key
    exact ⟨N, e, q⟩
  rintro ⟨x, N⟩ ⟨j, τ, h1, h2, h3, h4, h5⟩
  dsimp only at h2 h3 ⊢
  subst h2
  obtain ⟨r, s⟩ := τ
  by_cases hfin : Fin B n nt r
  · rw [text_fin (σ := (r, s)) hfin] at h5
    have done : f_E_readText_L34 F sp (j : Int) N = some (.inl N) := by
      unfold f_E_readText_L34
      by_cases g : 400 < (j : Int)
      · rw [if_pos g]
      rw [if_neg g]
      match r, h3, hfin with
      | .inl e, h3, _ =>
        obtain ⟨c1, c2, c3, t, c4, c5⟩ := h3.2.2.1
        rw [if_pos (by rw [c2]; exact c1)]
      | .inr (t, l, lp), h3, hfin =>
        obtain ⟨c1, c2, c3, c4, c5, c6⟩ := h3.2.2.1
        rw [if_neg (by simp [c3]), c4, if_pos (by omega), Int.toNat_natCast, (tkx_at h3.1 c2).1, if_pos (hfin t l lp rfl)]
    rw [done]
    refine wpo_s ⟨by rw [← h5]; exact h3, by rw [← h5]; exact hfin⟩
  · have : ∃ t l lp, r = .inr (t, l, lp) ∧ Kt B n nt t ≠ 302 := by
      match r, hfin with
      | .inl e, hfin => exact absurd (fun t l lp h => by cases h) hfin
      | .inr (t, l, lp), hfin => exact ⟨t, l, lp, rfl, fun hk => hfin (fun t' l' lp' h => by cases h; exact hk)⟩
    obtain ⟨t, l, lp, hr, hk⟩ := this
    subst hr
    have ht := h4 t l lp rfl
    have h400 := h3.2.2.1.1
    obtain ⟨I', e, a⟩ := stepX (F := F) (x := (j : Int)) hF hs h3 hk (by omega)
    rw [e, w32i (by omega) (by omega)]
    refine wpo_s ⟨⟨j + 1, _, by omega, by dsimp only; omega, a, ge_up ge_st (by omega), ?_⟩, by dsimp only; omega⟩
    rw [← h5, show 402 - j = (402 - (j + 1)) + 1 by omega, text_go hk]
def sg0 : SgT := (.inr (0, 0, 0), riv0, 0, fun _ => 0)
/-- what the whole comes to: code, place -/
def codeA : Ctl → Int × Int
  | .inl e => e
  | .inr (_, l, lp) => if l = 0 then (0, -1) else (l, lp)
theorem readTextX {F n sp : Nat} {B : Nat → Int} {I : MI} (hF : 1000000 ≤ F) (hs : isSp sp) (h : TpX I B n) : ∃ (I1 : MI) (nt : Nat), NTk B n nt ∧ f_E_readText F sp I = some ((codeA (textA B n nt 402 sg0).1).1, I1) ∧ ((codeA (textA B n nt 402 sg0).1).1 ≠ 0 → f_E_faultPlace F (up2 I1 2 1 0) = some (codeA (textA B n nt 402 sg0).1).2) ∧ (∀ a, a ≠ 4 → a ≠ 10 → a ≠ 6 → a ≠ 7 → a ≠ 8 → a ≠ 9 → (a < sp ∨ sp + 18 < a) → I1 a = I a) ∧ Fin B n nt (textA B n nt 402 sg0).1 ∧ ∀ t l lp, (textA B n nt 402 sg0).1 = .inr (t, l, lp) → RivX I1 sp (textA B n nt 402 sg0).2.1 ∧ RivOK (textA B n nt 402 sg0).2.1 := by
  have hs' : 11 ≤ sp := by rcases hs with e | e <;> omega
  obtain ⟨q1, nt, e1, t1, f1⟩ := scanX (F := F) hF h
  obtain ⟨q4, e2, r2, f2⟩ := X_clear (F := F) (rv := sp) hs (I := q1)
  unfold f_E_readText
  rw [e1, Option.bind_some, e2, Option.bind_some]
  have ff : ∀ a, a ≠ 4 → (a < sp ∨ sp + 18 < a) → (up2 (up2 (up2 (up2 q4 4 1 0) 4 2 0) 4 4 0) 4 6 0) a = q1 a := fun a b1 b2 => by
    rw [up2_off b1, up2_off b1, up2_off b1, up2_off b1]
    exact f2 a (by omega) (by omega) (by omega) (by omega) (by omega)
  have f4 : ∀ a, a ≠ 4 → (up2 (up2 (up2 (up2 q4 4 1 0) 4 2 0) 4 4 0) 4 6 0) a = q4 a := fun a b1 => by
    rw [up2_off b1, up2_off b1, up2_off b1, up2_off b1]
  have k1 : (up2 (up2 (up2 (up2 q4 4 1 0) 4 2 0) 4 4 0) 4 6 0) 4 1 = 0 := by rw [up2_k (by decide), up2_k (by decide), up2_k (by decide), up2_same]
  have k2 : (up2 (up2 (up2 (up2 q4 4 1 0) 4 2 0) 4 4 0) 4 6 0) 4 2 = 0 := by rw [up2_k (by decide), up2_k (by decide), up2_same]
  have k4 : (up2 (up2 (up2 (up2 q4 4 1 0) 4 2 0) 4 4 0) 4 6 0) 4 4 = 0 := by rw [up2_k (by decide), up2_same]
  have k6 : (up2 (up2 (up2 (up2 q4 4 1 0) 4 2 0) 4 4 0) 4 6 0) 4 6 = 0 := by rw [up2_same]
  generalize (up2 (up2 (up2 (up2 q4 4 1 0) 4 2 0) 4 4 0) 4 6 0) = Z at *
  have hsg : SgX B n nt sp q1 Z sg0 := ⟨tkx_congr t1 (fun a b1 b2 => ff a (by omega) (by omega)), tpx_congr h (by rw [ff 2 (by decide) (by omega), f1 2 (by decide) (by decide) (by decide) (by decide)]) (by rw [ff 3 (by decide) (by omega), f1 3 (by decide) (by decide) (by decide) (by decide)]), ⟨Nat.zero_le _, Nat.zero_le _, k2, k1, k4, fun hn => absurd rfl hn⟩, fun a b1 _ b3 => ff a b1 b3, fun t l lp _ => ⟨rivx_congr r2 (fun a b1 _ _ _ => f4 a (by omega)), riv0_ok, k6, by decide, fun j hj => absurd hj (by show ¬ (j : Int) < 0; omega)⟩⟩
  obtain ⟨I1, e3, a3, fin⟩ := textLX (F := F) hF hs hsg
  rw [e3, Option.bind_some]
  refine ⟨I1, nt, t1.1, ?_⟩
  generalize hR : textA B n nt 402 sg0 = R at *
  have hfr : ∀ a, a ≠ 4 → a ≠ 10 → a ≠ 6 → a ≠ 7 → a ≠ 8 → a ≠ 9 → (a < sp ∨ sp + 18 < a) → I1 a = I a := fun a b1 b2 b3 b4 b5 b6 b7 => by rw [a3.2.2.2.1 a b1 b2 b7, f1 a b3 b4 b5 b6]
  have hfp : f_E_faultPlace F (up2 I1 2 1 0) = if I1 4 2 = 0 then some (I1 4 5) else some (I1 4 3) := by
    unfold f_E_faultPlace
    rw [up2_r (by decide), up2_r (by decide), up2_r (by decide)]
  obtain ⟨r, s⟩ := R
  have hC := a3.2.2.1
  refine ⟨?_, ?_, hfr, fin, fun t l lp hr => ⟨(a3.2.2.2.2 t l lp hr).1, (a3.2.2.2.2 t l lp hr).2.1⟩⟩
  · match r, hC with
    | .inl e, hC =>
      obtain ⟨c1, c2, c3, c4⟩ := hC
      rw [if_neg (by rw [c2]; exact c1), c2]
      rfl
    | .inr (t, l, lp), hC =>
      obtain ⟨c1, c2, c3, c4, c5, c6⟩ := hC
      rw [if_pos c3, c5]
      show _ = some ((if l = 0 then ((0 : Int), (-1 : Int)) else (l, lp)).1, I1)
      by_cases g : l = 0
      · rw [if_pos g, g]
      · rw [if_neg g]
  · intro hne
    rw [hfp]
    match r, hC, hne with
    | .inl e, hC, _ =>
      obtain ⟨c1, c2, c3, c4⟩ := hC
      rw [if_neg (by rw [c2]; exact c1), c3]
      rfl
    | .inr (t, l, lp), hC, hne =>
      obtain ⟨c1, c2, c3, c4, c5, c6⟩ := hC
      have hne' : (if l = 0 then ((0 : Int), (-1 : Int)) else (l, lp)).1 ≠ 0 := hne
      show _ = some ((if l = 0 then ((0 : Int), (-1 : Int)) else (l, lp)).2)
      by_cases g : l = 0
      · rw [if_pos g] at hne'; exact absurd rfl hne'
      · rw [if_pos c3, if_neg g, c6 g]
