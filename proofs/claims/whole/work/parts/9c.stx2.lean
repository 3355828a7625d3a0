/-! texts: the class reads each statement -/
def SgX (B : Nat → Int) (n nt sp : Nat) (I0 I : MI) (σ : SgT) : Prop :=
  TkX I B n nt ∧ TpX I B n ∧ CtX nt I σ.1 ∧ (∀ a, a ≠ 4 → a ≠ 10 → (a < sp ∨ sp + 18 < a) → I a = I0 a) ∧ ∀ t l lp, σ.1 = .inr (t, l, lp) → RivX I sp σ.2.1 ∧ RivOK σ.2.1 ∧ I 4 6 = ((σ.2.2.1 : Nat) : Int) ∧ σ.2.2.1 ≤ 20 ∧ ∀ j : Nat, (j : Int) < aN σ.2.1 → I 10 j = ((σ.2.2.2 j : Nat) : Int) ∧ σ.2.2.2 j < nt
section
variable {F n nt sp t : Nat} {B : Nat → Int} {I0 I : MI} {l lp : Int} {s : RIV × Nat × (Nat → Nat)}
theorem sg_st (h : SgX B n nt sp I0 I (.inr (t, l, lp), s)) : StX B n nt sp I0 (I 10) ((s.2.1 : Nat) : Int) (fun _ _ => False) I (.inr (t, l, lp)) s.1 := by
  obtain ⟨h1, h2, h3, h4, h5⟩ := h
  obtain ⟨r1, r2, r3, r4, r5⟩ := h5 t l lp rfl
  exact ⟨h1, h2, h3, r1, fun _ _ hf => hf.elim, rfl, r3, h4⟩
theorem st_sg {I' : MI} {r : Ctl} {ρ' : RIV} {N : Nat → Int} {S : Nat → Nat → Prop} {dn : Nat} {nm : Nat → Nat} (h : StX B n nt sp I0 N ((dn : Nat) : Int) S I' r ρ') (ho : RivOK ρ') (hd : dn ≤ 20) (hn : ∀ j : Nat, (j : Int) < aN ρ' → N j = ((nm j : Nat) : Int) ∧ nm j < nt) : SgX B n nt sp I0 I' (r, ρ', dn, nm) := by
  obtain ⟨h1, h2, h3, h4, h5, h6, h7, h8⟩ := h
  exact ⟨h1, h2, h3, h8, fun _ _ _ _ => ⟨h4, ho, h7, hd, by rw [h6]; exact hn⟩⟩
theorem riverX (hs : isSp sp) (h : SgX B n nt sp I0 I (.inr (t, l, lp), s)) (hk : Kt B n nt t = 256) : ∃ I', f_E_readRiver F sp I = some I' ∧ SgX B n nt sp I0 I' (stA B n nt (.inr (t, l, lp), s)) := by
  obtain ⟨r1, r2, r3, r4, r5⟩ := h.2.2.2.2 t l lp rfl
  dsimp only at r1 r2 r3 r4 r5
  obtain ⟨M1, e1, a1⟩ := stx_take (F := F) (k := 256) hs (by decide) (sg_st h)
  obtain ⟨M2, e2, a2, b2⟩ := stx_int (F := F) (lo := 1) (hi := 12) hs (by decide) a1
  obtain ⟨M3, e3, a3, b3⟩ := stx_int (F := F) (lo := 1) (hi := 8) hs (by decide) (stx_put0 (j := 0) hs (by decide) a2)
  obtain ⟨M4, e4, a4⟩ := stx_take (F := F) (k := 59) hs (by decide) (stx_put0 (j := 1) hs (by decide) a3)
  have hst : stA B n nt (.inr (t, l, lp), s) = _ := if_pos hk
  rw [hst]
  unfold f_E_readRiver
  rw [e1, Option.bind_some, e2, Option.bind_some]
  dsimp only
  rw [e3, Option.bind_some]
  dsimp only
  rw [e4, Option.bind_some]
  refine ⟨M4, rfl, st_sg a4 (ok_0 (ok_0 r2 (Or.inl ⟨rfl, b2⟩)) (Or.inr (Or.inl ⟨rfl, b3⟩))) r4 (fun j hj => r5 j hj)⟩
theorem leapX (hs : isSp sp) (h : SgX B n nt sp I0 I (.inr (t, l, lp), s)) (hk : Kt B n nt t = 259) : ∃ I', f_E_readLeap F sp I = some I' ∧ SgX B n nt sp I0 I' (stA B n nt (.inr (t, l, lp), s)) := by
  obtain ⟨r1, r2, r3, r4, r5⟩ := h.2.2.2.2 t l lp rfl
  dsimp only at r1 r2 r3 r4 r5
  obtain ⟨M1, e1, a1⟩ := stx_take (F := F) (k := 259) hs (by decide) (sg_st h)
  obtain ⟨M2, e2, a2, b2⟩ := stx_int (F := F) (lo := 1) (hi := 4) hs (by decide) a1
  obtain ⟨M4, e4, a4⟩ := stx_take (F := F) (k := 59) hs (by decide) (stx_put0 (j := 2) hs (by decide) a2)
  have hst : stA B n nt (.inr (t, l, lp), s) = _ := (if_neg (show ¬ Kt B n nt t = 256 by omega)).trans ((if_neg (show ¬ Kt B n nt t = 257 by omega)).trans ((if_neg (show ¬ Kt B n nt t = 258 by omega)).trans (if_pos hk)))
  rw [hst]
  unfold f_E_readLeap
  rw [e1, Option.bind_some, e2, Option.bind_some]
  dsimp only
  rw [e4, Option.bind_some]
  exact ⟨M4, rfl, st_sg a4 (ok_0 r2 (Or.inr (Or.inr ⟨rfl, b2⟩))) r4 (fun j hj => r5 j hj)⟩
theorem flowX (hs : isSp sp) (h : SgX B n nt sp I0 I (.inr (t, l, lp), s)) (hk : Kt B n nt t = 258) : ∃ I', f_E_readFlow F sp I = some I' ∧ SgX B n nt sp I0 I' (stA B n nt (.inr (t, l, lp), s)) := by
  obtain ⟨r1, r2, r3, r4, r5⟩ := h.2.2.2.2 t l lp rfl
  dsimp only at r1 r2 r3 r4 r5
  obtain ⟨M1, e1, a1⟩ := stx_take (F := F) (k := 258) hs (by decide) (sg_st h)
  obtain ⟨M2, e2, a2, b2⟩ := stx_int (F := F) (lo := 0) (hi := 7) hs (by decide) a1
  obtain ⟨M3, e3, a3, b3⟩ := stx_int (F := F) (lo := 0) (hi := 9) hs (by decide) a2
  obtain ⟨M4, e4, a4⟩ := stx_take (F := F) (k := 59) hs (by decide) (stx_put (a := 2) (k := (intA (Kt B n nt) (PP B n nt) (Vt B n) 0 7 (takeA (Kt B n nt) (PP B n nt) 258 (.inr (t, l, lp)))).1.toNat) (v := (intA (Kt B n nt) (PP B n nt) (Vt B n) 0 9 (intA (Kt B n nt) (PP B n nt) (Vt B n) 0 7 (takeA (Kt B n nt) (PP B n nt) 258 (.inr (t, l, lp)))).2).1) hs (by decide) a3)
  have hst : stA B n nt (.inr (t, l, lp), s) = _ := (if_neg (show ¬ Kt B n nt t = 256 by omega)).trans ((if_neg (show ¬ Kt B n nt t = 257 by omega)).trans (if_pos hk))
  rw [hst]
  unfold f_E_readFlow
  rw [e1, Option.bind_some, e2, Option.bind_some]
  dsimp only
  rw [e3, Option.bind_some, if_pos (by omega)]
  dsimp only
  rw [e4, Option.bind_some]
  exact ⟨M4, rfl, st_sg a4 (ok_12 r2 (Or.inr rfl) b3) r4 (fun j hj => r5 j hj)⟩
theorem stx_cnt {B : Nat → Int} {n nt sp : Nat} {v : Int} {I0 I : MI} {N : Nat → Int} {d : Int} {S : Nat → Nat → Prop} {r : Ctl} {ρ : RIV} (hs : isSp sp) (h : StX B n nt sp I0 N d S I r ρ) : StX B n nt sp I0 N v S (up2 I 4 6 v) r ρ := by
  obtain ⟨h1, h2, h3, h4, h5, h6, h7, h8⟩ := h
  have hs' : 11 ≤ sp := by rcases hs with e | e <;> omega
  refine ⟨tkx_congr h1 (fun b b1 b2 => up2_off (by omega)), tpx_congr h2 (by rw [up2_off (by omega)]) (by rw [up2_off (by omega)]), ?_, rivx_congr h4 (fun a b1 _ _ _ => up2_off (by omega)), fun a' k' hk => by rw [up2_off (by omega)]; exact h5 a' k' hk, by rw [up2_off (by omega)]; exact h6, up2_same, fun b b1 b2 b3 => by rw [up2_off b1]; exact h8 b b1 b2 b3⟩
  have e : ∀ j, j ≠ 6 → up2 I 4 6 v 4 j = I 4 j := fun j hj => up2_k hj
  match r, h3 with
  | .inl e', h =>
    obtain ⟨c1, c2, c3, t', c4, c5⟩ := h
    exact ⟨c1, by rw [e 2 (by decide)]; exact c2, by rw [e 3 (by decide)]; exact c3, t', c4, by rw [e 1 (by decide)]; exact c5⟩
  | .inr (t, l, lp), h =>
    obtain ⟨c1, c2, c3, c4, c5, c6⟩ := h
    exact ⟨c1, c2, by rw [e 2 (by decide)]; exact c3, by rw [e 1 (by decide)]; exact c4, by rw [e 4 (by decide)]; exact c5, fun g => by rw [e 5 (by decide)]; exact c6 g⟩
theorem depthX (hs : isSp sp) (h : SgX B n nt sp I0 I (.inr (t, l, lp), s)) (hk : Kt B n nt t = 257) : ∃ I', f_E_readDepth F sp I = some I' ∧ SgX B n nt sp I0 I' (stA B n nt (.inr (t, l, lp), s)) := by
  obtain ⟨r1, r2, r3, r4, r5⟩ := h.2.2.2.2 t l lp rfl
  dsimp only at r1 r2 r3 r4 r5
  have hst : stA B n nt (.inr (t, l, lp), s) = _ := (if_neg (show ¬ Kt B n nt t = 256 by omega)).trans (if_pos hk)
  rw [hst]
  generalize hR : (if 20 ≤ s.2.1 then failA (PP B n nt) 2 (.inr (t, l, lp)) else (.inr (t, l, lp) : Ctl)) = R at *
  have body : ∀ I1 : MI, StX B n nt sp I0 (I 10) ((s.2.1 : Nat) : Int) (fun _ _ => False) I1 R s.1 → ∃ I', f_E_readDepth_b14 F sp I1 = some I' ∧ SgX B n nt sp I0 I' (takeA (Kt B n nt) (PP B n nt) 59 (intA (Kt B n nt) (PP B n nt) (Vt B n) 0 9 (intA (Kt B n nt) (PP B n nt) (Vt B n) 0 7 (intA (Kt B n nt) (PP B n nt) (Vt B n) 0 11 (takeA (Kt B n nt) (PP B n nt) 257 R)).2).2).2, upR s.1 1 (12 * (intA (Kt B n nt) (PP B n nt) (Vt B n) 0 7 (intA (Kt B n nt) (PP B n nt) (Vt B n) 0 11 (takeA (Kt B n nt) (PP B n nt) 257 R)).2).1 + (intA (Kt B n nt) (PP B n nt) (Vt B n) 0 11 (takeA (Kt B n nt) (PP B n nt) 257 R)).1).toNat (intA (Kt B n nt) (PP B n nt) (Vt B n) 0 9 (intA (Kt B n nt) (PP B n nt) (Vt B n) 0 7 (intA (Kt B n nt) (PP B n nt) (Vt B n) 0 11 (takeA (Kt B n nt) (PP B n nt) 257 R)).2).2).1, s.2.1 + 1, s.2.2) := by
    intro I1 h1
    have hd : I1 4 6 = ((s.2.1 : Nat) : Int) := h1.2.2.2.2.2.2.1
    have hw : w32 (I1 4 6 + 1) = ((s.2.1 + 1 : Nat) : Int) := by rw [hd, w32i (by omega) (by omega)]; omega
    obtain ⟨M1, e1, a1⟩ := stx_take (F := F) (k := 257) hs (by decide) (stx_cnt (v := ((s.2.1 + 1 : Nat) : Int)) hs h1)
    obtain ⟨M2, e2, a2, b2⟩ := stx_int (F := F) (lo := 0) (hi := 11) hs (by decide) a1
    obtain ⟨M3, e3, a3, b3⟩ := stx_int (F := F) (lo := 0) (hi := 7) hs (by decide) a2
    obtain ⟨M4, e4, a4, b4⟩ := stx_int (F := F) (lo := 0) (hi := 9) hs (by decide) a3
    unfold f_E_readDepth_b14
    rw [hw, e1, Option.bind_some, e2, Option.bind_some]
    dsimp only
    rw [e3, Option.bind_some]
    dsimp only
    unfold f_X_cellNumber
    rw [Option.bind_some, e4, Option.bind_some]
    have hlast : s.2.1 + 1 ≤ 20 ∨ ∃ e, R = .inl e := by
      by_cases g : 20 ≤ s.2.1
      · rw [if_pos g] at hR
        exact Or.inr ⟨_, hR.symm⟩
      · exact Or.inl (by omega)
    generalize hq1 : intA (Kt B n nt) (PP B n nt) (Vt B n) 0 11 (takeA (Kt B n nt) (PP B n nt) 257 R) = q1 at *
    generalize hq2 : intA (Kt B n nt) (PP B n nt) (Vt B n) 0 7 q1.2 = q2 at *
    generalize hq3 : intA (Kt B n nt) (PP B n nt) (Vt B n) 0 9 q2.2 = q3 at *
    have hc : w32 (w32 (q2.1 * 12) + q1.1) = 12 * q2.1 + q1.1 := by
      rw [w32i (x := q2.1 * 12) (by omega) (by omega), w32i (by omega) (by omega)]
      omega
    rw [hc, if_pos (by omega)]
    obtain ⟨M5, e5, a5⟩ := stx_take (F := F) (k := 59) hs (by decide) (stx_put (a := 1) (k := (12 * q2.1 + q1.1).toNat) (v := q3.1) hs (by decide) a4)
    dsimp only
    rw [e5, Option.bind_some]
    refine ⟨M5, rfl, ?_⟩
    rcases hlast with g | ⟨e, he⟩
    · exact st_sg a5 (ok_12 r2 (Or.inl rfl) b4) g (fun j hj => r5 j hj)
    · refine ⟨a5.1, a5.2.1, a5.2.2.1, a5.2.2.2.2.2.2.2, fun t' l' lp' h => ?_⟩
      rw [← hq3, ← hq2, ← hq1, he] at h
      cases h
  unfold f_E_readDepth
  have h0 := sg_st h
  by_cases g : 20 ≤ s.2.1
  · rw [if_neg (by rw [r3]; omega)]
    rw [if_pos g] at hR
    obtain ⟨M, e, a⟩ := stx_fail (F := F) (w := 2) hs (by decide) h0
    rw [hR] at a
    rw [e, Option.bind_some]
    exact body M a
  · rw [if_pos (by rw [r3]; omega)]
    rw [if_neg g] at hR
    rw [hR] at h0
    exact body I h0
end
