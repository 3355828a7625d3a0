/-! texts: the class reads a statement -/
theorem up2_both {I ρ : Nat → Nat → Int} {sp a b k j : Nat} {v : Int} (h : I (sp + b) j = ρ b j) : up2 I (sp + a) k v (sp + b) j = up2 ρ a k v b j := by
  by_cases g : b = a
  · subst g
    by_cases g2 : j = k
    · subst g2; rw [up2_same, up2_same]
    · rw [up2_k g2, up2_k g2]; exact h
  · rw [up2_r (by omega), up2_r (by omega)]; exact h
theorem rivx_put {I : MI} {sp a k : Nat} {v : Int} {ρ : RIV} (h : RivX I sp ρ) (ha : 1 ≤ a ∧ a ≤ 8) : RivX (up2 I (sp + a) k v) sp (upR ρ a k v) := by
  obtain ⟨h1, h2, h3, h4, h5, h6, h7, h8, h9, h10, h11⟩ := h
  have z : ∀ j, up2 I (sp + a) k v sp j = I sp j := fun j => up2_r (by omega)
  have z0 : ∀ j, (upR ρ a k v).1 0 j = ρ.1 0 j := fun j => up2_r (by omega)
  have zn : aN (upR ρ a k v) = aN ρ := z0 3
  have zf : aF (upR ρ a k v) = aF ρ := z0 4
  refine ⟨(z 0).trans (h1.trans (z0 0).symm), (z 1).trans (h2.trans (z0 1).symm), (z 2).trans (h3.trans (z0 2).symm), (z 5).trans (h4.trans zn.symm), (z 10).trans (h5.trans zf.symm), fun c hc => up2_both (h6 c hc), fun y hy => up2_both (h7 y hy), fun m hm => ?_, fun f hf => ?_, lawX_congr h10 (up2_off (by omega)) (up2_off (by omega)) (up2_off (by omega)), lawX_congr h11 (up2_off (by omega)) (up2_off (by omega)) (up2_off (by omega))⟩
  · rw [zn] at hm
    obtain ⟨b1, b2, b3, b4⟩ := h8 m hm
    exact ⟨up2_both b1, up2_both b2, up2_both b3, up2_both b4⟩
  · rw [zf] at hf
    obtain ⟨b1, b2⟩ := h9 f hf
    exact ⟨up2_both b1, up2_both b2⟩
theorem rivx_put0 {I : MI} {sp j : Nat} {v : Int} {ρ : RIV} (h : RivX I sp ρ) (hj : j ≤ 2) : RivX (up2 I sp j v) sp (upR ρ 0 j v) := by
  obtain ⟨h1, h2, h3, h4, h5, h6, h7, h8, h9, h10, h11⟩ := h
  have z : ∀ b i, up2 I sp j v (sp + (b + 1)) i = I (sp + (b + 1)) i := fun b i => up2_r (by omega)
  have z1 : ∀ b i, (upR ρ 0 j v).1 (b + 1) i = ρ.1 (b + 1) i := fun b i => by
    show up2 ρ.1 0 j v (b + 1) i = _
    exact up2_r (by omega)
  have zn : aN (upR ρ 0 j v) = aN ρ := up2_k (by omega)
  have zf : aF (upR ρ 0 j v) = aF ρ := up2_k (by omega)
  have b0 : ∀ i, I sp i = ρ.1 0 i → up2 I sp j v sp i = up2 ρ.1 0 j v 0 i := fun i hi => up2_both (sp := sp) (a := 0) (b := 0) hi
  refine ⟨b0 0 h1, b0 1 h2, b0 2 h3, (up2_k (by omega)).trans (h4.trans zn.symm), (up2_k (by omega)).trans (h5.trans zf.symm), fun c hc => (z 0 c).trans ((h6 c hc).trans (z1 0 c).symm), fun y hy => (z 1 y).trans ((h7 y hy).trans (z1 1 y).symm), fun m hm => ?_, fun f hf => ?_, lawX_congr h10 (up2_off (by omega)) (up2_off (by omega)) (up2_off (by omega)), lawX_congr h11 (up2_off (by omega)) (up2_off (by omega)) (up2_off (by omega))⟩
  · rw [zn] at hm
    obtain ⟨c1, c2, c3, c4⟩ := h8 m hm
    exact ⟨(z 2 m).trans (c1.trans (z1 2 m).symm), (z 3 m).trans (c2.trans (z1 3 m).symm), (z 4 m).trans (c3.trans (z1 4 m).symm), (z 5 m).trans (c4.trans (z1 5 m).symm)⟩
  · rw [zf] at hf
    obtain ⟨c1, c2⟩ := h9 f hf
    exact ⟨(z 6 f).trans (c1.trans (z1 6 f).symm), (z 7 f).trans (c2.trans (z1 7 f).symm)⟩
/-- in the middle of a statement -/
def StX (B : Nat → Int) (n nt sp : Nat) (I0 : MI) (N : Nat → Int) (d : Int) (S : Nat → Nat → Prop) (I : MI) (r : Ctl) (ρ : RIV) : Prop :=
  TkX I B n nt ∧ TpX I B n ∧ CtX nt I r ∧ RivX I sp ρ ∧ (∀ a k, S a k → I (sp + a) k = ρ.1 a k) ∧ I 10 = N ∧ I 4 6 = d ∧ ∀ a, a ≠ 4 → a ≠ 10 → (a < sp ∨ sp + 18 < a) → I a = I0 a
def isSp (sp : Nat) : Prop := sp = 11 ∨ sp = 30
theorem stx_4 {B : Nat → Int} {n nt sp : Nat} {I0 I I' : MI} {N : Nat → Int} {d : Int} {S : Nat → Nat → Prop} {r r' : Ctl} {ρ : RIV} (hs : isSp sp) (h : StX B n nt sp I0 N d S I r ρ) (hC : CtX nt I' r') (hf : Fr4i I I') : StX B n nt sp I0 N d S I' r' ρ := by
  obtain ⟨h1, h2, h3, h4, h5, h6, h7, h8⟩ := h
  have hs' : 11 ≤ sp := by rcases hs with e | e <;> omega
  refine ⟨tkx_4 h1 hf.1, tpx_congr h2 (by rw [hf.1 2 (by decide)]) (by rw [hf.1 3 (by decide)]), hC, rivx_congr h4 (fun a b1 _ _ _ => hf.1 a (by omega)), fun a k hk => by rw [hf.1 _ (by omega)]; exact h5 a k hk, by rw [hf.1 10 (by decide)]; exact h6, by rw [hf.2 6 (by decide) (by decide) (by decide) (by decide) (by decide)]; exact h7, fun a b1 b2 b3 => by rw [hf.1 a b1]; exact h8 a b1 b2 b3⟩
theorem stx_take {F : Nat} {B : Nat → Int} {n nt sp : Nat} {I0 I : MI} {N : Nat → Int} {d k : Int} {S : Nat → Nat → Prop} {r : Ctl} {ρ : RIV} (hs : isSp sp) (hk : k ≠ 302) (h : StX B n nt sp I0 N d S I r ρ) : ∃ I', f_E_take F k I = some I' ∧ StX B n nt sp I0 N d S I' (takeA (Kt B n nt) (PP B n nt) k r) ρ := by
  obtain ⟨M, e1, a1, f1⟩ := takeX (F := F) (k := k) h.1 h.2.2.1 hk
  exact ⟨M, e1, stx_4 hs h a1 (fr4i_of f1)⟩
theorem stx_fail {F : Nat} {B : Nat → Int} {n nt sp : Nat} {I0 I : MI} {N : Nat → Int} {d w : Int} {S : Nat → Nat → Prop} {r : Ctl} {ρ : RIV} (hs : isSp sp) (hw : w ≠ 0) (h : StX B n nt sp I0 N d S I r ρ) : ∃ I', f_E_fail F w I = some I' ∧ StX B n nt sp I0 N d S I' (failA (PP B n nt) w r) ρ := by
  obtain ⟨M, e1, a1, f1⟩ := failX (F := F) (w := w) h.1 h.2.2.1 hw
  exact ⟨M, e1, stx_4 hs h a1 (fr4i_of f1)⟩
theorem stx_int {F : Nat} {B : Nat → Int} {n nt sp : Nat} {I0 I : MI} {N : Nat → Int} {d lo hi : Int} {S : Nat → Nat → Prop} {r : Ctl} {ρ : RIV} (hs : isSp sp) (hb : lo ≤ hi) (h : StX B n nt sp I0 N d S I r ρ) : ∃ I', f_E_takeInt F lo hi I = some ((intA (Kt B n nt) (PP B n nt) (Vt B n) lo hi r).1, I') ∧ StX B n nt sp I0 N d S I' (intA (Kt B n nt) (PP B n nt) (Vt B n) lo hi r).2 ρ ∧ lo ≤ (intA (Kt B n nt) (PP B n nt) (Vt B n) lo hi r).1 ∧ (intA (Kt B n nt) (PP B n nt) (Vt B n) lo hi r).1 ≤ hi := by
  obtain ⟨M, e1, a1, f1⟩ := intX (F := F) (lo := lo) (hi := hi) h.1 h.2.2.1
  exact ⟨M, e1, stx_4 hs h a1 f1, intA_bd hb⟩
theorem stx_put {B : Nat → Int} {n nt sp a k : Nat} {v : Int} {I0 I : MI} {N : Nat → Int} {d : Int} {S : Nat → Nat → Prop} {r : Ctl} {ρ : RIV} (hs : isSp sp) (ha : 1 ≤ a ∧ a ≤ 8) (h : StX B n nt sp I0 N d S I r ρ) : StX B n nt sp I0 N d (fun a' k' => S a' k' ∨ (a' = a ∧ k' = k)) (up2 I (sp + a) k v) r (upR ρ a k v) := by
  obtain ⟨h1, h2, h3, h4, h5, h6, h7, h8⟩ := h
  have hs' : 11 ≤ sp := by rcases hs with e | e <;> omega
  refine ⟨tkx_congr h1 (fun b b1 b2 => up2_off (by omega)), tpx_congr h2 (by rw [up2_off (by omega)]) (by rw [up2_off (by omega)]), ?_, rivx_put h4 ha, fun a' k' hk => ?_, by rw [up2_off (by omega)]; exact h6, by rw [up2_r (by omega)]; exact h7, fun b b1 b2 b3 => by rw [up2_off (by omega)]; exact h8 b b1 b2 b3⟩
  · have e : up2 I (sp + a) k v 4 = I 4 := up2_off (by omega)
    match r, h3 with
    | .inl e', h => unfold CtX at h ⊢; rw [e]; exact h
    | .inr (t, l, lp), h => unfold CtX at h ⊢; rw [e]; exact h
  · rcases hk with hk | ⟨g1, g2⟩
    · exact up2_both (h5 a' k' hk)
    · subst g1; subst g2
      rw [up2_same]
      exact up2_same.symm
theorem stx_put0 {B : Nat → Int} {n nt sp j : Nat} {v : Int} {I0 I : MI} {N : Nat → Int} {d : Int} {S : Nat → Nat → Prop} {r : Ctl} {ρ : RIV} (hs : isSp sp) (hj : j ≤ 2) (h : StX B n nt sp I0 N d S I r ρ) : StX B n nt sp I0 N d (fun _ _ => False) (up2 I sp j v) r (upR ρ 0 j v) := by
  obtain ⟨h1, h2, h3, h4, h5, h6, h7, h8⟩ := h
  have hs' : 11 ≤ sp := by rcases hs with e | e <;> omega
  refine ⟨tkx_congr h1 (fun b b1 b2 => up2_off (by omega)), tpx_congr h2 (by rw [up2_off (by omega)]) (by rw [up2_off (by omega)]), ?_, rivx_put0 h4 hj, fun a' k' hk => hk.elim, by rw [up2_off (by omega)]; exact h6, by rw [up2_r (by omega)]; exact h7, fun b b1 b2 b3 => by rw [up2_off (by omega)]; exact h8 b b1 b2 b3⟩
  have e : up2 I sp j v 4 = I 4 := up2_off (by omega)
  match r, h3 with
  | .inl e', h => unfold CtX at h ⊢; rw [e]; exact h
  | .inr (t, l, lp), h => unfold CtX at h ⊢; rw [e]; exact h
/-! the bounds of a river while it is told -/
theorem upR_f {ρ : RIV} {a b k : Nat} {v : Int} (h : b ≠ a) {j : Nat} : (upR ρ a k v).1 b j = ρ.1 b j := up2_r h
theorem upR_k {ρ : RIV} {a k j : Nat} {v : Int} (h : j ≠ k) : (upR ρ a k v).1 a j = ρ.1 a j := up2_k h
theorem upR_s {ρ : RIV} {a k : Nat} {v : Int} : (upR ρ a k v).1 a k = v := up2_same
theorem ok_0 {ρ : RIV} {j : Nat} {v : Int} (h : RivOK ρ) (hj : (j = 0 ∧ 1 ≤ v ∧ v ≤ 12) ∨ (j = 1 ∧ 1 ≤ v ∧ v ≤ 8) ∨ (j = 2 ∧ 1 ≤ v ∧ v ≤ 4)) : RivOK (upR ρ 0 j v) := by
  obtain ⟨h1, h2, h3, h4, h5, h6, h7, h8, h9, h10, h11⟩ := h
  have b : ∀ i, (upR ρ 0 j v).1 0 i = if i = j then v else ρ.1 0 i := fun i => by
    by_cases g : i = j
    · rw [if_pos g, g]; exact up2_same
    · rw [if_neg g]; exact up2_k g
  have hN : aN (upR ρ 0 j v) = aN ρ := (b 3).trans (if_neg (by omega))
  have hFl : aF (upR ρ 0 j v) = aF ρ := (b 4).trans (if_neg (by omega))
  refine ⟨?_, ?_, ?_, by rw [hN]; exact h4, by rw [hFl]; exact h5, h6, h7, fun m hm => h8 m (by rw [hN] at hm; exact hm), fun f hf => h9 f (by rw [hFl] at hf; exact hf), h10, h11⟩
  · show 1 ≤ (upR ρ 0 j v).1 0 0 ∧ (upR ρ 0 j v).1 0 0 ≤ 12
    rw [b]; unfold aL at h1; split <;> omega
  · show 1 ≤ (upR ρ 0 j v).1 0 1 ∧ (upR ρ 0 j v).1 0 1 ≤ 8
    rw [b]; unfold aW at h2; split <;> omega
  · show 1 ≤ (upR ρ 0 j v).1 0 2 ∧ (upR ρ 0 j v).1 0 2 ≤ 4
    rw [b]; unfold aJ at h3; split <;> omega
theorem ok_12 {ρ : RIV} {a k : Nat} {v : Int} (h : RivOK ρ) (ha : a = 1 ∨ a = 2) (hv : 0 ≤ v ∧ v ≤ 9) : RivOK (upR ρ a k v) := by
  obtain ⟨h1, h2, h3, h4, h5, h6, h7, h8, h9, h10, h11⟩ := h
  have b0 : ∀ i, (upR ρ a k v).1 0 i = ρ.1 0 i := fun i => up2_r (by omega)
  have bb : ∀ b i, 0 ≤ ρ.1 b i ∧ ρ.1 b i ≤ 9 → 0 ≤ (upR ρ a k v).1 b i ∧ (upR ρ a k v).1 b i ≤ 9 := fun b i hb => by
    show 0 ≤ up2 ρ.1 a k v b i ∧ up2 ρ.1 a k v b i ≤ 9
    by_cases g : b = a
    · subst g
      by_cases g2 : i = k
      · subst g2; rw [up2_same]; exact hv
      · rw [up2_k g2]; exact hb
    · rw [up2_r g]; exact hb
  have hr : ∀ b i, 3 ≤ b → (upR ρ a k v).1 b i = ρ.1 b i := fun b i hb => up2_r (by omega)
  have hN : aN (upR ρ a k v) = aN ρ := b0 3
  have hFl : aF (upR ρ a k v) = aF ρ := b0 4
  refine ⟨by unfold aL; rw [b0]; exact h1, by unfold aW; rw [b0]; exact h2, by unfold aJ; rw [b0]; exact h3, by rw [hN]; exact h4, by rw [hFl]; exact h5, fun c hc => bb 1 c (h6 c hc), fun y hy => bb 2 y (h7 y hy), fun m hm => ?_, fun f hf => ?_, h10, h11⟩
  · unfold fsd siz man gri
    rw [hr _ _ (by omega), hr _ _ (by omega), hr _ _ (by omega), hr _ _ (by omega)]
    exact h8 m (by rw [hN] at hm; exact hm)
  · unfold fld frc
    rw [hr _ _ (by omega), hr _ _ (by omega)]
    exact h9 f (by rw [hFl] at hf; exact hf)
/-- a leaver more -/
def leaR (ρ : RIV) (v1 v2 v3 v4 : Int) : RIV := upR (upR (upR (upR (upR ρ 3 (aN ρ).toNat v1) 4 (aN ρ).toNat v2) 5 (aN ρ).toNat v3) 6 (aN ρ).toNat v4) 0 3 (aN ρ + 1)
def flR (ρ : RIV) (v1 v2 : Int) : RIV := upR (upR (upR ρ 7 (aF ρ).toNat v1) 8 (aF ρ).toNat v2) 0 4 (aF ρ + 1)
theorem leaR_0 {ρ : RIV} {v1 v2 v3 v4 : Int} {j : Nat} : (leaR ρ v1 v2 v3 v4).1 0 j = if j = 3 then aN ρ + 1 else ρ.1 0 j := by
  unfold leaR upR
  by_cases g : j = 3
  · subst g; rw [if_pos rfl]; dsimp only; exact up2_same
  · rw [if_neg g]
    dsimp only
    rw [up2_k g, up2_r (by decide), up2_r (by decide), up2_r (by decide), up2_r (by decide)]
theorem flR_0 {ρ : RIV} {v1 v2 : Int} {j : Nat} : (flR ρ v1 v2).1 0 j = if j = 4 then aF ρ + 1 else ρ.1 0 j := by
  unfold flR upR
  by_cases g : j = 4
  · subst g; rw [if_pos rfl]; dsimp only; exact up2_same
  · rw [if_neg g]
    dsimp only
    rw [up2_k g, up2_r (by decide), up2_r (by decide)]
theorem leaR_m {ρ : RIV} {v1 v2 v3 v4 : Int} {m : Nat} : fsd (leaR ρ v1 v2 v3 v4) m = (if m = (aN ρ).toNat then v1 else fsd ρ m) ∧ siz (leaR ρ v1 v2 v3 v4) m = (if m = (aN ρ).toNat then v2 else siz ρ m) ∧ man (leaR ρ v1 v2 v3 v4) m = (if m = (aN ρ).toNat then v3 else man ρ m) ∧ gri (leaR ρ v1 v2 v3 v4) m = (if m = (aN ρ).toNat then v4 else gri ρ m) := by
  unfold leaR upR fsd siz man gri up2
  simp
theorem flR_m {ρ : RIV} {v1 v2 : Int} {m : Nat} : fld (flR ρ v1 v2) m = (if m = (aF ρ).toNat then v1 else fld ρ m) ∧ frc (flR ρ v1 v2) m = (if m = (aF ρ).toNat then v2 else frc ρ m) := by
  unfold flR upR fld frc up2
  simp
theorem leaR_o {ρ : RIV} {v1 v2 v3 v4 : Int} {a j : Nat} (h : a = 1 ∨ a = 2 ∨ a = 7 ∨ a = 8) : (leaR ρ v1 v2 v3 v4).1 a j = ρ.1 a j := by
  unfold leaR upR
  dsimp only
  rw [up2_r (by omega), up2_r (by omega), up2_r (by omega), up2_r (by omega), up2_r (by omega)]
theorem flR_o {ρ : RIV} {v1 v2 : Int} {a j : Nat} (h : 1 ≤ a ∧ a ≤ 6) : (flR ρ v1 v2).1 a j = ρ.1 a j := by
  unfold flR upR
  dsimp only
  rw [up2_r (by omega), up2_r (by omega), up2_r (by omega)]
theorem ok_lea {ρ : RIV} {v1 v2 v3 v4 : Int} (h : RivOK ρ) (h8' : aN ρ < 8) (b1 : 0 ≤ v1 ∧ v1 ≤ 99) (b2 : 1 ≤ v2 ∧ v2 ≤ 9) (b3 : 1 ≤ v3 ∧ v3 ≤ 9) (b4 : 0 ≤ v4 ∧ v4 ≤ 99) : RivOK (leaR ρ v1 v2 v3 v4) := by
  obtain ⟨h1, h2, h3, h4, h5, h6, h7, h8, h9, h10, h11⟩ := h
  have hN : aN (leaR ρ v1 v2 v3 v4) = aN ρ + 1 := leaR_0.trans (if_pos rfl)
  have hFl : aF (leaR ρ v1 v2 v3 v4) = aF ρ := leaR_0.trans (if_neg (by decide))
  refine ⟨by unfold aL; rw [leaR_0]; exact h1, by unfold aW; rw [leaR_0]; exact h2, by unfold aJ; rw [leaR_0]; exact h3, by rw [hN]; omega, by rw [hFl]; exact h5, fun c hc => by unfold dep; rw [leaR_o (by omega)]; exact h6 c hc, fun y hy => by unfold flo; rw [leaR_o (by omega)]; exact h7 y hy, fun m hm => ?_, fun f hf => ?_, h10, h11⟩
  · obtain ⟨e1, e2, e3, e4⟩ := leaR_m (ρ := ρ) (v1 := v1) (v2 := v2) (v3 := v3) (v4 := v4) (m := m)
    rw [e1, e2, e3, e4]
    by_cases g : m = (aN ρ).toNat
    · rw [if_pos g, if_pos g, if_pos g, if_pos g]
      exact ⟨b1, b2, b3, b4⟩
    · rw [if_neg g, if_neg g, if_neg g, if_neg g]
      exact h8 m (by rw [hN] at hm; omega)
  · unfold fld frc
    rw [leaR_o (by omega), leaR_o (by omega)]
    exact h9 f (by rw [hFl] at hf; exact hf)
theorem ok_fl {ρ : RIV} {v1 v2 : Int} (h : RivOK ρ) (h8' : aF ρ < 8) (b1 : 0 ≤ v1 ∧ v1 ≤ 199) (b2 : 1 ≤ v2 ∧ v2 ≤ 12) : RivOK (flR ρ v1 v2) := by
  obtain ⟨h1, h2, h3, h4, h5, h6, h7, h8, h9, h10, h11⟩ := h
  have hN : aN (flR ρ v1 v2) = aN ρ := flR_0.trans (if_neg (by decide))
  have hFl : aF (flR ρ v1 v2) = aF ρ + 1 := flR_0.trans (if_pos rfl)
  refine ⟨by unfold aL; rw [flR_0]; exact h1, by unfold aW; rw [flR_0]; exact h2, by unfold aJ; rw [flR_0]; exact h3, by rw [hN]; exact h4, by rw [hFl]; omega, fun c hc => by unfold dep; rw [flR_o (by omega)]; exact h6 c hc, fun y hy => by unfold flo; rw [flR_o (by omega)]; exact h7 y hy, fun m hm => ?_, fun f hf => ?_, h10, h11⟩
  · unfold fsd siz man gri
    rw [flR_o (by omega), flR_o (by omega), flR_o (by omega), flR_o (by omega)]
    exact h8 m (by rw [hN] at hm; exact hm)
  · obtain ⟨e1, e2⟩ := flR_m (ρ := ρ) (v1 := v1) (v2 := v2) (m := f)
    rw [e1, e2]
    by_cases g : f = (aF ρ).toNat
    · rw [if_pos g, if_pos g]; exact ⟨b1, b2⟩
    · rw [if_neg g, if_neg g]
      exact h9 f (by rw [hFl] at hf; omega)
