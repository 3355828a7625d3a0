/-! texts: the model reads a term, whole -/
theorem cfe_pop6 {p0 h : Nat} {I0 I : MI} {W : List Int} {c : LCode} (H : CfE p0 h I0 I (6 :: W) c) : CfE p0 h I0 (up2 (up2 I 296 48 ((W.length : Nat) : Int)) 296 12 ((opens W : Nat) : Int)) W c := by
  obtain ⟨h1, h2, h3, h4, h5, h6', h7, h8⟩ := H
  rw [opens_6] at h8
  exact ⟨frE_trans (Nat.le_refl _) h1 (frE_trans (Nat.le_refl _) (frE_key (Or.inr (Or.inr rfl))) (frE_key (by unfold keyE; omega))), up2_same, by rw [up2_k (by decide), up2_same], by rw [up2_off (by decide), up2_off (by decide)]; exact h4.2, by rw [up2_k (by decide), up2_k (by decide)]; exact h5, by rw [up2_off (by decide), up2_off (by decide), up2_off (by decide), up2_off (by decide)]; exact h6', h7.1, by omega⟩
theorem ctm_key {B : Nat → Int} {n nt k : Nat} {v : Int} {I : MI} {r : Ctl} (hk : k < 11 ∨ k = 12 ∨ 16 < k) (h : CtM B n nt I r) : CtM B n nt (up2 I 296 k v) r := by
  have z : ∀ j, j ≠ k → up2 I 296 k v 296 j = I 296 j := fun j hj => up2_k hj
  match r, h with
  | .inl e, h => exact ⟨h.1, by rw [z 13 (by omega)]; exact h.2.1, by rw [z 14 (by omega)]; exact h.2.2⟩
  | .inr (t, l, lp), h =>
    obtain ⟨c1, c2, c3, c4, c5, c6, c7⟩ := h
    exact ⟨c1, c2, by rw [z 13 (by omega)]; exact c3, by rw [z 11 (by omega)]; exact c4, by rw [z 15 (by omega)]; exact c5, c6, fun hl => by rw [z 16 (by omega)]; exact c7 hl⟩
theorem ctm_k {B : Nat → Int} {n nt : Nat} {I I' : MI} {r : Ctl} (h : CtM B n nt I r) (hf : ∀ k, 11 ≤ k → k ≤ 16 → k ≠ 12 → I' 296 k = I 296 k) : CtM B n nt I' r := by
  match r, h with
  | .inl e, h => exact ⟨h.1, by rw [hf 13 (by omega) (by omega) (by omega)]; exact h.2.1, by rw [hf 14 (by omega) (by omega) (by omega)]; exact h.2.2⟩
  | .inr (t, l, lp), h =>
    obtain ⟨c1, c2, c3, c4, c5, c6, c7⟩ := h
    exact ⟨c1, c2, by rw [hf 13 (by omega) (by omega) (by omega)]; exact c3, by rw [hf 11 (by omega) (by omega) (by omega)]; exact c4, by rw [hf 15 (by omega) (by omega) (by omega)]; exact c5, c6, fun hl => by rw [hf 16 (by omega) (by omega) (by omega)]; exact c7 hl⟩
section
variable {F n nt p0 h : Nat} {B : Nat → Int} {I0 J : MI} {l lp : Int} {R : (Int × Int) ⊕ (Nat × LCode)}
theorem closeM (hF : 1000000 ≤ F) (hT0 : TkM I0 J B n nt) (hh : h < 2) {I : MI} {t : Nat} {W : List Int} {c : LCode} (H : AlE B n nt p0 h I0 l lp I t W c) (hR : mB (Kt B n nt) (PP B n nt) (Vt B n) t W c = R) : ∃ I', iter (fun s : MI => f_M_expression_L96 F 0 s J) F I = some I' ∧ ((∃ e, DdF B n nt p0 h I0 I' e ∧ R = .inl e) ∨ ∃ t' W' c', AlE B n nt p0 h I0 l lp I' t' W' c' ∧ t ≤ t' ∧ ¬ (Kt B n nt t' = 41 ∧ 0 < opens W') ∧ mB (Kt B n nt) (PP B n nt) (Vt B n) t' W' c' = R) := by
  have key := wpo_iter (step := fun s : MI => f_M_expression_L96 F 0 s J) (Q := fun I' => (∃ e, DdF B n nt p0 h I0 I' e ∧ R = .inl e) ∨ ∃ t' W' c', AlE B n nt p0 h I0 l lp I' t' W' c' ∧ t ≤ t' ∧ ¬ (Kt B n nt t' = 41 ∧ 0 < opens W') ∧ mB (Kt B n nt) (PP B n nt) (Vt B n) t' W' c' = R) (fun M => (∃ e, DdF B n nt p0 h I0 M e ∧ R = .inl e) ∨ ∃ t' W' c', AlE B n nt p0 h I0 l lp M t' W' c' ∧ t ≤ t' ∧ mB (Kt B n nt) (PP B n nt) (Vt B n) t' W' c' = R) (fun M => if M 296 13 = 0 then 402 - (M 296 11).toNat else 0) ?_ (F := F) (s := I) (by split <;> omega) (Or.inr ⟨t, W, c, H, Nat.le_refl _, hR⟩)
  · obtain ⟨I', e1, q⟩ := key
    exact ⟨I', e1, q⟩
  rintro M (⟨e, d1, d2⟩ | ⟨t', W', c', a1, a2, a3⟩)
  · unfold f_M_expression_L96
    rw [isM_dead (wdE (ddF_E d1)).1, Option.bind_some]
    exact wpo_g rfl (wpo_s (Or.inl ⟨e, d1, d2⟩))
  obtain ⟨b1, b2, b3⟩ := a1
  have hT := tkm_E hT0 b2.1
  have hC := b1
  obtain ⟨c1, c2, c3, c4, c5, c6⟩ := b1
  unfold f_M_expression_L96
  rw [isM hT hC (x := 41) (by unfold VK; omega) (by decide), Option.bind_some]
  by_cases g : Kt B n nt t' = 41
  · rw [if_pos g, b2.2.1]
    refine wpo_n (by decide) ?_
    by_cases g0 : 0 < opens W'
    · refine wpo_n (by omega) ?_
      obtain ⟨N, e1, n1, n2⟩ := outM (F := F) (J := J) (s := false) (x := 0) hF rfl b2 hh (by omega)
      rw [e1, Option.bind_some]
      have ho := popS_opens (s := false) (W := W') (c := c')
      have ht := (popS_top (s := false) (c := c') b2.2.2.2.2.2.2.1).2.1 rfl
      have hl := popS_len (s := false) (W := W') (c := c')
      have hmB := mB_e (K := Kt B n nt) (P := PP B n nt) (V := Vt B n) (W := W') (c := c') c1
      rw [if_pos ⟨g, g0⟩, a3] at hmB
      have hCN : CtM B n nt N (.inr (t', l, lp)) := ctm_k hC (fun k k1 k2 k3 => n2 k (by omega) (by omega))
      match hp : popS false W' c', n1, ho, ht, hl, hmB with
      | ([], c2), n1, ho, ht, hl, hmB =>
        have : opens ([] : List Int) = 0 := rfl
        dsimp only at ho
        omega
      | (w :: W2, c2'), n1, ho, ht, hl, hmB =>
        have hw : w = 6 := ht w W2 rfl
        subst hw
        dsimp only at n1 ho hl hmB
        rw [opens_6] at ho
        simp only [List.length_cons] at hl
        have h48 : N 296 48 - 1 = ((W2.length : Nat) : Int) := by
          have := n1.2.2.1
          simp only [List.length_cons] at this
          omega
        have h12 : N 296 12 - 1 = ((opens W2 : Nat) : Int) := by
          have := n1.2.1
          rw [opens_6] at this
          omega
        have hlen := cfe_len n1
        have hop := n1.2.2.2.2.2.2.2
        rw [opens_6] at hop
        simp only [List.length_cons] at hlen
        rw [h48, w32i (by omega) (by omega), up2_k (show (12 : Nat) ≠ 48 by decide), h12, w32i (by omega) (by omega)]
        have n3 := cfe_pop6 n1
        have hC3 : CtM B n nt (up2 (up2 N 296 48 ((W2.length : Nat) : Int)) 296 12 ((opens W2 : Nat) : Int)) (.inr (t', l, lp)) := ctm_key (by omega) (ctm_key (by omega) hCN)
        generalize up2 (up2 N 296 48 ((W2.length : Nat) : Int)) 296 12 ((opens W2 : Nat) : Int) = Z at *
        obtain ⟨I', e2, f2, d⟩ := alE_go (F := F) (tkm_E hT0 n3.1) hC3 (by omega) n3 (by omega)
        rw [e2, Option.bind_some]
        have hme : (if M 296 13 = 0 then 402 - (M 296 11).toNat else 0) = 402 - t' := by rw [if_pos c3, c4, Int.toNat_natCast]
        rcases d with ⟨g4, a⟩ | ⟨g4, a⟩
        · rw [if_pos g4] at hmB
          refine wpo_s ⟨Or.inr ⟨t' + 1, W2, c2', a, by omega, hmB.symm⟩, ?_⟩
          rw [hme, a.1.2.2.2.1, if_pos a.1.2.2.1, Int.toNat_natCast]
          omega
        · rw [if_neg g4] at hmB
          refine wpo_s ⟨Or.inl ⟨_, a, hmB⟩, ?_⟩
          rw [hme, if_neg (wdE (ddF_E a)).1]
          omega
    · exact wpo_g (by omega) (wpo_s (Or.inr ⟨t', W', c', ⟨hC, b2, b3⟩, a2, fun hx => g0 hx.2, a3⟩))
  · rw [if_neg g]
    exact wpo_g rfl (wpo_s (Or.inr ⟨t', W', c', ⟨hC, b2, b3⟩, a2, fun hx => g hx.1, a3⟩))
/-- what follows a unit -/
def tailM (F : Nat) (x1 : Int) (e43 : MI) (J : MI) : Option (((MI) ⊕ ((MI) ⊕ (MI))) ⊕ (Int × MI)) := ((f_M_is F 8 e43 J).bind fun q46 => (if ¬ q46 = 0 then (f_M_expression_b181in12 F x1 e43 J) else ((f_M_is F 9 e43 J).bind fun q69 => (if ¬ q69 = 0 then (f_M_expression_b181in12 F x1 e43 J) else ((f_M_is F 10 e43 J).bind fun q73 => (if ¬ q73 = 0 then (f_M_expression_b181in12 F x1 e43 J) else ((f_M_is F 15 e43 J).bind fun q77 => (if q77 = 0 then (f_M_expression_b186in12 F x1 0 e43 J) else (f_M_expression_b181in12 F x1 e43 J)))))))))
theorem tail_dead {x1 : Int} {M : MI} (h : M 296 13 ≠ 0) : tailM F x1 M J = some (.inl (.inr (.inl M))) := by
  unfold tailM f_M_expression_b186in12
  rw [isM_dead h, isM_dead h, isM_dead h, isM_dead h]
  rfl
theorem opsM (hF : 1000000 ≤ F) (hT0 : TkM I0 J B n nt) (hh : h < 2) {M : MI} {t : Nat} {W : List Int} {c : LCode} (H : AlE B n nt p0 h I0 l lp M t W c) (hk : ¬ (Kt B n nt t = 41 ∧ 0 < opens W)) (hR : mB (Kt B n nt) (PP B n nt) (Vt B n) t W c = R) : (isOpK (Kt B n nt t) ≠ true ∧ tailM F 0 M J = some (.inl (.inr (.inl M)))) ∨ ∃ I', tailM F 0 M J = some (.inr (1, I')) ∧ ((∃ e, DdE B n nt p0 h I0 I' e ∧ R = .inl e) ∨ ∃ W' c', AlE B n nt p0 h I0 l lp I' (t + 1) W' c' ∧ mA (Kt B n nt) (PP B n nt) (Vt B n) (t + 1) W' c' = R) := by
  obtain ⟨b1, b2, b3⟩ := H
  have hT := tkm_E hT0 b2.1
  have hC := b1
  obtain ⟨c1, c2, c3, c4, c5, c6⟩ := b1
  have i8 := isM (F := F) (x := 43) (c := 8) hT hC (by unfold VK; omega) (by decide)
  have i9 := isM (F := F) (x := 45) (c := 9) hT hC (by unfold VK; omega) (by decide)
  have i10 := isM (F := F) (x := 42) (c := 10) hT hC (by unfold VK; omega) (by decide)
  have i15 := isM (F := F) (x := 47) (c := 15) hT hC (by unfold VK; omega) (by decide)
  have hmB := mB_e (K := Kt B n nt) (P := PP B n nt) (V := Vt B n) (W := W) (c := c) c1
  rw [if_neg hk, hR] at hmB
  by_cases g : isOpK (Kt B n nt t) = true
  · right
    rw [if_pos g] at hmB
    have g' : Kt B n nt t = 43 ∨ Kt B n nt t = 45 ∨ Kt B n nt t = 42 ∨ Kt B n nt t = 47 := by simpa [isOpK] using g
    have st : ∀ (s : Bool) (x : Int), isStr (Kt B n nt t) = s → x = (if s = true then 1 else 0) → ∃ I', f_M_expression_b234in12 F 0 1 x M J = some (.inr (1, I')) ∧ ((∃ e, DdE B n nt p0 h I0 I' e ∧ R = .inl e) ∨ ∃ W' c', AlE B n nt p0 h I0 l lp I' (t + 1) W' c' ∧ mA (Kt B n nt) (PP B n nt) (Vt B n) (t + 1) W' c' = R) := by
      intro s x hs hx
      rw [hs] at hmB
      unfold f_M_expression_b234in12
      obtain ⟨N, e1, n1, n2⟩ := outM (F := F) (J := J) (s := s) (x := x) hF hx b2 hh (by omega)
      rw [e1, Option.bind_some]
      have ho := popS_opens (s := s) (W := W) (c := c)
      obtain ⟨t1, t2, t3⟩ := popS_top (s := s) (c := c) b2.2.2.2.2.2.2.1
      have hl := popS_len (s := s) (W := W) (c := c)
      have hCN : CtM B n nt N (.inr (t, l, lp)) := ctm_k hC (fun k k1 k2 k3 => n2 k (by omega) (by omega))
      generalize (popS s W c).1 = W1 at *
      generalize (popS s W c).2 = C1 at *
      have hlen := cfe_len n1
      have h48 := n1.2.2.1
      have n11 : N 296 11 = (t : Int) := hCN.2.2.2.1
      have n299 : N 299 t = mkK (Kt B n nt t) := (tkm_at (tkm_E hT0 n1.1) c2 c1).1
      rw [n11, if_pos (by omega), h48, if_pos (by omega), Int.toNat_natCast, Int.toNat_natCast, n299, up2_r (show (296 : Nat) ≠ 328 by decide), h48, w32i (by omega) (by omega)]
      have hwc : mkK (Kt B n nt t) = wc (opO (Kt B n nt t)) := by
        rcases g' with e | e | e | e <;> rw [e] <;> decide
      have hW : CfE p0 h I0 (up2 (up2 N 328 W1.length (mkK (Kt B n nt t))) 296 48 ((W1.length : Int) + 1)) (opO (Kt B n nt t) :: W1) C1 := by
        obtain ⟨h1, h2, h3, h4, h5, h6', h7, h8⟩ := n1
        have o6 : opO (Kt B n nt t) ≠ 6 := by rcases g' with e | e | e | e <;> rw [e] <;> decide
        refine ⟨frE_trans (Nat.le_refl _) h1 (frE_trans (Nat.le_refl _) frE_328 (frE_key (Or.inr (Or.inr rfl)))), by rw [up2_k (by decide), up2_r (by decide), opens_cons o6]; exact h2, by rw [up2_same, List.length_cons]; omega, ?_, by rw [up2_k (by decide), up2_r (by decide)]; exact h5, by rw [up2_off (by decide), up2_off (by decide), up2_off (by decide), up2_off (by decide)]; exact h6', ⟨h7, ?_⟩, by rw [opens_cons o6]; exact h8⟩
        · rw [up2_off (by decide)]
          refine ⟨by rw [List.length_map, up2_same]; exact hwc, stk_congr h4 (fun k hk => ?_)⟩
          rw [List.length_map] at hk
          exact up2_k (by omega)
        · rcases g' with e | e | e | e
          · have : s = false := by rw [← hs, e]; decide
            rw [e]; exact Or.inr (Or.inl ⟨by decide, t2 this⟩)
          · have : s = false := by rw [← hs, e]; decide
            rw [e]; exact Or.inr (Or.inl ⟨by decide, t2 this⟩)
          · rw [e]; exact Or.inr (Or.inr ⟨by decide, t3⟩)
          · rw [e]; exact Or.inr (Or.inr ⟨by decide, t3⟩)
      have hC3 : CtM B n nt (up2 (up2 N 328 W1.length (mkK (Kt B n nt t))) 296 48 ((W1.length : Int) + 1)) (.inr (t, l, lp)) := ctm_key (by omega) (ctm_k hCN (fun k _ _ _ => by rw [up2_r (by decide)]))
      generalize up2 (up2 N 328 W1.length (mkK (Kt B n nt t))) 296 48 ((W1.length : Int) + 1) = Z at *
      obtain ⟨I', e2, f2, d⟩ := alE_go (F := F) (tkm_E hT0 hW.1) hC3 (by omega) hW (by simp only [List.length_cons]; omega)
      rw [e2, Option.bind_some]
      refine ⟨I', rfl, ?_⟩
      rcases d with ⟨g4, a⟩ | ⟨g4, a⟩
      · rw [if_pos g4] at hmB
        exact Or.inr ⟨_, _, a, hmB.symm⟩
      · rw [if_neg g4] at hmB
        exact Or.inl ⟨_, ddF_E a, hmB⟩
    have r181 : ∃ I', f_M_expression_b181in12 F 0 M J = some (.inr (1, I')) ∧ ((∃ e, DdE B n nt p0 h I0 I' e ∧ R = .inl e) ∨ ∃ W' c', AlE B n nt p0 h I0 l lp I' (t + 1) W' c' ∧ mA (Kt B n nt) (PP B n nt) (Vt B n) (t + 1) W' c' = R) := by
      unfold f_M_expression_b181in12 f_M_expression_b186in12 f_M_expression_b229in12
      rw [if_pos (by decide), i10, Option.bind_some, i15]
      by_cases e10 : Kt B n nt t = 42
      · rw [if_pos e10, if_pos (by decide)]
        exact st true 1 (by rw [e10]; decide) rfl
      · rw [if_neg e10, if_neg (by decide), Option.bind_some]
        by_cases e15 : Kt B n nt t = 47
        · rw [if_pos e15, if_neg (by decide)]
          exact st true 1 (by rw [e15]; decide) rfl
        · rw [if_neg e15, if_pos rfl]
          exact st false 0 (by simp [isStr, e10, e15]) rfl
    unfold tailM
    rw [i8, Option.bind_some]
    by_cases e8 : Kt B n nt t = 43
    · rw [if_pos e8, if_pos (by decide)]; exact r181
    rw [if_neg e8, if_neg (by decide), i9, Option.bind_some]
    by_cases e9 : Kt B n nt t = 45
    · rw [if_pos e9, if_pos (by decide)]; exact r181
    rw [if_neg e9, if_neg (by decide), i10, Option.bind_some]
    by_cases e10 : Kt B n nt t = 42
    · rw [if_pos e10, if_pos (by decide)]; exact r181
    rw [if_neg e10, if_neg (by decide), i15, Option.bind_some]
    have e15 : Kt B n nt t = 47 := by omega
    rw [if_pos e15, if_neg (by decide)]
    exact r181
  · left
    refine ⟨g, ?_⟩
    have g' : ¬ (Kt B n nt t = 43 ∨ Kt B n nt t = 45 ∨ Kt B n nt t = 42 ∨ Kt B n nt t = 47) := fun h => g (by simpa [isOpK] using h)
    unfold tailM f_M_expression_b186in12
    rw [i8, Option.bind_some, if_neg (show ¬ Kt B n nt t = 43 by omega), if_neg (by decide), i9, Option.bind_some, if_neg (show ¬ Kt B n nt t = 45 by omega), if_neg (by decide), i10, Option.bind_some, if_neg (show ¬ Kt B n nt t = 42 by omega), if_neg (by decide), i15, Option.bind_some, if_neg (show ¬ Kt B n nt t = 47 by omega), if_pos rfl, if_neg (by decide)]
end
