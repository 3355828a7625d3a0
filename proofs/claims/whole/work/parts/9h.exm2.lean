/-! texts: the model reads a term -/
section
variable {F n nt p0 h : Nat} {B : Nat → Int} {I0 J : MI} {l lp : Int} {R : (Int × Int) ⊕ (Nat × LCode)}
def AlE (B : Nat → Int) (n nt p0 h : Nat) (I0 : MI) (l lp : Int) (I : MI) (t : Nat) (W : List Int) (c : LCode) : Prop := CtM B n nt I (.inr (t, l, lp)) ∧ CfE p0 h I0 I W c ∧ p0 + c.length + W.length ≤ 420 * h + t
def DdE (B : Nat → Int) (n nt p0 h : Nat) (I0 I : MI) (e : Int × Int) : Prop := CtM B n nt I (.inl e) ∧ FrE p0 h I0 I
def DdF (B : Nat → Int) (n nt p0 h : Nat) (I0 I : MI) (e : Int × Int) : Prop := CtM B n nt I (.inl e) ∧ ∃ W c, CfE p0 h I0 I W c ∧ p0 + c.length + W.length ≤ 420 * h + 420
theorem ddF_E {I : MI} {e : Int × Int} (H : DdF B n nt p0 h I0 I e) : DdE B n nt p0 h I0 I e := by
  obtain ⟨h1, W, c, h2, _⟩ := H
  exact ⟨h1, h2.1⟩
theorem wdE {I : MI} {e : Int × Int} (H : DdE B n nt p0 h I0 I e) : I 296 13 ≠ 0 ∧ 0 < I 296 13 := by
  have := H.1.1
  have := H.1.2.1
  omega
/-- a token more: alive or at the end -/
theorem alE_go {I : MI} {t : Nat} {W : List Int} {c : LCode} (hT : TkM I J B n nt) (hC : CtM B n nt I (.inr (t, l, lp))) (hk : Kt B n nt t ≠ 302) (H : CfE p0 h I0 I W c) (hb : p0 + c.length + W.length ≤ 420 * h + t + 1) : ∃ I', f_M_goesOn F I J = some I' ∧ Fr5 I I' ∧ ((t < 400 ∧ AlE B n nt p0 h I0 l lp I' (t + 1) W c) ∨ (¬ t < 400 ∧ DdF B n nt p0 h I0 I' (2, PP B n nt t))) := by
  have c400 := hC.1
  obtain ⟨I', e, a, f⟩ := goesM (F := F) hT hC (fun t' l' lp' g => by cases g; exact hk)
  refine ⟨I', e, f, ?_⟩
  have Hf := cfe_5 H f
  by_cases g : t < 400
  · have : goA (PP B n nt) (.inr (t, l, lp)) = .inr (t + 1, l, lp) := if_pos g
    rw [this] at a
    exact Or.inl ⟨g, a, Hf, by omega⟩
  · have : goA (PP B n nt) (.inr (t, l, lp)) = .inl (2, PP B n nt t) := if_neg g
    rw [this] at a
    exact Or.inr ⟨g, a, W, c, Hf, by omega⟩
theorem openM (hF : 1000000 ≤ F) (hT0 : TkM I0 J B n nt) {I : MI} {t : Nat} {W : List Int} {c : LCode} {x : Int} (H : AlE B n nt p0 h I0 l lp I t W c) (hR : mA (Kt B n nt) (PP B n nt) (Vt B n) t W c = R) : ∃ I', iter (fun s : MI => f_M_expression_L23 F x s J) F I = some I' ∧ ((∃ e, DdE B n nt p0 h I0 I' e ∧ R = .inl e) ∨ ∃ t' W', AlE B n nt p0 h I0 l lp I' t' W' c ∧ t ≤ t' ∧ Kt B n nt t' ≠ 40 ∧ mA (Kt B n nt) (PP B n nt) (Vt B n) t' W' c = R) := by
  have key := wpo_iter (step := fun s : MI => f_M_expression_L23 F x s J) (Q := fun I' => (∃ e, DdE B n nt p0 h I0 I' e ∧ R = .inl e) ∨ ∃ t' W', AlE B n nt p0 h I0 l lp I' t' W' c ∧ t ≤ t' ∧ Kt B n nt t' ≠ 40 ∧ mA (Kt B n nt) (PP B n nt) (Vt B n) t' W' c = R) (fun M => (∃ e, DdE B n nt p0 h I0 M e ∧ R = .inl e) ∨ ∃ t' W', AlE B n nt p0 h I0 l lp M t' W' c ∧ t ≤ t' ∧ mA (Kt B n nt) (PP B n nt) (Vt B n) t' W' c = R) (fun M => if M 296 13 = 0 then 402 - (M 296 11).toNat else 0) ?_ (F := F) (s := I) (by split <;> omega) (Or.inr ⟨t, W, H, Nat.le_refl _, hR⟩)
  · obtain ⟨I', e1, q⟩ := key
    exact ⟨I', e1, q⟩
  rintro M (⟨e, d1, d2⟩ | ⟨t', W', a1, a2, a3⟩)
  · unfold f_M_expression_L23
    rw [isM_dead (wdE d1).1, Option.bind_some]
    exact wpo_g rfl (wpo_s (Or.inl ⟨e, d1, d2⟩))
  obtain ⟨b1, b2, b3⟩ := a1
  have hT := tkm_E hT0 b2.1
  have hC := b1
  obtain ⟨c1, c2, c3, c4, c5, c6⟩ := b1
  have hlen := cfe_len b2
  have hop6 := b2.2.2.2.2.2.2.2
  unfold f_M_expression_L23
  rw [isM hT hC (x := 40) (by unfold VK; omega) (by decide), Option.bind_some]
  by_cases g : Kt B n nt t' = 40
  · rw [if_pos g]
    refine wpo_n (by decide) ?_
    rw [b2.2.1]
    have hme : (if M 296 13 = 0 then 402 - (M 296 11).toNat else 0) = 402 - t' := by rw [if_pos c3, c4, Int.toNat_natCast]
    -- the bracket is laid upon what waits
    have lay : ∀ N : MI, N 296 48 = ((W'.length : Nat) : Int) → f_M_expression_b46in23 F x N J = ((f_M_goesOn F (up2 N 296 12 (w32 (N 296 12 + 1))) J).bind fun q12 => (if 0 ≤ (q12 296 48) ∧ (q12 296 48) < 64 then (some (.inr (up2 (up2 q12 328 ((q12 296 48)).toNat 6) 296 48 (w32 (((up2 q12 328 ((q12 296 48)).toNat 6) 296 48) + 1))))) else none)) := fun _ _ => rfl
    have dead : ∀ N : MI, FrE p0 h I0 N → CtM B n nt N (.inl (2, PP B n nt t')) → N 296 48 = ((W'.length : Nat) : Int) → R = .inl (2, PP B n nt t') → wpo (some (.inr (up2 (up2 N 328 ((N 296 48)).toNat 6) 296 48 (w32 (((up2 N 328 ((N 296 48)).toNat 6) 296 48) + 1)))) : Option (MI ⊕ MI)) (fun r => Sum.elim (fun I' => (∃ e, DdE B n nt p0 h I0 I' e ∧ R = .inl e) ∨ ∃ t' W', AlE B n nt p0 h I0 l lp I' t' W' c ∧ t ≤ t' ∧ Kt B n nt t' ≠ 40 ∧ mA (Kt B n nt) (PP B n nt) (Vt B n) t' W' c = R) (fun s' => ((∃ e, DdE B n nt p0 h I0 s' e ∧ R = .inl e) ∨ ∃ t' W', AlE B n nt p0 h I0 l lp s' t' W' c ∧ t ≤ t' ∧ mA (Kt B n nt) (PP B n nt) (Vt B n) t' W' c = R) ∧ (if s' 296 13 = 0 then 402 - (s' 296 11).toNat else 0) < (if M 296 13 = 0 then 402 - (M 296 11).toNat else 0)) r) := by
      intro N f1 f2 f3 f4
      have g1 : ∀ v k, k ≠ 48 → up2 (up2 N 328 ((N 296 48)).toNat 6) 296 48 v 296 k = N 296 k := fun v k hk => by rw [up2_k hk, up2_r (by decide)]
      have f2' := f2
      obtain ⟨k1, k2, k3⟩ := f2
      refine wpo_s ⟨Or.inl ⟨_, ⟨⟨k1, by rw [g1 _ 13 (by decide)]; exact k2, by rw [g1 _ 14 (by decide)]; exact k3⟩, frE_trans (Nat.le_refl _) f1 (frE_trans (Nat.le_refl _) frE_328 (frE_key (Or.inr (Or.inr rfl))))⟩, f4⟩, ?_⟩
      rw [hme, g1 _ 13 (by decide), k2, if_neg (by show ¬ (2 : Int) = 0; decide)]
      omega
    have hmA := mA_e (K := Kt B n nt) (P := PP B n nt) (V := Vt B n) (W := W') (c := c) c1
    rw [if_pos g] at hmA
    by_cases g6 : opens W' = 6
    · refine wpo_n (by omega) ?_
      rw [if_pos g6] at hmA
      obtain ⟨N, e1, n1, n2, n3⟩ := failM (F := F) (w := 2) hT hC (by decide)
      rw [e1, Option.bind_some]
      unfold f_M_expression_b46in23
      have n1' : CtM B n nt (up2 N 296 12 (w32 (N 296 12 + 1))) (.inl (2, PP B n nt t')) := by
        have n1'' : CtM B n nt N (.inl (2, PP B n nt t')) := n1
        obtain ⟨k1, k2, k3⟩ := n1''
        exact ⟨k1, by rw [up2_k (by decide)]; exact k2, by rw [up2_k (by decide)]; exact k3⟩
      have fN : FrE p0 h I0 N := frE_trans (Nat.le_refl _) b2.1 (fr5_E n2)
      have fN2 : FrE p0 h I0 (up2 N 296 12 (w32 (N 296 12 + 1))) := frE_trans (Nat.le_refl _) fN (frE_key (by unfold keyE; omega))
      obtain ⟨N', e2, m1, m2⟩ := goesM (F := F) (tkm_E hT0 fN2) n1' (fun t l lp h => by cases h)
      have m48 : N' 296 48 = ((W'.length : Nat) : Int) := by rw [m2.2 48 (by decide) (by decide) (by decide) (by decide) (by decide), up2_k (by decide), n2.2 48 (by decide) (by decide) (by decide) (by decide) (by decide)]; exact b2.2.2.1
      rw [e2, Option.bind_some]
      refine wpo_g (by rw [m48]; omega) (dead N' (frE_trans (Nat.le_refl _) fN2 (fr5_E m2)) m1 m48 (by rw [← a3]; exact hmA))
    · refine wpo_g (by omega) ?_
      rw [if_neg g6] at hmA
      have hc12 : CtM B n nt (up2 M 296 12 (w32 (M 296 12 + 1))) (.inr (t', l, lp)) := ⟨c1, c2, by rw [up2_k (by decide)]; exact c3, by rw [up2_k (by decide)]; exact c4, by rw [up2_k (by decide)]; exact c5, c6.1, fun hl => by rw [up2_k (by decide)]; exact c6.2 hl⟩
      have f12 : FrE p0 h I0 (up2 M 296 12 (w32 (M 296 12 + 1))) := frE_trans (Nat.le_refl _) b2.1 (frE_key (by unfold keyE; omega))
      obtain ⟨N, e1, n1, n2⟩ := goesM (F := F) (tkm_E hT0 f12) hc12 (fun t l lp h => by cases h; omega)
      unfold f_M_expression_b46in23
      rw [e1, Option.bind_some]
      have m48 : N 296 48 = ((W'.length : Nat) : Int) := by rw [n2.2 48 (by decide) (by decide) (by decide) (by decide) (by decide), up2_k (by decide)]; exact b2.2.2.1
      refine wpo_g (by rw [m48]; omega) ?_
      by_cases g4 : t' < 400
      · have eg : goA (PP B n nt) (.inr (t', l, lp)) = .inr (t' + 1, l, lp) := if_pos g4
        rw [if_pos g4] at hmA
        rw [eg] at n1
        have g1 : ∀ v k, k ≠ 48 → up2 (up2 N 328 ((N 296 48)).toNat 6) 296 48 v 296 k = N 296 k := fun v k hk => by rw [up2_k hk, up2_r (by decide)]
        obtain ⟨k1, k2, k3, k4, k5, k6⟩ := n1
        have z : ∀ a, a ≠ 296 → a ≠ 328 → ∀ v, up2 (up2 N 328 ((N 296 48)).toNat 6) 296 48 v a = M a := fun a z1 z2 v => by rw [up2_off z1, up2_off z2, n2.1 a z1, up2_off z1]
        refine wpo_s ⟨Or.inr ⟨t' + 1, 6 :: W', ⟨⟨k1, k2, by rw [g1 _ 13 (by decide)]; exact k3, by rw [g1 _ 11 (by decide)]; exact k4, by rw [g1 _ 15 (by decide)]; exact k5, k6.1, fun hl => by rw [g1 _ 16 (by decide)]; exact k6.2 hl⟩, ⟨frE_trans (Nat.le_refl _) f12 (frE_trans (Nat.le_refl _) (fr5_E n2) (frE_trans (Nat.le_refl _) frE_328 (frE_key (Or.inr (Or.inr rfl))))), ?_, ?_, ?_, ?_, ?_, ⟨b2.2.2.2.2.2.2.1, Or.inl rfl⟩, by rw [opens_6]; have := b2.2.2.2.2.2.2.2; omega⟩, ?_⟩, by omega, by rw [← hmA]; exact a3⟩, ?_⟩
        · rw [g1 _ 12 (by decide), n2.2 12 (by decide) (by decide) (by decide) (by decide) (by decide), up2_same, b2.2.1, w32i (by omega) (by omega), opens_6]
          omega
        · rw [up2_same, up2_r (by decide), m48, w32i (by omega) (by omega), List.length_cons]
          omega
        · rw [up2_off (by decide), m48, Int.toNat_natCast]
          refine ⟨by rw [List.length_map]; exact up2_same, stk_congr b2.2.2.2.1 (fun k hk => ?_)⟩
          rw [List.length_map] at hk
          rw [up2_k (by omega), n2.1 328 (by decide), up2_off (by decide)]
        · rw [g1 _ 44 (by decide), n2.2 44 (by decide) (by decide) (by decide) (by decide) (by decide), up2_k (by decide)]
          exact b2.2.2.2.2.1
        · rw [z 326 (by decide) (by decide), z 327 (by decide) (by decide)]
          exact b2.2.2.2.2.2.1
        · rw [List.length_cons]; omega
        · rw [hme, g1 _ 13 (by decide), if_pos k3, g1 _ 11 (by decide), k4, Int.toNat_natCast]
          omega
      · have eg : goA (PP B n nt) (.inr (t', l, lp)) = .inl (2, PP B n nt t') := if_neg g4
        rw [if_neg g4] at hmA
        rw [eg] at n1
        exact dead N (frE_trans (Nat.le_refl _) f12 (fr5_E n2)) n1 m48 (by rw [← a3]; exact hmA)
  · rw [if_neg g]
    exact wpo_g rfl (wpo_s (Or.inr ⟨t', W', ⟨hC, b2, b3⟩, a2, g, a3⟩))
theorem unitM (hT0 : TkM I0 J B n nt) {I : MI} {t : Nat} {W : List Int} {c : LCode} (hh : h < 2) (H : AlE B n nt p0 h I0 l lp I t W c) (hk : Kt B n nt t ≠ 40) (hR : mA (Kt B n nt) (PP B n nt) (Vt B n) t W c = R) : ∃ I', f_M_unit F I J = some I' ∧ ((∃ e, DdE B n nt p0 h I0 I' e ∧ R = .inl e) ∨ ∃ q, AlE B n nt p0 h I0 l lp I' (t + 1) W (c ++ [q]) ∧ mB (Kt B n nt) (PP B n nt) (Vt B n) (t + 1) W (c ++ [q]) = R) := by
  obtain ⟨b1, b2, b3⟩ := H
  have hT := tkm_E hT0 b2.1
  have hC := b1
  obtain ⟨c1, c2, c3, c4, c5, c6⟩ := b1
  have hmA := mA_e (K := Kt B n nt) (P := PP B n nt) (V := Vt B n) (W := W) (c := c) c1
  rw [if_neg hk, hR] at hmA
  unfold f_M_unit f_M_unit_b88
  rw [isM hT hC (x := 301) (by unfold VK; omega) (by decide), Option.bind_some, c4, Int.toNat_natCast, (tkm_at hT c2 c1).1]
  have go : ∀ (op v : Int), Kt B n nt t ≠ 302 → R = (if t < 400 then mB (Kt B n nt) (PP B n nt) (Vt B n) (t + 1) W (c ++ [(op, v)]) else .inl (2, PP B n nt t)) → ∃ I', ((f_M_emit F op v I J).bind fun q13 => ((f_M_goesOn F q13 J).bind fun q16 => (some q16))) = some I' ∧ ((∃ e, DdE B n nt p0 h I0 I' e ∧ R = .inl e) ∨ ∃ q, AlE B n nt p0 h I0 l lp I' (t + 1) W (c ++ [q]) ∧ mB (Kt B n nt) (PP B n nt) (Vt B n) (t + 1) W (c ++ [q]) = R) := by
    intro op v hk2 hR2
    rw [emitM b2.2.2.2.2.1 (by omega), Option.bind_some]
    have H2 := cfe_emit (a := op) (b := v) b2 (by omega)
    have z : ∀ k, k ≠ 44 → up2 (up2 (up2 I 326 (p0 + c.length) op) 327 (p0 + c.length) v) 296 44 ((p0 + c.length + 1 : Nat) : Int) 296 k = I 296 k := fun k hk => by rw [up2_k hk, up2_r (by decide), up2_r (by decide)]
    have hC2 : CtM B n nt (up2 (up2 (up2 I 326 (p0 + c.length) op) 327 (p0 + c.length) v) 296 44 ((p0 + c.length + 1 : Nat) : Int)) (.inr (t, l, lp)) := ⟨c1, c2, by rw [z 13 (by decide)]; exact c3, by rw [z 11 (by decide)]; exact c4, by rw [z 15 (by decide)]; exact c5, c6.1, fun hl => by rw [z 16 (by decide)]; exact c6.2 hl⟩
    generalize up2 (up2 (up2 I 326 (p0 + c.length) op) 327 (p0 + c.length) v) 296 44 ((p0 + c.length + 1 : Nat) : Int) = Z at *
    obtain ⟨I', e1, f1, d⟩ := alE_go (F := F) (tkm_E hT0 H2.1) hC2 hk2 H2 (by rw [List.length_append]; simp only [List.length_cons, List.length_nil]; omega)
    rw [e1]
    refine ⟨I', rfl, ?_⟩
    rcases d with ⟨g, a⟩ | ⟨g, a⟩
    · rw [if_pos g] at hR2
      exact Or.inr ⟨_, a, hR2.symm⟩
    · rw [if_neg g] at hR2
      exact Or.inl ⟨_, ddF_E a, hR2⟩
  have bad : R = .inl (1, PP B n nt t) → ∃ I', ((f_M_fail F 1 I J).bind fun q7 => (some q7)) = some I' ∧ ((∃ e, DdE B n nt p0 h I0 I' e ∧ R = .inl e) ∨ ∃ q, AlE B n nt p0 h I0 l lp I' (t + 1) W (c ++ [q]) ∧ mB (Kt B n nt) (PP B n nt) (Vt B n) (t + 1) W (c ++ [q]) = R) := by
    intro hR2
    obtain ⟨I', e1, a1, f1, _⟩ := failM (F := F) (w := 1) hT hC (by decide)
    rw [e1]
    exact ⟨I', rfl, Or.inl ⟨_, ⟨a1, frE_trans (Nat.le_refl _) b2.1 (fr5_E f1)⟩, hR2⟩⟩
  by_cases g1 : Kt B n nt t = 301
  · rw [if_pos g1] at hmA ⊢
    rw [if_neg (by decide), if_pos (by omega), (tkm_at hT c2 c1).2.2.1 g1]
    exact go 0 (Vt B n t) (by omega) hmA
  · rw [if_neg g1] at hmA
    rw [if_neg g1, if_pos rfl, if_neg (by simp [c3]), if_pos (by omega)]
    by_cases g2 : 267 ≤ Kt B n nt t ∧ Kt B n nt t ≤ 272
    · rw [if_pos g2] at hmA
      rw [mk_word (by omega) (by omega), if_neg (by omega), if_neg (by omega), w32i (by omega) (by omega), show Kt B n nt t - 236 - 31 = Kt B n nt t - 267 by omega]
      exact go 1 (Kt B n nt t - 267) (by omega) hmA
    · rw [if_neg g2] at hmA
      have hmk : mkK (Kt B n nt t) < 31 := by
        have hv := Kt_VK (B := B) (n := n) (nt := nt) (k := t)
        unfold VK at hv
        by_cases g3 : 256 ≤ Kt B n nt t ∧ Kt B n nt t ≤ 272
        · rw [mk_word g3.1 g3.2]; omega
        · have : ∀ x, Kt B n nt t = x → mkK x < 31 → mkK (Kt B n nt t) < 31 := fun x h1 h2 => by rw [h1]; exact h2
          rcases hv with e | e | e | e | e | e | e | e | e | e | e | e | e | e
          all_goals first | exact this _ e (by decide) | omega
      rw [if_pos hmk]
      exact bad hmA
end
