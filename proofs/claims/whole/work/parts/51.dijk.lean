/-! the class's ways: the costs -/
def lfA (ρ : RIV) (k i : Nat) : Int := if 0 ≤ ((k % 12 : Nat) : Int) + LX i ∧ ((k % 12 : Nat) : Int) + LX i < aL ρ ∧ 0 ≤ ((k / 12 : Nat) : Int) + LY i ∧ ((k / 12 : Nat) : Int) + LY i < aW ρ then 12 * (((k / 12 : Nat) : Int) + LY i) + (((k % 12 : Nat) : Int) + LX i) else -1
def clN (ρ : RIV) : Nat := (2 * aJ ρ * (aJ ρ + 1)).toNat
theorem lxy_1 : ∀ J : Nat, J < 5 → ∀ i : Nat, i < 2 * J * (J + 1) → adx ((LX i).toNat) 0 + adx ((- LX i).toNat) 0 + adx ((LY i).toNat) 0 + adx ((- LY i).toNat) 0 ≤ (J : Int) ∧ ¬ (LX i = 0 ∧ LY i = 0) := by decide +kernel
def lxyT (J a b : Nat) : Bool := !(decide (adx a 4 + adx b 4 ≤ (J : Int))) || decide (a = 4 ∧ b = 4) || (List.range (2 * J * (J + 1))).any (fun i => decide (LX i = (a : Int) - 4 ∧ LY i = (b : Int) - 4))
theorem lxy_2a : (List.range 5).all (fun J => (List.range 9).all (fun a => (List.range 9).all (fun b => lxyT J a b))) = true := by decide +kernel
theorem lxy_2 (J : Nat) (hJ : J < 5) (a : Nat) (ha : a < 9) (b : Nat) (hb : b < 9) (h : adx a 4 + adx b 4 ≤ (J : Int)) (hn : ¬ (a = 4 ∧ b = 4)) : (List.range (2 * J * (J + 1))).any (fun i => decide (LX i = (a : Int) - 4 ∧ LY i = (b : Int) - 4)) = true := by
  have h1 := List.all_eq_true.mp (List.all_eq_true.mp (List.all_eq_true.mp lxy_2a J (List.mem_range.mpr hJ)) a (List.mem_range.mpr ha)) b (List.mem_range.mpr hb)
  unfold lxyT at h1
  simp only [Bool.or_eq_true, Bool.not_eq_true', decide_eq_false_iff_not, decide_eq_true_eq] at h1
  rcases h1 with (h1 | h1) | h1
  · exact absurd h h1
  · exact absurd h1 hn
  · exact h1
theorem lxy_b : ∀ i : Nat, i < 40 → -4 ≤ LX i ∧ LX i ≤ 4 ∧ -4 ≤ LY i ∧ LY i ≤ 4 := by decide +kernel
theorem clN_le {ρ : RIV} (hρ : RivOK ρ) : clN ρ ≤ 40 ∧ ∃ J : Nat, J < 5 ∧ (J : Int) = aJ ρ ∧ clN ρ = 2 * J * (J + 1) := by
  have h := hρ.2.2.1
  unfold clN
  have : aJ ρ = 1 ∨ aJ ρ = 2 ∨ aJ ρ = 3 ∨ aJ ρ = 4 := by omega
  rcases this with e | e | e | e <;> rw [e]
  · exact ⟨by decide, 1, by decide, rfl, by decide⟩
  · exact ⟨by decide, 2, by decide, rfl, by decide⟩
  · exact ⟨by decide, 3, by decide, rfl, by decide⟩
  · exact ⟨by decide, 4, by decide, rfl, by decide⟩
theorem cl_eq {F rv : Nat} {I : MI} {ρ : RIV} (hρ : RivOK ρ) (hr : I rv 2 = aJ ρ) : f_R_countLeaps F rv I = some ((clN ρ : Nat) : Int) := by
  have h := hρ.2.2.1
  unfold f_R_countLeaps clN
  rw [hr]
  have : aJ ρ = 1 ∨ aJ ρ = 2 ∨ aJ ρ = 3 ∨ aJ ρ = 4 := by omega
  rcases this with e | e | e | e <;> rw [e] <;> rfl
theorem lf_eq {F rv k i : Nat} {I : MI} {ρ : RIV} (hρ : RivOK ρ) (h0 : I rv 0 = aL ρ) (h1 : I rv 1 = aW ρ) (hk : k < 96) (hi : i < 40) : f_R_leapFrom F rv (k : Int) (i : Int) I = some (lfA ρ k i) := by
  have hb := lxy_b i hi
  have hL := hρ.1
  have hW := hρ.2.1
  unfold f_R_leapFrom
  rw [if_pos (by omega), Int.toNat_natCast, rem32_eq (by omega) (by omega) (by omega) (by omega), div32_eq (by omega) (by omega) (by omega) (by omega), w32i (x := (k : Int) % 12 + LX i) (by omega) (by omega), w32i (x := (k : Int) / 12 + LY i) (by omega) (by omega), has_eq, h0, h1]
  unfold lfA
  by_cases h : 0 ≤ ((k % 12 : Nat) : Int) + LX i ∧ ((k % 12 : Nat) : Int) + LX i < aL ρ ∧ 0 ≤ ((k / 12 : Nat) : Int) + LY i ∧ ((k / 12 : Nat) : Int) + LY i < aW ρ
  · rw [if_pos h, if_pos (by omega), Option.bind_some, if_neg (by decide)]
    unfold f_X_cellNumber
    rw [w32i (x := ((k : Int) / 12 + LY i) * 12) (by omega) (by omega), w32i (by omega) (by omega), Option.bind_some]
    congr 1
    omega
  · rw [if_neg h, if_neg (by omega), Option.bind_some, if_pos rfl]
theorem lf_in {ρ : RIV} {k i : Nat} (hρ : RivOK ρ) (hk : k < 96) (hi : i < clN ρ) : lfA ρ k i = -1 ∨ ∃ to : Nat, lfA ρ k i = (to : Int) ∧ to < 96 ∧ lpB ρ k to = true := by
  obtain ⟨h40, J, hJ, hJe, hc⟩ := clN_le hρ
  have hb := lxy_b i (by omega)
  have h1 := lxy_1 J hJ i (by rw [← hc]; exact hi)
  have hL := hρ.1
  have hW := hρ.2.1
  unfold lfA
  by_cases h : 0 ≤ ((k % 12 : Nat) : Int) + LX i ∧ ((k % 12 : Nat) : Int) + LX i < aL ρ ∧ 0 ≤ ((k / 12 : Nat) : Int) + LY i ∧ ((k / 12 : Nat) : Int) + LY i < aW ρ
  · rw [if_pos h]
    right
    refine ⟨(12 * (((k / 12 : Nat) : Int) + LY i) + (((k % 12 : Nat) : Int) + LX i)).toNat, by omega, by omega, ?_⟩
    unfold lpB
    rw [if_neg (by omega), decide_eq_true_eq]
    generalize hto : (12 * (((k / 12 : Nat) : Int) + LY i) + (((k % 12 : Nat) : Int) + LX i)).toNat = to
    have e1 : ((to % 12 : Nat) : Int) = ((k % 12 : Nat) : Int) + LX i := by omega
    have e2 : ((to / 12 : Nat) : Int) = ((k / 12 : Nat) : Int) + LY i := by omega
    refine ⟨by intro e; rw [e] at e1 e2; omega, ?_⟩
    obtain ⟨g1, _⟩ := h1
    unfold adx at g1
    unfold dst adx
    rw [← hJe]
    simp only [Nat.zero_le, if_true] at g1
    split <;> split <;> omega
  · rw [if_neg h]
    exact Or.inl rfl
theorem lf_out {ρ : RIV} {k to : Nat} (hρ : RivOK ρ) (hk : k < 96) (ht : to < 96) (hr : inRv ρ to = true) (hl : lpB ρ k to = true) : ∃ i, i < clN ρ ∧ lfA ρ k i = (to : Int) := by
  obtain ⟨h40, J, hJ, hJe, hc⟩ := clN_le hρ
  unfold lpB at hl
  rw [if_neg (by omega), decide_eq_true_eq] at hl
  obtain ⟨hne, hd⟩ := hl
  unfold inRv at hr
  rw [decide_eq_true_eq] at hr
  have hd2 := hd
  unfold dst adx at hd2
  have ha : (to % 12 + 4 - k % 12 : Nat) < 9 ∧ (k % 12 ≤ to % 12 + 4) := by
    split at hd2 <;> split at hd2 <;> omega
  have hb : (to / 12 + 4 - k / 12 : Nat) < 9 ∧ (k / 12 ≤ to / 12 + 4) := by
    split at hd2 <;> split at hd2 <;> omega
  have hany := lxy_2 J hJ (to % 12 + 4 - k % 12) ha.1 (to / 12 + 4 - k / 12) hb.1 (by
    unfold adx
    split at hd2 <;> split at hd2 <;> split <;> split <;> omega) (by omega)
  rw [List.any_eq_true] at hany
  obtain ⟨i, i0, i9⟩ := hany
  rw [decide_eq_true_eq] at i9
  obtain ⟨i2, i3⟩ := i9
  have i1 := List.mem_range.mp i0
  refine ⟨i, by omega, ?_⟩
  unfold lfA
  rw [if_pos (by omega)]
  omega
theorem far_eq {F rv c : Nat} {I : MI} {ρ : RIV} (hρ : RivOK ρ) (h1 : I rv 1 = aW ρ) (h2 : I rv 2 = aJ ρ) (hc : c < 96) : f_R_isFarEnough F rv (c : Int) I = some (if enB ρ c = true then 1 else 0) := by
  have hW := hρ.2.1
  unfold f_R_isFarEnough enB
  rw [h1, h2, div32_eq (by omega) (by omega) (by omega) (by omega), w32i (by omega) (by omega), if_neg (show ¬ c = 96 by omega)]
  by_cases h : aJ ρ < aW ρ - (c : Int) / 12
  · rw [if_pos h, if_neg (by simp; omega)]
  · rw [if_neg h, if_pos (by simp; omega)]
theorem near_eq {F rv c : Nat} {I : MI} {ρ : RIV} (hρ : RivOK ρ) (h2 : I rv 2 = aJ ρ) (hc : c < 96) : f_R_isNearEnough F rv (c : Int) I = some (if lpB ρ 96 c = true then 1 else 0) := by
  unfold f_R_isNearEnough lpB
  rw [h2, div32_eq (by omega) (by omega) (by omega) (by omega), w32i (by omega) (by omega), if_pos rfl]
  by_cases h : aJ ρ < (c : Int) / 12 + 1
  · rw [if_pos h, if_neg (by simp; omega)]
  · rw [if_neg h, if_pos (by simp; omega)]
theorem once_eq {F rv : Nat} {I : MI} {ρ : RIV} (h1 : I rv 1 = aW ρ) (h2 : I rv 2 = aJ ρ) : f_R_isLeptAtOnce F rv I = some (if enB ρ 96 = true then 1 else 0) := by
  unfold f_R_isLeptAtOnce enB
  rw [h1, h2, if_pos rfl]
  by_cases h : aJ ρ ≤ aW ρ
  · rw [if_pos h, if_neg (by simp; omega)]
  · rw [if_neg h, if_pos (by simp; omega)]
theorem within_eq {F rv a c : Nat} {I : MI} {ρ : RIV} (h2 : I rv 2 = aJ ρ) (ha : a < 96) (hc : c < 96) : f_R_isWithinLeap F rv (a : Int) (c : Int) I = some (if dst a c ≤ aJ ρ then 1 else 0) := by
  unfold f_R_isWithinLeap abs32
  rw [h2]
  simp only [rem32_eq (x := (a : Int)) (y := 12) (by omega) (by omega) (by omega) (by omega), rem32_eq (x := (c : Int)) (y := 12) (by omega) (by omega) (by omega) (by omega), div32_eq (x := (a : Int)) (y := 12) (by omega) (by omega) (by omega) (by omega), div32_eq (x := (c : Int)) (y := 12) (by omega) (by omega) (by omega) (by omega)]
  rw [w32i (x := (a : Int) % 12 - (c : Int) % 12) (by omega) (by omega), w32i (x := (a : Int) / 12 - (c : Int) / 12) (by omega) (by omega), w32i (x := 0 - ((a : Int) % 12 - (c : Int) % 12)) (by omega) (by omega), w32i (x := 0 - ((a : Int) / 12 - (c : Int) / 12)) (by omega) (by omega)]
  have e : (if 0 ≤ (a : Int) % 12 - (c : Int) % 12 then (a : Int) % 12 - (c : Int) % 12 else 0 - ((a : Int) % 12 - (c : Int) % 12)) + (if 0 ≤ (a : Int) / 12 - (c : Int) / 12 then (a : Int) / 12 - (c : Int) / 12 else 0 - ((a : Int) / 12 - (c : Int) / 12)) = dst a c := by
    unfold dst adx
    split <;> split <;> split <;> split <;> omega
  rw [e]
  have hb : 0 ≤ dst a c ∧ dst a c ≤ 20 := by unfold dst adx; split <;> split <;> omega
  rw [w32i (by omega) (by omega)]
  by_cases h : aJ ρ < dst a c
  · rw [if_pos h, if_neg (by omega)]
  · rw [if_neg h, if_pos (by omega)]
/-- what the class's costs are like, up to now -/
def DIv (ρ : RIV) (w cc : Nat → Int) (pl : Int) (C dn : Nat → Int) : Prop :=
  (∀ c, c < 96 → (dn c = 0 ∨ dn c = 1) ∧ C c ≤ 1073741824 ∧ 0 < C c ∧ (w c < 0 → C c = 1073741824 ∧ dn c = 0)) ∧
  (∀ c, c < 96 → 0 ≤ w c → enB ρ c = true → C c ≤ cc c + pl) ∧
  (∀ u v, u < 96 → v < 96 → dn u = 1 → 0 ≤ w v → lpB ρ v u = true → C v ≤ cc v + pl + C u) ∧
  (∀ v, v < 96 → 0 ≤ w v → C v = 1073741824 ∨ (enB ρ v = true ∧ C v = cc v + pl) ∨ ∃ u, u < 96 ∧ dn u = 1 ∧ 0 ≤ w u ∧ lpB ρ v u = true ∧ C v = cc v + pl + C u) ∧
  (∀ u, u < 96 → dn u = 1 → C u < 1073741824) ∧
  (∀ u v, u < 96 → v < 96 → dn u = 1 → dn v = 0 → C u ≤ C v)
theorem cheap_eq {F : Nat} (hF : 1000000 ≤ F) {I : MI} (hd : ∀ c, c < 96 → I 248 c = 0 ∨ I 248 c = 1) : ∃ b : Int, f_Y_cheapest F I = some b ∧ ((b = -1 ∧ ∀ v, v < 96 → I 248 v = 1 ∨ 1073741824 ≤ I 247 v) ∨ ∃ a : Nat, b = (a : Int) ∧ a < 96 ∧ I 248 a = 0 ∧ I 247 a < 1073741824 ∧ ∀ v, v < 96 → I 248 v = 0 → I 247 a ≤ I 247 v) := by
  unfold f_Y_cheapest
  have key := wpo_iter (step := fun q : Int × Int × Int => f_Y_cheapest_L7 F q.1 q.2.1 q.2.2 I) (Q := fun b => (b = -1 ∧ ∀ v, v < 96 → I 248 v = 1 ∨ 1073741824 ≤ I 247 v) ∨ ∃ a : Nat, b = (a : Int) ∧ a < 96 ∧ I 248 a = 0 ∧ I 247 a < 1073741824 ∧ ∀ v, v < 96 → I 248 v = 0 → I 247 a ≤ I 247 v) (fun q => ∃ i : Nat, i ≤ 96 ∧ q.2.2 = (i : Int) ∧ ((q.1 = -1 ∧ q.2.1 = 1073741824 ∧ ∀ v, v < i → I 248 v = 1 ∨ 1073741824 ≤ I 247 v) ∨ ∃ a : Nat, q.1 = (a : Int) ∧ a < i ∧ I 248 a = 0 ∧ q.2.1 = I 247 a ∧ I 247 a < 1073741824 ∧ ∀ v, v < i → I 248 v = 0 → I 247 a ≤ I 247 v)) (fun q => 96 - q.2.2.toNat) ?_ (F := F) (s := ((-1 : Int), (1073741824 : Int), (0 : Int))) (by dsimp only; omega) ⟨0, by omega, rfl, Or.inl ⟨rfl, rfl, fun v hv => absurd hv (by omega)⟩⟩
  · obtain ⟨b, e, q⟩ := key
    exact ⟨b, by rw [e]; rfl, q⟩
  rintro ⟨b, l, x⟩ ⟨i, h1, h2, h3⟩
  dsimp only at h2 h3 ⊢
  subst h2
  unfold f_Y_cheapest_L7
  refine wpo_i (fun hc => wpo_s ?_) (fun hc => ?_)
  · have : i = 96 := by omega
    subst this
    rcases h3 with ⟨e1, _, e3⟩ | ⟨a, e1, e2, e3, e4, e5, e6⟩
    · exact Or.inl ⟨e1, e3⟩
    · exact Or.inr ⟨a, e1, e2, e3, e5, e6⟩
  have hi : i < 96 := by omega
  refine wpo_g (by omega) ?_
  rw [Int.toNat_natCast, w32i (by omega) (by omega)]
  have hdi := hd i hi
  refine wpo_i (fun hc2 => wpo_s ?_) (fun hc2 => wpo_i (fun hc3 => wpo_s ?_) (fun hc3 => wpo_s ?_))
  · refine ⟨⟨i + 1, by omega, by dsimp only; omega, ?_⟩, by dsimp only; omega⟩
    rcases h3 with ⟨e1, e2, e3⟩ | ⟨a, e1, e2, e3, e4, e5, e6⟩
    · refine Or.inl ⟨e1, e2, fun v hv => ?_⟩
      by_cases e : v = i
      · subst e; omega
      · exact e3 v (by omega)
    · refine Or.inr ⟨a, e1, by omega, e3, e4, e5, fun v hv h0 => ?_⟩
      by_cases e : v = i
      · subst e; omega
      · exact e6 v (by omega) h0
  · refine ⟨⟨i + 1, by omega, by dsimp only; omega, ?_⟩, by dsimp only; omega⟩
    have h0i : I 248 i = 0 := by omega
    rcases h3 with ⟨e1, e2, e3⟩ | ⟨a, e1, e2, e3, e4, e5, e6⟩
    · refine Or.inr ⟨i, rfl, by omega, h0i, rfl, by omega, fun v hv h0 => ?_⟩
      by_cases e : v = i
      · subst e; omega
      · have := e3 v (by omega); omega
    · refine Or.inr ⟨i, rfl, by omega, h0i, rfl, by omega, fun v hv h0 => ?_⟩
      by_cases e : v = i
      · subst e; omega
      · have := e6 v (by omega) h0; omega
  · refine ⟨⟨i + 1, by omega, by dsimp only; omega, ?_⟩, by dsimp only; omega⟩
    rcases h3 with ⟨e1, e2, e3⟩ | ⟨a, e1, e2, e3, e4, e5, e6⟩
    · refine Or.inl ⟨e1, e2, fun v hv => ?_⟩
      by_cases e : v = i
      · subst e; omega
      · exact e3 v (by omega)
    · refine Or.inr ⟨a, e1, by omega, e3, e4, e5, fun v hv h0 => ?_⟩
      by_cases e : v = i
      · subst e; omega
      · exact e6 v (by omega) h0
theorem relax_eq {F rv a : Nat} (hF : 1000000 ≤ F) {x2 pl x4 x5 : Int} {I : MI} {ρ : RIV} {w cc : Nat → Int} (hρ : RivOK ρ) (hr0 : I rv 0 = aL ρ) (hr1 : I rv 1 = aW ρ) (hrv : rv = 11 ∨ rv = 30) (hw : ∀ c, c < 96 → I 245 c = w c) (hcc : ∀ c, c < 96 → 0 ≤ w c → x2 * w c = cc c ∧ 0 ≤ cc c ∧ cc c ≤ 100000) (hpl : 1 ≤ pl ∧ pl ≤ 10000) (ha : a < 96) (hCa : 0 < I 247 a ∧ I 247 a < 1073741824) (hwr : ∀ c, c < 96 → 0 ≤ w c → inRv ρ c = true) : ∃ I', iter (fun q : Int × MI => f_Y_weighCosts_L118 F rv x2 pl ((clN ρ : Nat) : Int) x5 (a : Int) q.1 q.2) F (0, I) = some I' ∧ (∀ v, v < 96 → I' 247 v = I 247 v ∨ (0 ≤ w v ∧ lpB ρ a v = true ∧ I' 247 v = cc v + pl + I 247 a ∧ I' 247 v < I 247 v)) ∧ (∀ v, v < 96 → 0 ≤ w v → lpB ρ a v = true → I' 247 v ≤ cc v + pl + I 247 a) ∧ ∀ r, r ≠ 247 → I' r = I r := by
  have h40 := (clN_le hρ).1
  have key := wpo_iter (step := fun q : Int × MI => f_Y_weighCosts_L118 F rv x2 pl ((clN ρ : Nat) : Int) x5 (a : Int) q.1 q.2) (Q := fun I' => (∀ v, v < 96 → I' 247 v = I 247 v ∨ (0 ≤ w v ∧ lpB ρ a v = true ∧ I' 247 v = cc v + pl + I 247 a ∧ I' 247 v < I 247 v)) ∧ (∀ v, v < 96 → 0 ≤ w v → lpB ρ a v = true → I' 247 v ≤ cc v + pl + I 247 a) ∧ ∀ r, r ≠ 247 → I' r = I r) (fun q => ∃ i : Nat, i ≤ clN ρ ∧ q.1 = (i : Int) ∧ (∀ v, v < 96 → q.2 247 v = I 247 v ∨ (0 ≤ w v ∧ lpB ρ a v = true ∧ q.2 247 v = cc v + pl + I 247 a ∧ q.2 247 v < I 247 v)) ∧ (∀ v i' : Nat, v < 96 → i' < i → lfA ρ a i' = (v : Int) → 0 ≤ w v → q.2 247 v ≤ cc v + pl + I 247 a) ∧ ∀ r, r ≠ 247 → q.2 r = I r) (fun q => clN ρ - q.1.toNat) ?_ (F := F) (s := (0, I)) (by dsimp only; omega) ⟨0, by omega, rfl, fun v _ => Or.inl rfl, fun v i' _ hi => absurd hi (by omega), fun _ _ => rfl⟩
  · exact key
  rintro ⟨x, N⟩ ⟨i, h1, h2, h3, h4, h5⟩
  dsimp only at h2 h3 h4 h5 ⊢
  subst h2
  unfold f_Y_weighCosts_L118
  refine wpo_i (fun hc => wpo_s ?_) (fun hc => ?_)
  · have : i = clN ρ := by omega
    subst this
    refine ⟨h3, fun v hv hwv hl => ?_, h5⟩
    obtain ⟨i', q1, q2⟩ := lf_out hρ ha hv (hwr v hv hwv) hl
    exact h4 v i' hv q1 q2 hwv
  have hi : i < clN ρ := by omega
  rw [lf_eq (ρ := ρ) hρ (by rw [h5 rv (by omega)]; exact hr0) (by rw [h5 rv (by omega)]; exact hr1) ha (by omega), Option.bind_some, w32i (x := (i : Int) + 1) (by omega) (by omega)]
  have keep : (∀ v : Nat, v < 96 → lfA ρ a i = (v : Int) → 0 ≤ w v → N 247 v ≤ cc v + pl + I 247 a) → (fun r => Sum.elim (fun I' : MI => (∀ v, v < 96 → I' 247 v = I 247 v ∨ (0 ≤ w v ∧ lpB ρ a v = true ∧ I' 247 v = cc v + pl + I 247 a ∧ I' 247 v < I 247 v)) ∧ (∀ v, v < 96 → 0 ≤ w v → lpB ρ a v = true → I' 247 v ≤ cc v + pl + I 247 a) ∧ ∀ r, r ≠ 247 → I' r = I r) (fun s' : Int × MI => (∃ i : Nat, i ≤ clN ρ ∧ s'.1 = (i : Int) ∧ (∀ v, v < 96 → s'.2 247 v = I 247 v ∨ (0 ≤ w v ∧ lpB ρ a v = true ∧ s'.2 247 v = cc v + pl + I 247 a ∧ s'.2 247 v < I 247 v)) ∧ (∀ v i' : Nat, v < 96 → i' < i → lfA ρ a i' = (v : Int) → 0 ≤ w v → s'.2 247 v ≤ cc v + pl + I 247 a) ∧ ∀ r, r ≠ 247 → s'.2 r = I r) ∧ clN ρ - s'.1.toNat < clN ρ - ((i : Int)).toNat) r) (Sum.inr ((i : Int) + 1, N)) := by
    intro hk
    refine ⟨⟨i + 1, by omega, by dsimp only; omega, h3, fun v i' hv hi' e hwv => ?_, h5⟩, by dsimp only; omega⟩
    by_cases ei : i' = i
    · subst ei; exact hk v hv e hwv
    · exact h4 v i' hv (by omega) e hwv
  rcases lf_in hρ ha hi with e | ⟨to, e, t1, t2⟩
  · rw [e]
    refine wpo_g rfl (wpo_s (keep (fun v hv ev => ?_)))
    rw [e] at ev
    omega
  · rw [e]
    refine wpo_n (by omega) (wpo_g (by omega) ?_)
    rw [Int.toNat_natCast, h5 245 (by decide), hw to t1]
    refine wpo_i (fun hc2 => wpo_g (by omega) (wpo_s ?_)) (fun hc2 => wpo_s (keep (fun v hv ev hwv => ?_)))
    · obtain ⟨c1, c2, c3⟩ := hcc to t1 hc2
      have hNa : N 247 a = I 247 a := by
        rcases h3 a ha with q | ⟨_, q, _, _⟩
        · exact q
        · unfold lpB at q
          rw [if_neg (by omega)] at q
          simp at q
      simp only [Int.toNat_natCast]
      rw [c1, w32i (x := cc to) (by omega) (by omega), w32i (x := cc to + pl) (by omega) (by omega), hNa, w32i (by omega) (by omega)]
      refine ⟨⟨i + 1, by omega, by dsimp only; omega, fun v hv => ?_, fun v i' hv hi' ev hwv => ?_, fun r hr => ?_⟩, by dsimp only; omega⟩ <;> dsimp only
      · by_cases ev : v = to
        · subst ev
          rw [up2_same]
          rcases h3 v hv with q | ⟨q1, q2, q3, q4⟩
          · rw [q]
            by_cases g : cc v + pl + I 247 a < I 247 v
            · exact Or.inr ⟨hc2, t2, by omega, by omega⟩
            · exact Or.inl (by omega)
          · rw [q3]
            exact Or.inr ⟨q1, q2, by omega, by omega⟩
        · rw [up2_k ev]; exact h3 v hv
      · by_cases ev2 : v = to
        · subst ev2
          rw [up2_same]; omega
        · rw [up2_k ev2]
          by_cases ei : i' = i
          · subst ei; rw [e] at ev; omega
          · exact h4 v i' hv (by omega) ev hwv
      · rw [up2_off hr]; exact h5 r hr
    · rw [e] at ev
      have : v = to := by omega
      subst this
      exact absurd hwv hc2
theorem div_step {ρ : RIV} {w cc : Nat → Int} {pl : Int} {C dn C' dn' : Nat → Int} {a : Nat} (hpl : 1 ≤ pl) (hcc : ∀ c, c < 96 → 0 ≤ w c → 0 ≤ cc c) (h : DIv ρ w cc pl C dn) (ha : a < 96) (h0 : dn a = 0) (hl : C a < 1073741824) (hmin : ∀ v, v < 96 → dn v = 0 → C a ≤ C v) (hdn : ∀ v, v < 96 → dn' v = if v = a then 1 else dn v) (hC : ∀ v, v < 96 → C' v = C v ∨ (0 ≤ w v ∧ lpB ρ a v = true ∧ C' v = cc v + pl + C a ∧ C' v < C v)) (hC2 : ∀ v, v < 96 → 0 ≤ w v → lpB ρ a v = true → C' v ≤ cc v + pl + C a) : DIv ρ w cc pl C' dn' := by
  obtain ⟨d0, d1, d2, d3, d4, d5⟩ := h
  have hwa : 0 ≤ w a := by
    by_cases g : 0 ≤ w a
    · exact g
    · have := (d0 a ha).2.2.2 (by omega); omega
  have hself : C' a = C a := by
    rcases hC a ha with q | ⟨_, q, _, _⟩
    · exact q
    · unfold lpB at q
      rw [if_neg (by omega)] at q
      simp at q
  have hle : ∀ v, v < 96 → C' v ≤ C v := fun v hv => by rcases hC v hv with q | ⟨_, _, _, q⟩ <;> omega
  have hdone : ∀ u, u < 96 → dn u = 1 → C' u = C u := by
    intro u hu hd
    rcases hC u hu with q | ⟨q1, q2, q3, q4⟩
    · exact q
    · have := d5 u a hu ha hd h0
      have := hcc u hu q1
      omega
  refine ⟨fun c hc => ?_, fun c hc hw he => ?_, fun u v hu hv hd hw hlp => ?_, fun v hv hw => ?_, fun u hu hd => ?_, fun u v hu hv hd h0v => ?_⟩
  · obtain ⟨a1, a2, a3, a4⟩ := d0 c hc
    rw [hdn c hc]
    refine ⟨?_, by have := hle c hc; omega, ?_, fun hn => ?_⟩
    · split
      · exact Or.inr rfl
      · exact a1
    · rcases hC c hc with q | ⟨q1, q2, q3, q4⟩
      · omega
      · have := hcc c hc q1
        have := (d0 a ha).2.2.1
        omega
    · obtain ⟨b1, b2⟩ := a4 hn
      rw [if_neg (by intro e; subst e; omega)]
      rcases hC c hc with q | ⟨q1, q2, q3, q4⟩
      · omega
      · omega
  · have := hle c hc
    have := d1 c hc hw he
    omega
  · rw [hdn u hu] at hd
    by_cases e : u = a
    · subst e
      rw [hself]
      exact hC2 v hv hw (by rw [lpB_comm hu hv]; exact hlp)
    · rw [if_neg e] at hd
      have := d2 u v hu hv hd hw hlp
      have := hle v hv
      rw [hdone u hu hd]
      omega
  · rcases hC v hv with q | ⟨q1, q2, q3, q4⟩
    · rw [q]
      rcases d3 v hv hw with r | r | ⟨u, u1, u2, u3, u4, u5⟩
      · exact Or.inl r
      · exact Or.inr (Or.inl r)
      · refine Or.inr (Or.inr ⟨u, u1, ?_, u3, u4, by rw [hdone u u1 u2]; exact u5⟩)
        rw [hdn u u1]
        split
        · rfl
        · exact u2
    · exact Or.inr (Or.inr ⟨a, ha, by rw [hdn a ha, if_pos rfl], hwa, by rw [lpB_comm hv ha]; exact q2, by rw [hself]; exact q3⟩)
  · rw [hdn u hu] at hd
    by_cases e : u = a
    · subst e; omega
    · rw [if_neg e] at hd
      have := hle u hu
      have := d4 u hu hd
      omega
  · rw [hdn u hu] at hd
    rw [hdn v hv] at h0v
    have hva : v ≠ a := by intro e; rw [if_pos e] at h0v; omega
    rw [if_neg hva] at h0v
    have hua : C' u ≤ C a := by
      by_cases e : u = a
      · subst e; omega
      · rw [if_neg e] at hd
        rw [hdone u hu hd]
        exact d5 u a hu ha hd h0
    rcases hC v hv with q | ⟨q1, q2, q3, q4⟩
    · have := hmin v hv h0v
      omega
    · have := hcc v hv q1
      omega
theorem cnt_all {p : Nat → Bool} : ∀ {n : Nat}, cnt p n = n → ∀ k, k < n → p k = true
  | 0, _, k, hk => absurd hk (by omega)
  | n + 1, h, k, hk => by
    rw [cnt_s] at h
    have := cnt_nn p n
    have hn : p n = true := by
      by_cases e : p n = true
      · exact e
      · rw [if_neg e] at h; omega
    rw [if_pos hn] at h
    by_cases e : k = n
    · rw [e]; exact hn
    · exact cnt_all (n := n) (by omega) k (by omega)
theorem weigh_eq {F rv : Nat} (hF : 1000000 ≤ F) {x2 pl : Int} {I : MI} {ρ : RIV} {w cc : Nat → Int} (hρ : RivOK ρ) (hr0 : I rv 0 = aL ρ) (hr1 : I rv 1 = aW ρ) (hr2 : I rv 2 = aJ ρ) (hrv : rv = 11 ∨ rv = 30) (hw : ∀ c, c < 96 → I 245 c = w c) (hcc : ∀ c, c < 96 → 0 ≤ w c → x2 * w c = cc c ∧ 0 ≤ cc c ∧ cc c ≤ 100000) (hpl : 1 ≤ pl ∧ pl ≤ 10000) (hwr : ∀ c, c < 96 → 0 ≤ w c → inRv ρ c = true) : ∃ I', f_Y_weighCosts F rv x2 pl I = some I' ∧ DIv ρ w cc pl (I' 247) (I' 248) ∧ (∀ v, v < 96 → I' 248 v = 1 ∨ I' 247 v = 1073741824) ∧ ∀ r, r ≠ 247 → r ≠ 248 → I' r = I r := by
  unfold f_Y_weighCosts
  -- first the costs of those at the far bank
  have k1 := wpo_iter (step := fun q : Int × MI => f_Y_weighCosts_L3 F rv x2 pl q.1 q.2) (Q := fun I' => (∀ c, c < 96 → I' 247 c = (if 0 ≤ w c ∧ enB ρ c = true then cc c + pl else 1073741824) ∧ I' 248 c = 0) ∧ ∀ r, r ≠ 247 → r ≠ 248 → I' r = I r) (fun q => ∃ i : Nat, i ≤ 96 ∧ q.1 = (i : Int) ∧ (∀ c, c < i → q.2 247 c = (if 0 ≤ w c ∧ enB ρ c = true then cc c + pl else 1073741824) ∧ q.2 248 c = 0) ∧ ∀ r, r ≠ 247 → r ≠ 248 → q.2 r = I r) (fun q => 96 - q.1.toNat) ?_ (F := F) (s := (0, I)) (by dsimp only; omega) ⟨0, by omega, rfl, fun c hc => absurd hc (by omega), fun _ _ _ => rfl⟩
  · obtain ⟨I1, e1, q1, q2⟩ := k1
    rw [e1, Option.bind_some, cl_eq hρ (by rw [q2 rv (by omega) (by omega)]; exact hr2), Option.bind_some]
    have d0 : DIv ρ w cc pl (I1 247) (I1 248) := by
      refine ⟨fun c hc => ?_, fun c hc hw' he => ?_, fun u v hu hv hd => ?_, fun v hv hw' => ?_, fun u hu hd => ?_, fun u v hu hv hd => ?_⟩
      · obtain ⟨a1, a2⟩ := q1 c hc
        rw [a1, a2]
        by_cases g : 0 ≤ w c ∧ enB ρ c = true
        · have := hcc c hc g.1
          rw [if_pos g]
          exact ⟨Or.inl rfl, by omega, by omega, fun h => absurd g.1 (by omega)⟩
        · rw [if_neg g]
          exact ⟨Or.inl rfl, by omega, by omega, fun _ => ⟨rfl, rfl⟩⟩
      · rw [(q1 c hc).1, if_pos ⟨hw', he⟩]; exact Int.le_refl _
      · have := (q1 u hu).2; omega
      · rw [(q1 v hv).1]
        by_cases g : enB ρ v = true
        · rw [if_pos ⟨hw', g⟩]; exact Or.inr (Or.inl ⟨g, rfl⟩)
        · rw [if_neg (fun h => g h.2)]; exact Or.inl rfl
      · have := (q1 u hu).2; omega
      · have := (q1 u hu).2; omega
    have k2 := wpo_iter (step := fun q : Int × MI => f_Y_weighCosts_L87 F rv x2 pl ((clN ρ : Nat) : Int) q.1 q.2) (Q := fun e => ∃ I', (e = .inl I' ∨ e = .inr I') ∧ DIv ρ w cc pl (I' 247) (I' 248) ∧ (∀ v, v < 96 → I' 248 v = 1 ∨ I' 247 v = 1073741824) ∧ ∀ r, r ≠ 247 → r ≠ 248 → I' r = I r) (fun q => ∃ n : Nat, n ≤ 96 ∧ q.1 = (n : Int) ∧ DIv ρ w cc pl (q.2 247) (q.2 248) ∧ cnt (fun c => decide (q.2 248 c = 1)) 96 = (n : Int) ∧ ∀ r, r ≠ 247 → r ≠ 248 → q.2 r = I r) (fun q => 96 - q.1.toNat) ?_ (F := F) (s := (0, I1)) (by dsimp only; omega) ⟨0, by omega, rfl, d0, cnt_none (fun c hc => by simp [(q1 c hc).2]), q2⟩
    · obtain ⟨e, he, I', hee, r1, r2, r3⟩ := k2
      refine ⟨I', ?_, r1, r2, r3⟩
      rw [he, Option.bind_some]
      rcases hee with h | h <;> rw [h]
    · rintro ⟨x, N⟩ ⟨n, h1, h2, h3, h4, h5⟩
      dsimp only at h2 h3 h4 h5 ⊢
      subst h2
      unfold f_Y_weighCosts_L87
      refine wpo_i (fun hc => wpo_s ?_) (fun hc => ?_)
      · have : n = 96 := by omega
        subst this
        refine ⟨N, Or.inr rfl, h3, fun v hv => ?_, h5⟩
        have := cnt_all h4 v hv
        simp only [decide_eq_true_eq] at this
        exact Or.inl this
      obtain ⟨b, eb, hb⟩ := cheap_eq (F := F) hF (I := N) (fun c hc => (h3.1 c hc).1)
      rw [eb, Option.bind_some]
      rcases hb with ⟨b1, b2⟩ | ⟨a, b1, b2, b3, b4, b5⟩
      · rw [b1]
        refine wpo_n (by simp) (wpo_s ⟨N, Or.inl rfl, h3, fun v hv => ?_, h5⟩)
        rcases b2 v hv with q | q
        · exact Or.inl q
        · have := (h3.1 v hv).2.1
          exact Or.inr (by omega)
      · rw [b1]
        refine wpo_g (by omega) (wpo_g (by omega) ?_)
        rw [Int.toNat_natCast]
        have f1 : ∀ r, r ≠ 248 → up2 N 248 a 1 r = N r := fun r hr => up2_off hr
        obtain ⟨N', e2, g1, g2, g3⟩ := relax_eq (F := F) (rv := rv) (a := a) (x2 := x2) (pl := pl) (x4 := 0) (x5 := (n : Int)) (I := up2 N 248 a 1) (w := w) (cc := cc) hF hρ (by rw [f1 rv (by omega), h5 rv (by omega) (by omega)]; exact hr0) (by rw [f1 rv (by omega), h5 rv (by omega) (by omega)]; exact hr1) hrv (fun c hc => by rw [f1 245 (by decide), h5 245 (by decide) (by decide)]; exact hw c hc) hcc hpl b2 (by rw [f1 247 (by decide)]; exact ⟨(h3.1 a b2).2.2.1, b4⟩) hwr
        rw [f1 247 (by decide)] at g1 g2
        rw [e2, Option.bind_some]
        have hdn : ∀ v, v < 96 → N' 248 v = if v = a then 1 else N 248 v := fun v hv => by
          rw [g3 248 (by decide)]
          unfold up2
          simp
        refine wpo_s ⟨⟨n + 1, by omega, ?_, div_step hpl.1 (fun c hc hw' => (hcc c hc hw').2.1) h3 b2 b3 b4 b5 hdn g1 g2, ?_, fun r h6 h7 => ?_⟩, ?_⟩
        · dsimp only; rw [w32i (by omega) (by omega)]; omega
        · dsimp only
          have := cnt_add (p := fun c => decide (N 248 c = 1)) (q := fun c => decide (N' 248 c = 1)) b2 (by simp [b3]) (by rw [hdn a b2]; simp) (fun v hv hne => by rw [hdn v hv, if_neg hne])
          rw [this, h4]; omega
        · dsimp only; rw [g3 r h6, f1 r h7]; exact h5 r h6 h7
        · dsimp only; rw [w32i (by omega) (by omega)]; omega
  · rintro ⟨x, N⟩ ⟨i, h1, h2, h3, h4⟩
    dsimp only at h2 h3 h4 ⊢
    subst h2
    unfold f_Y_weighCosts_L3
    refine wpo_i (fun hc => wpo_s ?_) (fun hc => ?_)
    · have : i = 96 := by omega
      subst this
      exact ⟨h3, h4⟩
    have hi : i < 96 := by omega
    refine wpo_g (by omega) ?_
    rw [Int.toNat_natCast, h4 245 (by decide) (by decide), hw i hi]
    have set : ∀ v : Int, v = (if 0 ≤ w i ∧ enB ρ i = true then cc i + pl else 1073741824) → f_Y_weighCosts_b63in3 F rv x2 pl (i : Int) (i : Int) v N = some (.inr ((i : Int) + 1, up2 (up2 N 247 i v) 248 i 0)) := by
      intro v hv
      unfold f_Y_weighCosts_b63in3
      rw [if_pos (by omega), if_pos (by omega), Int.toNat_natCast, w32i (by omega) (by omega)]
    have done : ∀ v : Int, v = (if 0 ≤ w i ∧ enB ρ i = true then cc i + pl else 1073741824) → wpo (f_Y_weighCosts_b63in3 F rv x2 pl (i : Int) (i : Int) v N) (fun r => Sum.elim (fun I' => (∀ c, c < 96 → I' 247 c = (if 0 ≤ w c ∧ enB ρ c = true then cc c + pl else 1073741824) ∧ I' 248 c = 0) ∧ ∀ r, r ≠ 247 → r ≠ 248 → I' r = I r) (fun s' : Int × MI => (∃ i : Nat, i ≤ 96 ∧ s'.1 = (i : Int) ∧ (∀ c, c < i → s'.2 247 c = (if 0 ≤ w c ∧ enB ρ c = true then cc c + pl else 1073741824) ∧ s'.2 248 c = 0) ∧ ∀ r, r ≠ 247 → r ≠ 248 → s'.2 r = I r) ∧ 96 - s'.1.toNat < 96 - ((i : Int)).toNat) r) := by
      intro v hv
      rw [set v hv]
      refine wpo_s ⟨⟨i + 1, by omega, by dsimp only; omega, fun c hc2 => ?_, fun r h6 h7 => ?_⟩, by dsimp only; omega⟩ <;> dsimp only
      · by_cases e : c = i
        · rw [e, up2_same, up2_r (by decide), up2_same, hv]; exact ⟨rfl, rfl⟩
        · rw [up2_k e, up2_r (by decide), up2_k e, up2_r (by decide)]; exact h3 c (by omega)
      · rw [up2_off h7, up2_off h6]; exact h4 r h6 h7
    refine wpo_i (fun hc2 => ?_) (fun hc2 => ?_)
    · unfold f_Y_weighCosts_b33in3 f_Y_weighCosts_b34in3
      refine wpo_g rfl (done _ ?_)
      rw [if_neg (by omega)]
    · rw [far_eq (ρ := ρ) hρ (by rw [h4 rv (by omega) (by omega)]; exact hr1) (by rw [h4 rv (by omega) (by omega)]; exact hr2) hi, Option.bind_some]
      obtain ⟨c1, c2, c3⟩ := hcc i hi (by omega)
      by_cases g : enB ρ i = true
      · rw [if_pos g]
        refine wpo_n (by decide) ?_
        unfold f_Y_weighCosts_b34in3
        refine wpo_n (by decide) (wpo_g (by omega) ?_)
        rw [Int.toNat_natCast, h4 245 (by decide) (by decide), hw i hi, c1, w32i (x := cc i) (by omega) (by omega), w32i (by omega) (by omega)]
        refine done _ ?_
        rw [if_pos ⟨by omega, g⟩]
      · rw [if_neg g]
        unfold f_Y_weighCosts_b33in3 f_Y_weighCosts_b34in3
        refine wpo_g rfl (wpo_g rfl (done _ ?_))
        rw [if_neg (fun h => g h.2)]
