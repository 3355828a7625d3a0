/-! needed, alone, breaks -/
theorem sol_congr {ρ : RIV} {w w' : Nat → Int} {e inf : Int} {c D : Nat → Int} (h : Sol ρ w e c inf D) (hw : ∀ k, k < 96 → w' k = w k) : Sol ρ w' e c inf D := by
  intro k hk
  have hk' : gok w k := by
    rcases hk with h | ⟨h, h'⟩
    · exact Or.inl h
    · exact Or.inr ⟨h, by rw [← hw k h]; exact h'⟩
  obtain ⟨a1, a2, a3, a4, a5⟩ := h k hk'
  refine ⟨a1, a2, a3, fun to t1 t2 => a4 to t1 (by rw [← hw to t1]; exact t2), ?_⟩
  rcases a5 with r | r | ⟨to, t1, t2, t3⟩
  · exact Or.inl r
  · exact Or.inr (Or.inl r)
  · exact Or.inr (Or.inr ⟨to, t1, by rw [hw to t1]; exact t2, t3⟩)
/-- 1 if there is a way over, at these heights -/
noncomputable def ovr (ρ : RIV) (H : Nat → Int) : Int := @ite Int (∃ D, Sol ρ (wSt ρ H) 1 (fun _ => 0) 2000000000 D ∧ D 96 < 2000000000) (Classical.propDecidable _) 1 0
theorem ovr_eq {ρ : RIV} {H D : Nat → Int} (hS : Sol ρ (wSt ρ H) 1 (fun _ => 0) 2000000000 D) : ovr ρ H = if D 96 < 2000000000 then 1 else 0 := by
  unfold ovr
  by_cases g : D 96 < 2000000000
  · rw [if_pos g]
    exact if_pos ⟨D, hS, g⟩
  · rw [if_neg g]
    refine if_neg (fun h => g ?_)
    obtain ⟨D', h1, h2⟩ := h
    rw [sol_uniq (by decide) (fun _ _ _ => by simp) hS h1 96 (Or.inl rfl)]
    exact h2
theorem isSt_congr {ρ : RIV} {H H' : Nat → Int} {c : Nat} (h : H' c = H c) : isSt ρ H' c = isSt ρ H c := by unfold isSt; rw [h]
theorem wSt_congr {ρ : RIV} {H H' : Nat → Int} {c : Nat} (h : H' c = H c) : wSt ρ H' c = wSt ρ H c := by unfold wSt; rw [isSt_congr h]
theorem M_prepSt {F lv : Nat} (hF : 1000000 ≤ F) {I J : MI} {ρ : RIV} {H : Nat → Int} (hρ : RivOK ρ) (hr : RivM I lv ρ) (hl : I 296 18 = (lv : Int)) (hH : ∀ c, c < 96 → I 333 c = H c) : ∃ I', iter (fun q : Int × MI => f_M_isOver_L2 F q.1 q.2 J) F (0, I) = some I' ∧ (∀ c, c < 96 → (I' 335 c ≠ 0 ↔ 0 ≤ wSt ρ H c) ∧ I' 336 c = 0) ∧ ∀ a, a ≠ 335 → a ≠ 336 → I' a = I a := by
  have key := wpo_iter (step := fun q : Int × MI => f_M_isOver_L2 F q.1 q.2 J) (Q := fun I' => (∀ c, c < 96 → (I' 335 c ≠ 0 ↔ 0 ≤ wSt ρ H c) ∧ I' 336 c = 0) ∧ ∀ a, a ≠ 335 → a ≠ 336 → I' a = I a) (fun q => ∃ i : Nat, i ≤ 96 ∧ q.1 = (i : Int) ∧ (∀ c, c < i → (q.2 335 c ≠ 0 ↔ 0 ≤ wSt ρ H c) ∧ q.2 336 c = 0) ∧ ∀ a, a ≠ 335 → a ≠ 336 → q.2 a = I a) (fun q => 96 - q.1.toNat) ?_ (F := F) (s := ((0 : Int), I)) (by dsimp only; omega) ⟨0, by omega, rfl, fun c hc => absurd hc (by omega), fun _ _ _ => rfl⟩
  · exact key
  rintro ⟨x, N⟩ ⟨i, h1, h2, h3, h4⟩
  dsimp only at h2 h3 h4 ⊢
  subst h2
  unfold f_M_isOver_L2
  refine wpo_i (fun hc => wpo_s ?_) (fun hc => ?_)
  · have : i = 96 := by omega
    subst this
    exact ⟨h3, h4⟩
  have hi : i < 96 := by omega
  have hrN : RivM N lv ρ := rivm_congr hr (fun a b1 b2 => h4 a (by omega) (by omega))
  have hlN : N 296 18 = (lv : Int) := by rw [h4 296 (by decide) (by decide)]; exact hl
  have set : ∀ (m : Int), (m ≠ 0 ↔ isSt ρ H i = true) → wpo (f_M_isOver_b41in2 F (i : Int) (i : Int) m N J) (fun r => Sum.elim (fun I' : MI => (∀ c, c < 96 → (I' 335 c ≠ 0 ↔ 0 ≤ wSt ρ H c) ∧ I' 336 c = 0) ∧ ∀ a, a ≠ 335 → a ≠ 336 → I' a = I a) (fun s' : Int × MI => (∃ i : Nat, i ≤ 96 ∧ s'.1 = (i : Int) ∧ (∀ c, c < i → (s'.2 335 c ≠ 0 ↔ 0 ≤ wSt ρ H c) ∧ s'.2 336 c = 0) ∧ ∀ a, a ≠ 335 → a ≠ 336 → s'.2 a = I a) ∧ 96 - s'.1.toNat < 96 - ((i : Int)).toNat) r) := by
    intro m hm
    unfold f_M_isOver_b41in2
    refine wpo_g (by omega) (wpo_g (by omega) (wpo_s ?_))
    rw [w32i (by omega) (by omega), Int.toNat_natCast]
    refine ⟨⟨i + 1, by omega, by dsimp only; omega, fun c hc2 => ?_, fun a b1 b2 => ?_⟩, by dsimp only; omega⟩ <;> dsimp only
    · by_cases e : c = i
      · rw [e, up2_same, up2_r (by decide), up2_same]; exact ⟨hm.trans wSt_nn.symm, rfl⟩
      · rw [up2_k e, up2_r (by decide), up2_k e, up2_r (by decide)]; exact h3 c (by omega)
    · rw [up2_off b2, up2_off b1]; exact h4 a b1 b2
  rw [M_isCellc hρ hrN hlN hi, Option.bind_some]
  by_cases g : inRv ρ i = true
  · rw [if_pos g]
    refine wpo_n (by decide) ?_
    have hst := M_isStep (F := F) (J := J) (s := (fun _ => 0, H)) hrN hlN (by rw [h4 333 (by decide) (by decide)]; exact hH i hi) hi
    rw [hst, Option.bind_some]
    dsimp only
    by_cases g2 : H i < dep ρ i
    · rw [if_pos g2]
      refine wpo_g rfl ?_
      unfold f_M_isOver_b40in2
      exact set 0 ⟨fun h => absurd rfl h, fun h => by have := (isSt_in h).2; omega⟩
    · rw [if_neg g2]
      refine wpo_n (by decide) (set 1 ⟨fun _ => ?_, fun _ => by decide⟩)
      unfold isSt
      simp [g]
      omega
  · rw [if_neg g]
    refine wpo_g rfl ?_
    unfold f_M_isOver_b40in2
    exact set 0 ⟨fun h => absurd rfl h, fun h => absurd (isSt_in h).1 g⟩
theorem M_isOver {lv : Nat} {I J : MI} {ρ : RIV} {H : Nat → Int} (hρ : RivOK ρ) (hr : RivM I lv ρ) (hl : I 296 18 = (lv : Int)) (hH : ∀ c, c < 96 → I 333 c = H c) : ∃ I', f_M_isOver FU I J = some (ovr ρ H, I') ∧ (∀ a, a ≠ 335 → a ≠ 336 → a ≠ 337 → I' a = I a) ∧ ∃ D, Sol ρ (wSt ρ H) 1 (fun _ => 0) 2000000000 D := by
  obtain ⟨I1, e1, v1, f1⟩ := M_prepSt (F := FU) (J := J) FU_big hρ hr hl hH
  obtain ⟨I2, e2, s2, f2⟩ := M_ways (F := FU) (e := 1) (I := I1) (J := J) (w := wSt ρ H) (c := fun _ => 0) FU_huge hρ (rivm_congr hr (fun a b1 b2 => f1 a (by omega) (by omega))) (by rw [f1 296 (by decide) (by decide)]; exact hl) (fun k hk => (v1 k hk).1) (fun k hk _ => (v1 k hk).2) (by omega) (fun k hk _ => by omega)
  refine ⟨I2, ?_, fun a b1 b2 b3 => by rw [f2 a b3, f1 a b1 b2], _, s2⟩
  unfold f_M_isOver
  rw [e1, Option.bind_some, e2, Option.bind_some, ovr_eq s2]
  by_cases g : I2 337 96 < 2000000000
  · rw [if_neg (by omega), if_pos g]
  · rw [if_pos (by omega), if_neg g]
theorem sol_ex {lv : Nat} {I : MI} {ρ : RIV} (hρ : RivOK ρ) (hr : RivM I lv ρ) (hl : I 296 18 = (lv : Int)) (H : Nat → Int) : ∃ D, Sol ρ (wSt ρ H) 1 (fun _ => 0) 2000000000 D := by
  have h1 : ∀ a, a ≠ 333 → (fun a k => if a = 333 then H k else I a k : MI) a = I a := fun a ha => by funext k; simp [ha]
  obtain ⟨_, _, _, hD⟩ := M_isOver (I := fun a k => if a = 333 then H k else I a k) (J := fun _ _ => 0) (H := H) hρ (rivm_congr hr (fun a b1 b2 => h1 a (by omega))) (by simpa using hl) (fun c _ => by simp)
  exact hD
theorem ovr_01 {lv : Nat} {I : MI} {ρ : RIV} (hρ : RivOK ρ) (hr : RivM I lv ρ) (hl : I 296 18 = (lv : Int)) (H : Nat → Int) : ovr ρ H = 0 ∨ ovr ρ H = 1 := by
  obtain ⟨D, hD⟩ := sol_ex hρ hr hl H
  rw [ovr_eq hD]
  split
  · exact Or.inr rfl
  · exact Or.inl rfl
theorem ovr_congr {lv : Nat} {I : MI} {ρ : RIV} (hρ : RivOK ρ) (hr : RivM I lv ρ) (hl : I 296 18 = (lv : Int)) {H H' : Nat → Int} (h : ∀ c, c < 96 → H' c = H c) : ovr ρ H' = ovr ρ H := by
  obtain ⟨D, hD⟩ := sol_ex hρ hr hl H
  rw [ovr_eq hD, ovr_eq (sol_congr hD (fun k hk => wSt_congr (h k hk)))]
/-- the class, over weights -/
theorem X_lead {rv lv : Nat} (hrv : rv = 11 ∨ rv = 30) {I IM : MI} {ρ : RIV} {H : Nat → Int} (hρ : RivOK ρ) (hx : RivX I rv ρ) (hr : RivM IM lv ρ) (hl : IM 296 18 = (lv : Int)) (hw : ∀ c, c < 96 → I 245 c = wSt ρ H c) : ∃ I', f_Y_leadOver FU rv I = some (ovr ρ H, I') ∧ ∀ r, r ≠ 248 → r ≠ 249 → I' r = I r := by
  obtain ⟨D, hD⟩ := sol_ex hρ hr hl H
  obtain ⟨I', e, fr⟩ := lead_eq (F := FU) (rv := rv) FU_big hrv hρ hx hw (fun c hc h => (isSt_in (wSt_nn.mp h)).1) hD
  exact ⟨I', by rw [e, ovr_eq hD], fr⟩
theorem weighH_eq {F rv c : Nat} {h : Int} {I : MI} {ρ : RIV} (hr : RivX I rv ρ) (hc : c < 96) : f_B_weighHeight F rv (c : Int) h I = some (up2 I 245 c (if isSt ρ (fun _ => h) c = true then 0 else -1)) := by
  unfold f_B_weighHeight f_B_weighHeight_b29 f_B_weighHeight_b30 f_B_weighHeight_b44
  rw [has_c hr hc, Option.bind_some]
  by_cases g : inRv ρ c = true
  · rw [if_pos g, if_neg (by decide), if_pos (by omega), Int.toNat_natCast, hr.2.2.2.2.2.1 c hc]
    by_cases g2 : h < dep ρ c
    · rw [if_pos g2, if_pos rfl, if_pos (by omega), if_neg (fun h' => by have := (isSt_in h').2; omega)]
    · rw [if_neg g2, if_neg (by decide), if_pos (by omega), if_pos (by unfold isSt; simp [g]; omega)]
  · rw [if_neg g, if_pos rfl, if_pos rfl, if_pos (by omega), Int.toNat_natCast, if_neg (fun h' => g (isSt_in h').1)]
theorem weigh_loop {F rv : Nat} (hF : 1000000 ≤ F) {st : Int × MI → Option (MI ⊕ (Int × MI))} {I : MI} {ρ : RIV} {H : Nat → Int} (hend : ∀ M, st (((96 : Nat) : Int), M) = some (.inl M)) (hst : ∀ (c : Nat) (M : MI), c < 96 → (∀ a, a ≠ 245 → M a = I a) → st ((c : Int), M) = some (.inr ((c : Int) + 1, up2 M 245 c (if isSt ρ (fun _ => H c) c = true then 0 else -1)))) : ∃ I', iter st F (0, I) = some I' ∧ (∀ c, c < 96 → I' 245 c = wSt ρ H c) ∧ ∀ a, a ≠ 245 → I' a = I a := by
  have key := wpo_iter (step := st) (Q := fun I' => (∀ c, c < 96 → I' 245 c = wSt ρ H c) ∧ ∀ a, a ≠ 245 → I' a = I a) (fun q => ∃ i : Nat, i ≤ 96 ∧ q.1 = (i : Int) ∧ (∀ c, c < i → q.2 245 c = wSt ρ H c) ∧ ∀ a, a ≠ 245 → q.2 a = I a) (fun q => 96 - q.1.toNat) ?_ (F := F) (s := ((0 : Int), I)) (by dsimp only; omega) ⟨0, by omega, rfl, fun c hc => absurd hc (by omega), fun _ _ => rfl⟩
  · exact key
  rintro ⟨x, N⟩ ⟨i, h1, h2, h3, h4⟩
  dsimp only at h2 h3 h4 ⊢
  subst h2
  by_cases e : i = 96
  · subst e
    rw [hend]
    exact wpo_s ⟨h3, h4⟩
  · rw [hst i N (by omega) h4]
    refine wpo_s ⟨⟨i + 1, by omega, by dsimp only; omega, fun c hc2 => ?_, fun a b1 => ?_⟩, by dsimp only; omega⟩ <;> dsimp only
    · by_cases e2 : c = i
      · rw [e2, up2_same]; rfl
      · rw [up2_k e2]; exact h3 c (by omega)
    · rw [up2_off b1]; exact h4 a b1
theorem weighSt_eq {F b rv : Nat} (hF : 1000000 ≤ F) (hbr : isBR b rv) {I : MI} {ρ : RIV} {s : BSt} {dm : Int} (hr : RivX I rv ρ) (hb : BedX I b dm s) : ∃ I', f_B_weighSteps F b rv I = some I' ∧ (∀ c, c < 96 → I' 245 c = wSt ρ s.2 c) ∧ ∀ a, a ≠ 245 → I' a = I a := by
  unfold isBR at hbr
  obtain ⟨I', e, q⟩ := weigh_loop (F := F) (rv := rv) (st := fun q : Int × MI => f_B_weighSteps_L2 F b rv q.1 q.2) (I := I) (ρ := ρ) (H := s.2) hF (fun M => by dsimp only; unfold f_B_weighSteps_L2; rw [if_pos (by omega)]) (fun c M hc hM => by
    dsimp only
    unfold f_B_weighSteps_L2
    rw [if_neg (by omega), if_pos (by omega), Int.toNat_natCast, weighH_eq (ρ := ρ) (rivx_congr hr (fun a b1 b2 b3 b4 => hM a (by omega))) hc, Option.bind_some, hM (b + 1) (by omega), hb.1 c hc, w32i (by omega) (by omega)])
  exact ⟨I', by unfold f_B_weighSteps; rw [e]; rfl, q⟩
def ow (s : BSt) (m c : Nat) : Int := cnt (fun k => decide (s.1 k = (c : Int)) && decide (k / 9 = m)) 72
theorem countOf_eq {F b : Nat} (hF : 1000000 ≤ F) {m c : Nat} {I : MI} {ρ : RIV} {s : BSt} {dm : Int} (hv : VOK ρ s) (hb : BedX I b dm s) (hc : c < 96) : f_B_countOf F b (m : Int) (c : Int) I = some (ow s m c) := by
  have h72 := vok_72 hv hc
  obtain ⟨v1, v2, v3, v4, v5, v6⟩ := hv
  obtain ⟨b1, b2, b3, b4, b5, b6, b7, b8⟩ := hb
  have f1 : ∀ k, k < 72 → s.1 k = (c : Int) → 0 ≤ s.1 (72 + k) ∧ s.1 (72 + k) < s.2 c := by
    intro k hk e
    have := v1 k hk
    rw [e] at this
    simp only [Int.toNat_natCast] at this
    omega
  unfold f_B_countOf
  rw [if_pos (by omega), Int.toNat_natCast]
  rw [iter_eq (e := ow s m c) (fun q => 0 ≤ q.2.2 ∧ q.2.2 ≤ s.2 c ∧ (q.2.2 < s.2 c → ∃ k : Nat, q.2.1 = (k : Int) ∧ k < 72 ∧ s.1 k = (c : Int) ∧ s.1 (72 + k) = s.2 c - 1 - q.2.2) ∧ q.1 = cnt (fun k => decide (s.1 k = (c : Int)) && decide (k / 9 = m) && decide (s.2 c - q.2.2 ≤ s.1 (72 + k))) 72) (fun q => (s.2 c - q.2.2).toNat) ?_ (by dsimp only; omega) ?_]
  · rfl
  · rintro ⟨x, st, i⟩ ⟨p1, p2, p3, p4⟩
    dsimp only at p1 p2 p3 p4 ⊢
    have nn := cnt_nn (fun k => decide (s.1 k = (c : Int)) && decide (k / 9 = m) && decide (s.2 c - i ≤ s.1 (72 + k))) 72
    unfold f_B_countOf_L13
    refine wpo_g (by clear p3; omega) ?_
    rw [Int.toNat_natCast, b1 c hc]
    refine wpo_i (fun hc2 => wpo_s ?_) (fun hc2 => ?_)
    · show x = ow s m c
      clear p3
      rw [p4]
      unfold ow
      refine cnt_congr (fun k hk => ?_)
      by_cases e : s.1 k = (c : Int)
      · have := f1 k hk e
        simp [e]
        intro _; omega
      · simp [e]
    obtain ⟨k, k1, k2, k3, k4⟩ := p3 (by clear p3; omega)
    clear p3
    subst k1
    have ed : div32 (k : Int) 9 = ((k / 9 : Nat) : Int) := by rw [div32_eq (by omega) (by omega) (by omega) (by omega)]; omega
    refine wpo_n (by omega) ?_
    rw [ed]
    have nextst : i + 1 < s.2 c → ∃ k' : Nat, I (b + 4) k = (k' : Int) ∧ k' < 72 ∧ s.1 k' = (c : Int) ∧ s.1 (72 + k') = s.2 c - 1 - (i + 1) := by
      intro hlt
      obtain ⟨k', e1, e2, e3⟩ := v3 c (s.2 c - 1 - (i + 1)) hc (by omega) (by omega)
      exact ⟨k', b5 k k' k2 e1 (by omega) (by omega) (by omega), e1, e2, e3⟩
    have others : ∀ j, j < 72 → j ≠ k → (decide (s.1 j = (c : Int)) && decide (j / 9 = m) && decide (s.2 c - (i + 1) ≤ s.1 (72 + j))) = (decide (s.1 j = (c : Int)) && decide (j / 9 = m) && decide (s.2 c - i ≤ s.1 (72 + j))) := by
      intro j hj hne
      by_cases e : s.1 j = (c : Int)
      · have : s.1 (72 + j) ≠ s.2 c - 1 - i := fun e2 => hne (v2 j k hj k2 (by omega) (by omega) (by omega))
        congr 1
        apply decide_eq_decide.mpr
        omega
      · simp [e]
    have ew : w32 (i + 1) = i + 1 := w32i (by omega) (by omega)
    refine wpo_i (fun hc4 => ?_) (fun hc4 => ?_)
    · unfold f_B_countOf_b41in13
      refine wpo_g (by omega) (wpo_s ?_)
      rw [Int.toNat_natCast, ew]
      refine ⟨⟨by dsimp only; omega, by dsimp only; omega, nextst, ?_⟩, by dsimp only; omega⟩
      dsimp only
      rw [p4]
      refine cnt_congr (fun j hj => ?_)
      by_cases e : j = k
      · rw [e]
        have : ¬ (k / 9 = m) := by omega
        simp [this]
      · exact (others j hj e).symm
    · unfold f_B_countOf_b41in13
      refine wpo_g (by omega) (wpo_s ?_)
      rw [Int.toNat_natCast, ew, w32i (x := x + 1) (by omega) (by omega)]
      refine ⟨⟨by dsimp only; omega, by dsimp only; omega, nextst, ?_⟩, by dsimp only; omega⟩
      dsimp only
      rw [p4]
      have hkm : k / 9 = m := by omega
      exact (cnt_add k2 (by simp [k3, hkm]; omega) (by simp [k3, hkm]; omega) (fun j hj hne => others j hj hne)).symm
  · refine ⟨by dsimp only; omega, by dsimp only; omega, fun hlt => ?_, ?_⟩
    · dsimp only at hlt ⊢
      obtain ⟨k, e1, e2, e3⟩ := v3 c (s.2 c - 1) hc (by omega) (by omega)
      refine ⟨k, ?_, e1, e2, by omega⟩
      have := b3 k e1 (by omega) (by rw [e3, e2]; simp)
      rw [e2] at this
      simpa using this
    · dsimp only
      refine (cnt_none (fun k hk => ?_)).symm
      by_cases e : s.1 k = (c : Int)
      · have := f1 k hk e
        simp [e]
        intro _; omega
      · simp [e]
theorem weighWo_eq {F rv m : Nat} (hF : 1000000 ≤ F) (hrv : rv = 11 ∨ rv = 30) {I : MI} {ρ : RIV} {s : BSt} (hr : RivX I rv ρ) (hq : BedQ I 49 ρ s) : ∃ I', f_B_weighWithout F 49 rv (m : Int) I = some I' ∧ (∀ c, c < 96 → I' 245 c = wSt ρ (fun c => s.2 c - ow s m c) c) ∧ ∀ a, a ≠ 245 → I' a = I a := by
  obtain ⟨I', e, q⟩ := weigh_loop (F := F) (rv := rv) (st := fun q : Int × MI => f_B_weighWithout_L3 F 49 rv (m : Int) q.1 q.2) (I := I) (ρ := ρ) (H := fun c => s.2 c - ow s m c) hF (fun M => by dsimp only; unfold f_B_weighWithout_L3; rw [if_pos (by omega)]) (fun c M hc hM => by
    dsimp only
    have h72 := vok_72 hq.1 hc
    have nn := cnt_nn (fun k => decide (s.1 k = (c : Int)) && decide (k / 9 = m)) 72
    unfold f_B_weighWithout_L3
    rw [if_neg (by omega), if_pos (by omega), Int.toNat_natCast, countOf_eq hF hq.1 (bedx_congr hq.2.1 (hM _ (by omega)) (hM _ (by omega)) (hM _ (by omega)) (hM _ (by omega)) (hM _ (by omega)) (hM _ (by omega))) hc, Option.bind_some, hM (49 + 1) (by omega), hq.2.1.1 c hc]
    unfold ow
    rw [w32i (x := s.2 c - _) (by omega) (by omega), weighH_eq (ρ := ρ) (rivx_congr hr (fun a b1 b2 b3 b4 => hM a (by omega))) hc, Option.bind_some, w32i (by omega) (by omega)])
  exact ⟨I', by unfold f_B_weighWithout; rw [e]; rfl, q⟩
theorem weighAl_eq {F rv m : Nat} (hF : 1000000 ≤ F) (hrv : rv = 11 ∨ rv = 30) {I : MI} {ρ : RIV} {s : BSt} (hr : RivX I rv ρ) (hq : BedQ I 49 ρ s) : ∃ I', f_B_weighAlone F 49 rv (m : Int) I = some I' ∧ (∀ c, c < 96 → I' 245 c = wSt ρ (fun c => ow s m c) c) ∧ ∀ a, a ≠ 245 → I' a = I a := by
  obtain ⟨I', e, q⟩ := weigh_loop (F := F) (rv := rv) (st := fun q : Int × MI => f_B_weighAlone_L3 F 49 rv (m : Int) q.1 q.2) (I := I) (ρ := ρ) (H := fun c => ow s m c) hF (fun M => by dsimp only; unfold f_B_weighAlone_L3; rw [if_pos (by omega)]) (fun c M hc hM => by
    dsimp only
    unfold f_B_weighAlone_L3
    rw [if_neg (by omega), countOf_eq hF hq.1 (bedx_congr hq.2.1 (hM _ (by omega)) (hM _ (by omega)) (hM _ (by omega)) (hM _ (by omega)) (hM _ (by omega)) (hM _ (by omega))) hc, Option.bind_some, weighH_eq (ρ := ρ) (rivx_congr hr (fun a b1 b2 b3 b4 => hM a (by omega))) hc, Option.bind_some, w32i (by omega) (by omega)])
  exact ⟨I', by unfold f_B_weighAlone; rw [e]; rfl, q⟩
/-- the model, over sets of leavers -/
def hBy (s : BSt) (bt : Nat → Bool) (c : Nat) : Int := cnt (fun k => decide (s.1 k = (c : Int)) && bt (k / 9)) 72
theorem hBy_all {ρ : RIV} {s : BSt} (hv : VOK ρ s) {bt : Nat → Bool} (hb : ∀ j, j < 8 → bt j = true) {c : Nat} (hc : c < 96) : hBy s bt c = s.2 c := by
  rw [← vok_h hv c hc]
  unfold hBy hcn
  exact cnt_congr (fun k hk => by rw [hb (k / 9) (by omega), Bool.and_true])
theorem hBy_one {s : BSt} {bt : Nat → Bool} {m : Nat} (hb : ∀ j, j < 8 → (bt j = true ↔ j = m)) {c : Nat} : hBy s bt c = ow s m c := by
  unfold hBy ow
  refine cnt_congr (fun k hk => ?_)
  congr 1
  have := hb (k / 9) (by omega)
  by_cases e : k / 9 = m
  · rw [this.mpr e]; simp [e]
  · simp [e]
    cases h : bt (k / 9) with
    | false => rfl
    | true => exact absurd (this.mp h) e
theorem hBy_but {ρ : RIV} {s : BSt} (hv : VOK ρ s) {bt : Nat → Bool} {m : Nat} (hb : ∀ j, j < 8 → (bt j = true ↔ j ≠ m)) {c : Nat} (hc : c < 96) : hBy s bt c = s.2 c - ow s m c := by
  have : s.2 c = hBy s bt c + ow s m c := by
    rw [← vok_h hv c hc]
    unfold hBy hcn ow
    refine cnt_split (fun k hk => ?_)
    have := hb (k / 9) (by omega)
    by_cases e : s.1 k = (c : Int)
    · by_cases e2 : k / 9 = m
      · have hf : bt (k / 9) = false := by
          cases h : bt (k / 9) with
          | false => rfl
          | true => exact absurd e2 (this.mp h)
        simp [e, e2]
        rw [← e2, hf]; rfl
      · simp [e, e2, this.mpr e2]
    · simp [e]
  omega
theorem M_isOverBy {lv : Nat} {set : Int} {bt : Nat → Bool} (hset : ∀ j : Nat, j < 8 → (and32 (shr32 set (j : Int)) 1 = 1 ↔ bt j = true)) {I J : MI} {ρ : RIV} {s : BSt} (hρ : RivOK ρ) (hr : RivM I lv ρ) (hl : I 296 18 = (lv : Int)) (hv : VOK ρ s) (hn : ∀ k, k < 250 → I 331 k = s.1 k) : ∃ I', f_M_isOverBy FU set I J = some (ovr ρ (hBy s bt), I') ∧ FrQ I I' := by
  have hF := FU_big
  obtain ⟨N, c1, c2, c3⟩ := M_copyq (F := FU) (I := I) (J := J) hF hv hn
  unfold f_M_isOverBy
  rw [c1, Option.bind_some]
  rw [fill_loop 333 0 96 (fun _ => 0) (by omega) (fun M => by dsimp only; unfold f_M_isOverBy_L6; rw [if_pos (by omega)]) (fun j hj => by
    dsimp only
    unfold f_M_isOverBy_L6
    rw [if_neg (by omega), if_pos (by omega), w32i (by omega) (by omega)]
    simp)]
  rw [Option.bind_some]
  have key := wpo_iter (step := fun q : Int × MI => f_M_isOverBy_L27 FU set q.1 q.2 J) (Q := fun M => (∀ c, c < 96 → M 333 c = hBy s bt c) ∧ ∀ a, a ≠ 333 → M a = N a) (fun q => ∃ j : Nat, j ≤ 72 ∧ q.1 = (j : Int) ∧ (∀ c, c < 96 → q.2 333 c = cnt (fun k => decide (s.1 k = (c : Int)) && bt (k / 9)) j) ∧ ∀ a, a ≠ 333 → q.2 a = N a) (fun q => 72 - q.1.toNat) ?_ (F := FU) (s := ((0 : Int), fillR N 333 0 96 fun _ => 0)) (by dsimp only; omega) ⟨0, by omega, rfl, fun c hc => by dsimp only; rw [fillR_in0 hc]; rfl, fun a ha => by dsimp only; rw [fillR_r ha]⟩
  · obtain ⟨M, e1, q1, q2⟩ := key
    rw [e1, Option.bind_some]
    obtain ⟨M2, e2, f2, _⟩ := M_isOver (I := M) (J := J) (H := hBy s bt) hρ (rivm_congr hr (fun a b1 b2 => by rw [q2 a (by omega), c3 a (by omega) (by omega)])) (by rw [q2 296 (by decide), c3 296 (by decide) (by decide)]; exact hl) q1
    rw [e2, Option.bind_some]
    refine ⟨M2, rfl, fun a b1 b2 => ?_, fun k b1 b2 => ?_⟩
    · unfold scrM at b1
      rw [f2 a (by omega) (by omega) (by omega), q2 a (by omega), c3 a (by omega) (by omega)]
    · rw [f2 296 (by decide) (by decide) (by decide), q2 296 (by decide), c3 296 (by decide) (by decide)]
  rintro ⟨i, M⟩ ⟨j, hj, h1, h2, h3⟩
  dsimp only at h1 h2 h3 ⊢
  subst h1
  unfold f_M_isOverBy_L27
  refine wpo_i (fun hc => wpo_s ?_) (fun hc => ?_)
  · have : j = 72 := by omega
    subst this
    exact ⟨h2, h3⟩
  have hj2 : j < 72 := by omega
  refine wpo_g (by omega) ?_
  rw [h3 332 (by decide), Int.toNat_natCast, c2.1 j (by omega), w32i (x := (j : Int) + 1) (by omega) (by omega)]
  have hvj := hv.1 j hj2
  have ed : div32 (j : Int) 9 = ((j / 9 : Nat) : Int) := by rw [div32_eq (by omega) (by omega) (by omega) (by omega)]; omega
  have hs9 := hset (j / 9) (by omega)
  have keep : (∀ c : Nat, c < 96 → (decide (s.1 j = (c : Int)) && bt (j / 9)) = false) → ((∃ j' : Nat, j' ≤ 72 ∧ (j : Int) + 1 = (j' : Int) ∧ (∀ c, c < 96 → M 333 c = cnt (fun k => decide (s.1 k = (c : Int)) && bt (k / 9)) j') ∧ ∀ a, a ≠ 333 → M a = N a) ∧ 72 - ((j : Int) + 1).toNat < 72 - ((j : Int)).toNat) := by
    intro hno
    refine ⟨⟨j + 1, by omega, by omega, fun c hc2 => ?_, h3⟩, by omega⟩
    rw [cnt_s, ← h2 c hc2, hno c hc2]
    simp
  refine wpo_i (fun hc2 => wpo_s (keep (fun c hc3 => ?_))) (fun hc2 => ?_)
  · have : ¬ (s.1 j = (c : Int)) := by omega
    simp [this]
  rw [ed]
  refine wpo_i (fun hc3 => wpo_s (keep (fun c hc4 => ?_))) (fun hc3 => ?_)
  · cases h : bt (j / 9) with
    | false => simp
    | true => exact absurd (hs9.mpr h) hc3
  clear keep
  have hbt := hs9.mp (by omega)
  refine wpo_g (by omega) (wpo_s ?_)
  refine ⟨⟨j + 1, by omega, by dsimp only; omega, fun c hc4 => ?_, fun a ha => ?_⟩, by dsimp only; omega⟩ <;> dsimp only
  · rw [cnt_s, ← h2 c hc4, hbt, Bool.and_true]
    have hcc := cnt_nn (fun k => decide (s.1 k = (c : Int)) && bt (k / 9)) j
    rw [← h2 c hc4] at hcc
    by_cases e : c = (s.1 j).toNat
    · subst e
      rw [up2_same, if_pos (by simp; omega), w32i (by omega) (by omega)]
    · rw [up2_k e, if_neg (by simp; omega)]
      simp
  · rw [up2_off ha, h3 a ha]
theorem set_255 : ∀ j : Nat, j < 8 → (and32 (shr32 255 (j : Int)) 1 = 1 ↔ (fun _ : Nat => true) j = true) := by decide +kernel
theorem set_one : ∀ m : Nat, m < 8 → ∀ j : Nat, j < 8 → (and32 (shr32 (shl32 1 (m : Int)) (j : Int)) 1 = 1 ↔ decide (j = m) = true) := by decide +kernel
theorem set_but : ∀ m : Nat, m < 8 → ∀ j : Nat, j < 8 → (and32 (shr32 (and32 255 (xor32 (shl32 1 (m : Int)) (-1))) (j : Int)) 1 = 1 ↔ decide (j ≠ m) = true) := by decide +kernel
def foldB (f : Nat → Bool) : Nat → Int
  | 0 => 0
  | n + 1 => if f n then or32 (foldB f n) (shl32 1 (n : Int)) else foldB f n
theorem X_isWayOver {b rv lv : Nat} (hbr : isBR b rv) {I IM : MI} {ρ : RIV} {s : BSt} {dm : Int} (hρ : RivOK ρ) (hx : RivX I rv ρ) (hr : RivM IM lv ρ) (hl : IM 296 18 = (lv : Int)) (hb : BedX I b dm s) : ∃ I', f_X_isWayOver FU b rv I = some (ovr ρ s.2, I') ∧ ∀ r, r ≠ 245 → r ≠ 248 → r ≠ 249 → I' r = I r := by
  obtain ⟨I1, e1, w1, f1⟩ := weighSt_eq (F := FU) FU_big hbr hx hb
  have hbr' := hbr
  unfold isBR at hbr'
  obtain ⟨I2, e2, f2⟩ := X_lead (rv := rv) (by omega) hρ (rivx_congr hx (fun a b1 b2 b3 b4 => f1 a (by omega))) hr hl w1
  refine ⟨I2, ?_, fun r h1 h2 h3 => by rw [f2 r h2 h3, f1 r h1]⟩
  unfold f_X_isWayOver
  rw [e1, Option.bind_some, e2, Option.bind_some]
theorem ag_needed (j : Nat) (hj : j < 512) : ag_16 (InvQ j) (InvQ (j + 1)) := by
  intro I J rv sp hrr hss hI
  have hF := FU_big
  have hI0 := hI
  obtain ⟨ρ, s, lv, hp, hρ, hx, hm, hl, hb, hn, hd, ht, hpl, hpa, hs, htl, hk⟩ := hI
  have hp' := hp
  unfold isPair at hp'
  have hN8 := hρ.2.2.2.1
  obtain ⟨I1, e1, f1⟩ := X_isWayOver (b := 49) (rv := rv) ⟨Or.inl rfl, by omega⟩ hρ hx hm hl hb.2.1
  have frx1 : FrX rv I I1 := fun a ha => f1 a (by unfold scrX at ha; omega) (by unfold scrX at ha; omega) (by unfold scrX at ha; omega)
  have o01 := ovr_01 hρ hm hl s.2
  -- the model's first look, on any memory alike
  have first : ∀ I2 : MI, (∀ a, 275 ≤ a → I2 a = I a) → ∃ N, f_M_isOverBy FU 255 I2 J = some (ovr ρ s.2, N) ∧ FrQ I2 N := fun I2 h2 => by
    obtain ⟨N, e, fr⟩ := M_isOverBy (I := I2) (J := J) set_255 hρ (rivm_congr hm (fun a b1 b2 => h2 a (by omega))) (by rw [h2 296 (by omega)]; exact hl) hb.1 (fun k hk => by rw [h2 331 (by omega)]; exact hn k hk)
    refine ⟨N, ?_, fr⟩
    rw [e, ovr_congr hρ hm hl (fun c hc => hBy_all hb.1 (fun _ _ => rfl) hc)]
  by_cases h0 : ovr ρ s.2 = 0
  · obtain ⟨N, e2, fr2⟩ := first I1 (fun a ha => frx1 a (by unfold scrX; omega))
    refine ag_mk (r := 0) (M := I1) (N := N) (fm := fun M => f_M_needed FU M J) (V := fun M => InvQ (j + 1) M J rv sp) ?_ ?_ (invq_keep hI0 frx1 fr2) hrr hss
    · unfold f_X_needed
      rw [e1, Option.bind_some, if_neg (by simp [h0])]
    · show f_M_needed FU I1 J = _
      unfold f_M_needed
      rw [e2, Option.bind_some, if_neg (by simp [h0])]
  · -- the class's loop
    have kx := wpo_iter (step := fun q : Int × Int × MI => f_X_needed_L17 FU q.1 q.2.1 rv q.2.2) (Q := fun e => e.1 = foldB (fun m => decide (ovr ρ (fun c => s.2 c - ow s m c) = 0)) (aN ρ).toNat ∧ FrX rv I e.2) (fun q => ∃ m : Nat, (m : Int) ≤ aN ρ ∧ q.2.1 = (m : Int) ∧ q.1 = foldB (fun m => decide (ovr ρ (fun c => s.2 c - ow s m c) = 0)) m ∧ FrX rv I q.2.2) (fun q => (aN ρ - q.2.1).toNat) ?_ (F := FU) (s := ((0 : Int), (0 : Int), I1)) (by dsimp only; omega) ⟨0, by omega, rfl, rfl, frx1⟩
    · obtain ⟨⟨r, I2⟩, ex, q1, q2⟩ := kx
      dsimp only at q1 q2
      have g2 : ∀ a, 275 ≤ a → I2 a = I a := fun a ha => q2 a (by unfold scrX; omega)
      obtain ⟨N1, e2, fr2⟩ := first I2 g2
      have km := wpo_iter (step := fun q : Int × Int × MI => f_M_needed_L16 FU q.1 q.2.1 q.2.2 J) (Q := fun e => e.1 = foldB (fun m => decide (ovr ρ (fun c => s.2 c - ow s m c) = 0)) (aN ρ).toNat ∧ FrQ I2 e.2) (fun q => ∃ m : Nat, (m : Int) ≤ aN ρ ∧ q.2.1 = (m : Int) ∧ q.1 = foldB (fun m => decide (ovr ρ (fun c => s.2 c - ow s m c) = 0)) m ∧ FrQ I2 q.2.2) (fun q => (aN ρ - q.2.1).toNat) ?_ (F := FU) (s := ((0 : Int), (0 : Int), N1)) (by dsimp only; omega) ⟨0, by omega, rfl, rfl, fr2⟩
      · obtain ⟨⟨r2, N⟩, em, t1, t2⟩ := km
        dsimp only at t1 t2
        refine ag_mk (r := r) (M := I2) (N := N) (fm := fun M => f_M_needed FU M J) (V := fun M => InvQ (j + 1) M J rv sp) ?_ ?_ (invq_keep hI0 q2 t2) hrr hss
        · unfold f_X_needed
          rw [e1, Option.bind_some, if_pos h0, ex, Option.bind_some]
        · show f_M_needed FU I2 J = _
          unfold f_M_needed
          rw [e2, Option.bind_some, if_pos h0, em, Option.bind_some, t1, q1]
      · rintro ⟨x, y, N⟩ ⟨m, h1, h2, h3, h4⟩
        dsimp only at h2 h3 h4 ⊢
        subst h2
        have hmN : RivM N lv ρ := rivm_congr hm (fun a b1 b2 => by rw [h4.1 a (by unfold scrM; omega) (by omega), g2 a (by omega)])
        have hlN : N 296 18 = (lv : Int) := by rw [h4.2 18 (by decide) (by decide), g2 296 (by omega)]; exact hl
        have hlv := hm.1
        unfold f_M_needed_L16
        rw [hlN]
        refine wpo_g (by omega) ?_
        rw [Int.toNat_natCast, hmN.2.2.2.2.1]
        refine wpo_i (fun hc => wpo_s ?_) (fun hc => ?_)
        · have : m = (aN ρ).toNat := by omega
          subst this
          exact ⟨h3, h4⟩
        obtain ⟨N', e3, fr3⟩ := M_isOverBy (I := N) (J := J) (set_but m (by omega)) hρ hmN hlN hb.1 (fun k hk => by rw [h4.1 331 (by unfold scrM; omega) (by decide), g2 331 (by omega)]; exact hn k hk)
        rw [e3, Option.bind_some, ovr_congr hρ hm hl (H := fun c => s.2 c - ow s m c) (fun c hc2 => hBy_but hb.1 (fun j hj => by simp) hc2), w32i (by omega) (by omega)]
        have ef : foldB (fun m => decide (ovr ρ (fun c => s.2 c - ow s m c) = 0)) (m + 1) = if ovr ρ (fun c => s.2 c - ow s m c) = 0 then or32 (foldB (fun m => decide (ovr ρ (fun c => s.2 c - ow s m c) = 0)) m) (shl32 1 (m : Int)) else foldB (fun m => decide (ovr ρ (fun c => s.2 c - ow s m c) = 0)) m := by
          show (if decide _ = true then _ else _) = _
          simp only [decide_eq_true_eq]
        refine wpo_i (fun hc2 => wpo_s ?_) (fun hc2 => wpo_s ?_)
        · refine ⟨⟨m + 1, by omega, by dsimp only; omega, ?_, frQ_trans h4 fr3⟩, by dsimp only; omega⟩
          dsimp only
          rw [ef, if_neg hc2]; exact h3
        · refine ⟨⟨m + 1, by omega, by dsimp only; omega, ?_, frQ_trans h4 fr3⟩, by dsimp only; omega⟩
          dsimp only
          rw [ef, if_pos (by dsimp only at hc2; omega), h3]
    · rintro ⟨x, y, N⟩ ⟨m, h1, h2, h3, h4⟩
      dsimp only at h2 h3 h4 ⊢
      subst h2
      have hxN : RivX N rv ρ := rivx_congr hx (fun a b1 b2 b3 b4 => h4 a (by unfold scrX; omega))
      have hbN : BedQ N 49 ρ s := bedq_congr hb (fun a b1 b2 => h4 a (by unfold scrX; omega))
      unfold f_X_needed_L17
      rw [hxN.2.2.2.1]
      refine wpo_i (fun hc => wpo_s ?_) (fun hc => ?_)
      · have : m = (aN ρ).toNat := by omega
        subst this
        exact ⟨h3, h4⟩
      obtain ⟨N1, e3, w3, fr3⟩ := weighWo_eq (F := FU) (m := m) hF (rv := rv) (by omega) hxN hbN
      rw [e3, Option.bind_some]
      obtain ⟨N2, e4, fr4⟩ := X_lead (rv := rv) (by omega) hρ (rivx_congr hxN (fun a b1 b2 b3 b4 => fr3 a (by omega))) hm hl w3
      rw [e4, Option.bind_some, w32i (by omega) (by omega)]
      have fr5 : FrX rv I N2 := frX_trans h4 (fun a ha => by unfold scrX at ha; rw [fr4 a (by omega) (by omega), fr3 a (by omega)])
      have ef : foldB (fun m => decide (ovr ρ (fun c => s.2 c - ow s m c) = 0)) (m + 1) = if ovr ρ (fun c => s.2 c - ow s m c) = 0 then or32 (foldB (fun m => decide (ovr ρ (fun c => s.2 c - ow s m c) = 0)) m) (shl32 1 (m : Int)) else foldB (fun m => decide (ovr ρ (fun c => s.2 c - ow s m c) = 0)) m := by
        show (if decide _ = true then _ else _) = _
        simp only [decide_eq_true_eq]
      refine wpo_i (fun hc2 => wpo_s ?_) (fun hc2 => wpo_s ?_)
      · refine ⟨⟨m + 1, by omega, by dsimp only; omega, ?_, fr5⟩, by dsimp only; omega⟩
        dsimp only
        rw [ef, if_neg hc2]; exact h3
      · refine ⟨⟨m + 1, by omega, by dsimp only; omega, ?_, fr5⟩, by dsimp only; omega⟩
        dsimp only
        rw [ef, if_pos (by dsimp only at hc2; omega), h3]
theorem ag_alone (j : Nat) (hj : j < 512) : ag_17 (InvQ j) (InvQ (j + 1)) := by
  intro I J rv sp hrr hss hI
  have hF := FU_big
  have hI0 := hI
  obtain ⟨ρ, s, lv, hp, hρ, hx, hm, hl, hb, hn, hd, ht, hpl, hpa, hs, htl, hk⟩ := hI
  have hp' := hp
  unfold isPair at hp'
  have hN8 := hρ.2.2.2.1
  have kx := wpo_iter (step := fun q : Int × Int × MI => f_X_alone_L4 FU q.1 q.2.1 rv q.2.2) (Q := fun e => e.1 = foldB (fun m => !decide (ovr ρ (fun c => ow s m c) = 0)) (aN ρ).toNat ∧ FrX rv I e.2) (fun q => ∃ m : Nat, (m : Int) ≤ aN ρ ∧ q.2.1 = (m : Int) ∧ q.1 = foldB (fun m => !decide (ovr ρ (fun c => ow s m c) = 0)) m ∧ FrX rv I q.2.2) (fun q => (aN ρ - q.2.1).toNat) ?_ (F := FU) (s := ((0 : Int), (0 : Int), I)) (by dsimp only; omega) ⟨0, by omega, rfl, rfl, frX_refl⟩
  · obtain ⟨⟨r, I2⟩, ex, q1, q2⟩ := kx
    dsimp only at q1 q2
    have g2 : ∀ a, 275 ≤ a → I2 a = I a := fun a ha => q2 a (by unfold scrX; omega)
    have km := wpo_iter (step := fun q : Int × Int × MI => f_M_alone_L4 FU q.1 q.2.1 q.2.2 J) (Q := fun e => e.1 = foldB (fun m => !decide (ovr ρ (fun c => ow s m c) = 0)) (aN ρ).toNat ∧ FrQ I2 e.2) (fun q => ∃ m : Nat, (m : Int) ≤ aN ρ ∧ q.2.1 = (m : Int) ∧ q.1 = foldB (fun m => !decide (ovr ρ (fun c => ow s m c) = 0)) m ∧ FrQ I2 q.2.2) (fun q => (aN ρ - q.2.1).toNat) ?_ (F := FU) (s := ((0 : Int), (0 : Int), I2)) (by dsimp only; omega) ⟨0, by omega, rfl, rfl, frQ_refl⟩
    · obtain ⟨⟨r2, N⟩, em, t1, t2⟩ := km
      dsimp only at t1 t2
      refine ag_mk (r := r) (M := I2) (N := N) (fm := fun M => f_M_alone FU M J) (V := fun M => InvQ (j + 1) M J rv sp) ?_ ?_ (invq_keep hI0 q2 t2) hrr hss
      · unfold f_X_alone
        rw [ex, Option.bind_some]
      · show f_M_alone FU I2 J = _
        unfold f_M_alone
        rw [em, Option.bind_some, t1, q1]
    · rintro ⟨x, y, N⟩ ⟨m, h1, h2, h3, h4⟩
      dsimp only at h2 h3 h4 ⊢
      subst h2
      have hmN : RivM N lv ρ := rivm_congr hm (fun a b1 b2 => by rw [h4.1 a (by unfold scrM; omega) (by omega), g2 a (by omega)])
      have hlN : N 296 18 = (lv : Int) := by rw [h4.2 18 (by decide) (by decide), g2 296 (by omega)]; exact hl
      have hlv := hm.1
      unfold f_M_alone_L4
      rw [hlN]
      refine wpo_g (by omega) ?_
      rw [Int.toNat_natCast, hmN.2.2.2.2.1]
      refine wpo_i (fun hc => wpo_s ?_) (fun hc => ?_)
      · have : m = (aN ρ).toNat := by omega
        subst this
        exact ⟨h3, h4⟩
      obtain ⟨N', e3, fr3⟩ := M_isOverBy (I := N) (J := J) (set_one m (by omega)) hρ hmN hlN hb.1 (fun k hk => by rw [h4.1 331 (by unfold scrM; omega) (by decide), g2 331 (by omega)]; exact hn k hk)
      rw [e3, Option.bind_some, ovr_congr hρ hm hl (H := fun c => ow s m c) (fun c hc2 => hBy_one (fun j hj => by simp)), w32i (by omega) (by omega)]
      have ef : foldB (fun m => !decide (ovr ρ (fun c => ow s m c) = 0)) (m + 1) = if ovr ρ (fun c => ow s m c) = 0 then foldB (fun m => !decide (ovr ρ (fun c => ow s m c) = 0)) m else or32 (foldB (fun m => !decide (ovr ρ (fun c => ow s m c) = 0)) m) (shl32 1 (m : Int)) := by
        show (if (!decide _) = true then _ else _) = _
        by_cases g : ovr ρ (fun c => ow s m c) = 0
        · rw [if_pos g, if_neg (by simp [g])]
        · rw [if_neg g, if_pos (by simp [g])]
      refine wpo_i (fun hc2 => wpo_s ?_) (fun hc2 => wpo_s ?_)
      · refine ⟨⟨m + 1, by omega, by dsimp only; omega, ?_, frQ_trans h4 fr3⟩, by dsimp only; omega⟩
        dsimp only
        rw [ef, if_pos hc2]; exact h3
      · refine ⟨⟨m + 1, by omega, by dsimp only; omega, ?_, frQ_trans h4 fr3⟩, by dsimp only; omega⟩
        dsimp only
        rw [ef, if_neg hc2, h3]
  · rintro ⟨x, y, N⟩ ⟨m, h1, h2, h3, h4⟩
    dsimp only at h2 h3 h4 ⊢
    subst h2
    have hxN : RivX N rv ρ := rivx_congr hx (fun a b1 b2 b3 b4 => h4 a (by unfold scrX; omega))
    have hbN : BedQ N 49 ρ s := bedq_congr hb (fun a b1 b2 => h4 a (by unfold scrX; omega))
    unfold f_X_alone_L4
    rw [hxN.2.2.2.1]
    refine wpo_i (fun hc => wpo_s ?_) (fun hc => ?_)
    · have : m = (aN ρ).toNat := by omega
      subst this
      exact ⟨h3, h4⟩
    obtain ⟨N1, e3, w3, fr3⟩ := weighAl_eq (F := FU) (m := m) hF (rv := rv) (by omega) hxN hbN
    rw [e3, Option.bind_some]
    obtain ⟨N2, e4, fr4⟩ := X_lead (rv := rv) (by omega) hρ (rivx_congr hxN (fun a b1 b2 b3 b4 => fr3 a (by omega))) hm hl w3
    rw [e4, Option.bind_some, w32i (by omega) (by omega)]
    have fr5 : FrX rv I N2 := frX_trans h4 (fun a ha => by unfold scrX at ha; rw [fr4 a (by omega) (by omega), fr3 a (by omega)])
    have ef : foldB (fun m => !decide (ovr ρ (fun c => ow s m c) = 0)) (m + 1) = if ovr ρ (fun c => ow s m c) = 0 then foldB (fun m => !decide (ovr ρ (fun c => ow s m c) = 0)) m else or32 (foldB (fun m => !decide (ovr ρ (fun c => ow s m c) = 0)) m) (shl32 1 (m : Int)) := by
      show (if (!decide _) = true then _ else _) = _
      by_cases g : ovr ρ (fun c => ow s m c) = 0
      · rw [if_pos g, if_neg (by simp [g])]
      · rw [if_neg g, if_pos (by simp [g])]
    refine wpo_i (fun hc2 => wpo_s ?_) (fun hc2 => wpo_s ?_)
    · refine ⟨⟨m + 1, by omega, by dsimp only; omega, ?_, fr5⟩, by dsimp only; omega⟩
      dsimp only
      rw [ef, if_pos hc2]; exact h3
    · refine ⟨⟨m + 1, by omega, by dsimp only; omega, ?_, fr5⟩, by dsimp only; omega⟩
      dsimp only
      rw [ef, if_neg hc2, h3]
