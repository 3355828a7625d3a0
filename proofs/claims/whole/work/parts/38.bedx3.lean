/-! the class's river and what a day does to its bed -/
def RivX (I : MI) (rv : Nat) (ρ : RIV) : Prop :=
  I rv 0 = aL ρ ∧ I rv 1 = aW ρ ∧ I rv 2 = aJ ρ ∧ I rv 5 = aN ρ ∧ I rv 10 = aF ρ ∧ (∀ c, c < 96 → I (rv + 1) c = dep ρ c) ∧ (∀ y, y < 8 → I (rv + 2) y = flo ρ y) ∧ (∀ m : Nat, (m : Int) < aN ρ → I (rv + 3) m = fsd ρ m ∧ I (rv + 4) m = siz ρ m ∧ I (rv + 5) m = man ρ m ∧ I (rv + 6) m = gri ρ m) ∧ (∀ f : Nat, (f : Int) < aF ρ → I (rv + 7) f = fld ρ f ∧ I (rv + 8) f = frc ρ f) ∧ LawX I (rv + 9) ρ.2.1 ∧ LawX I (rv + 14) ρ.2.2
theorem rivx_congr {I I' : MI} {rv : Nat} {ρ : RIV} (h : RivX I rv ρ) (hf : ∀ a, rv ≤ a → a ≤ rv + 16 → a ≠ rv + 12 → a ≠ rv + 13 → I' a = I a) : RivX I' rv ρ := by
  obtain ⟨h1, h2, h3, h4, h5, h6, h7, h8, h9, h10, h11⟩ := h
  unfold RivX
  rw [hf rv (by omega) (by omega) (by omega) (by omega), hf (rv + 1) (by omega) (by omega) (by omega) (by omega), hf (rv + 2) (by omega) (by omega) (by omega) (by omega), hf (rv + 3) (by omega) (by omega) (by omega) (by omega), hf (rv + 4) (by omega) (by omega) (by omega) (by omega), hf (rv + 5) (by omega) (by omega) (by omega) (by omega), hf (rv + 6) (by omega) (by omega) (by omega) (by omega), hf (rv + 7) (by omega) (by omega) (by omega) (by omega), hf (rv + 8) (by omega) (by omega) (by omega) (by omega)]
  exact ⟨h1, h2, h3, h4, h5, h6, h7, h8, h9, lawX_congr h10 (hf _ (by omega) (by omega) (by omega) (by omega)) (hf _ (by omega) (by omega) (by omega) (by omega)) (hf _ (by omega) (by omega) (by omega) (by omega)), lawX_congr h11 (hf _ (by omega) (by omega) (by omega) (by omega)) (hf _ (by omega) (by omega) (by omega) (by omega)) (hf _ (by omega) (by omega) (by omega) (by omega))⟩
/-- where a bed and the scratch of the laws are left out -/
def FrB (b rv : Nat) (I I' : MI) : Prop := ∀ a, (a < b ∨ b + 6 < a) → a ≠ rv + 12 → a ≠ rv + 13 → a ≠ rv + 17 → a ≠ rv + 18 → I' a = I a
theorem frB_refl {b rv : Nat} {I : MI} : FrB b rv I I := fun _ _ _ _ _ _ => rfl
theorem frB_trans {b rv : Nat} {I I' I2 : MI} (h : FrB b rv I I') (h2 : FrB b rv I' I2) : FrB b rv I I2 := fun a h1 h3 h4 h5 h6 => (h2 a h1 h3 h4 h5 h6).trans (h a h1 h3 h4 h5 h6)
def isBR (b rv : Nat) : Prop := (b = 49 ∨ b = 56) ∧ (rv = 11 ∨ rv = 30)
theorem rivx_fr {b rv : Nat} {I I' : MI} {ρ : RIV} (hbr : isBR b rv) (h : RivX I rv ρ) (hf : FrB b rv I I') : RivX I' rv ρ := by
  unfold isBR at hbr
  exact rivx_congr h (fun a h1 h2 h3 h4 => hf a (by omega) h3 h4 (by omega) (by omega))
theorem has_eq {F rv : Nat} {x y : Int} {I : MI} : f_R_has F rv x y I = some (if 0 ≤ x ∧ x < I rv 0 ∧ 0 ≤ y ∧ y < I rv 1 then 1 else 0) := by
  unfold f_R_has
  by_cases h1 : x < 0
  · rw [if_pos h1, if_neg (by omega)]
  rw [if_neg h1]
  by_cases h2 : I rv 0 ≤ x
  · rw [if_pos h2, if_neg (by omega)]
  rw [if_neg h2]
  by_cases h3 : y < 0
  · rw [if_pos h3, if_neg (by omega)]
  rw [if_neg h3]
  by_cases h4 : I rv 1 ≤ y
  · rw [if_pos h4, if_neg (by omega)]
  rw [if_neg h4, if_pos (by omega)]
theorem has_t {F rv : Nat} {x y : Int} {I : MI} (h : 0 ≤ x ∧ x < I rv 0 ∧ 0 ≤ y ∧ y < I rv 1) : f_R_has F rv x y I = some 1 := by rw [has_eq, if_pos h]
theorem has_f {F rv : Nat} {x y : Int} {I : MI} (h : ¬ (0 ≤ x ∧ x < I rv 0 ∧ 0 ≤ y ∧ y < I rv 1)) : f_R_has F rv x y I = some 0 := by rw [has_eq, if_neg h]
theorem cnum_eq {F : Nat} {x y : Nat} {I : MI} (hx : x < 12) (hy : y < 8) : f_X_cellNumber F (x : Int) (y : Int) I = some ((12 * y + x : Nat) : Int) := by
  unfold f_X_cellNumber
  rw [w32i (x := (y : Int) * 12) (by omega) (by omega), w32i (by omega) (by omega)]
  congr 1
  omega
theorem mossOn_eq {F b : Nat} {c : Nat} {t dm : Int} {I : MI} {ρ : RIV} {s : BSt} (hv : VOK ρ s) (hb : BedX I b dm s) (hc : c < 96) (ht : t = dm) (hdm : 0 ≤ dm ∧ dm ≤ 1000000) : f_B_mossOn F b (c : Int) t I = some (s.1 (144 + c)) := by
  unfold f_B_mossOn
  rw [if_pos (by omega), Int.toNat_natCast, hb.1 c hc]
  have h4 := hv.2.2.2.1 c hc
  by_cases h0 : s.2 c = 0
  · rw [if_neg (by omega), h4.2.1 h0]
  · rw [if_pos h0]
    have := hb.2.2.2.2.2.1 c hc (by omega)
    rw [ht, w32i (by omega) (by omega), this.1]
theorem cell_step {F b rv : Nat} (hF : 1000000 ≤ F) (hbr : isBR b rv) {force dm : Int} {x y : Nat} {I : MI} {ρ : RIV} {s : BSt} (hρ : RivOK ρ) (hr : RivX I rv ρ) (hv : VOK ρ s) (hb : BedX I b dm s) (hd : I b 0 + 1 = dm) (hdm : 0 ≤ dm ∧ dm ≤ 1000000) (hx : (x : Int) < aL ρ) (hy : (y : Int) < aW ρ) (hf : 1 ≤ force ∧ force ≤ 12) : ∃ I', f_B_floodRow_L8 F b rv force (y : Int) (x : Int) I = some (.inr ((x : Int) - 1, I')) ∧ BedX I' b dm (cellA ρ force (12 * y + x) s) ∧ VOK ρ (cellA ρ force (12 * y + x) s) ∧ I' b = I b ∧ FrB b rv I I' := by
  unfold isBR at hbr
  have hl12 := hρ.1.2
  have hw8 := hρ.2.1.2
  have hc : 12 * y + x < 96 := by omega
  have hx12 : (12 * y + x) % 12 = x := by omega
  have hy12 : (12 * y + x) / 12 = y := by omega
  have h0 := (hv.2.2.2.1 _ hc).1
  unfold f_B_floodRow_L8
  rw [if_neg (by omega), cnum_eq (by omega) (by omega), Option.bind_some, if_pos (by omega), Int.toNat_natCast, hb.1 _ hc]
  by_cases hz : s.2 (12 * y + x) = 0
  · rw [if_neg (by omega)]
    have e : cellA ρ force (12 * y + x) s = s := by
      unfold cellA
      rw [if_neg]
      rw [hz]
      unfold clA
      split
      · omega
      · split <;> omega
    rw [e]
    refine ⟨I, ?_, hb, hv, rfl, frB_refl⟩
    rw [w32i (by omega) (by omega)]
    rfl
  · rw [if_pos hz, mossOn_eq hv hb hc (by rw [w32i (by omega) (by omega), hd]) hdm, Option.bind_some]
    obtain ⟨I1, e1, fr1⟩ := X_tells (F := F) hF hr.2.2.2.2.2.2.2.2.2.1 (s.2 (12 * y + x)) (dep ρ (12 * y + x)) force (s.1 (144 + (12 * y + x))) (y : Int) (x : Int)
    rw [hr.2.2.2.2.2.1 _ hc, e1, Option.bind_some]
    dsimp only
    have et : evalL (seeL (s.2 (12 * y + x)) (dep ρ (12 * y + x)) force (s.1 (144 + (12 * y + x))) (y : Int) (x : Int)) ρ.2.1.1 ρ.2.1.2 = teA ρ ρ.2.1 (12 * y + x) force s := by
      unfold teA
      rw [hx12, hy12]
    rw [et]
    have ecl : max 0 (min (teA ρ ρ.2.1 (12 * y + x) force s) (s.2 (12 * y + x))) = clA (teA ρ ρ.2.1 (12 * y + x) force s) (s.2 (12 * y + x)) := by
      unfold clA
      split
      · omega
      · split <;> omega
    rw [ecl]
    have hcl : clA (teA ρ ρ.2.1 (12 * y + x) force s) (s.2 (12 * y + x)) ≤ s.2 (12 * y + x) := by
      unfold clA
      split
      · omega
      · split <;> omega
    unfold cellA
    generalize clA (teA ρ ρ.2.1 (12 * y + x) force s) (s.2 (12 * y + x)) = n at hcl ⊢
    have frI : FrB b rv I I1 := fun a h1 h2 h3 h4 h5 => fr1 a (by omega) (by omega)
    have hb1 : BedX I1 b dm s := bedx_congr hb (fr1 _ (by omega) (by omega)) (fr1 _ (by omega) (by omega)) (fr1 _ (by omega) (by omega)) (fr1 _ (by omega) (by omega)) (fr1 _ (by omega) (by omega)) (fr1 _ (by omega) (by omega))
    by_cases hn : n ≤ 0
    · rw [if_pos hn, if_neg (by omega)]
      refine ⟨I1, ?_, hb1, hv, fr1 _ (by omega) (by omega), frI⟩
      rw [w32i (by omega) (by omega)]
      rfl
    · rw [if_neg hn, if_pos (by omega)]
      have hr1 := rivx_fr hbr hr frI
      rw [w32i (x := (x : Int) + force) (by omega) (by omega)]
      have hgo := carryOff_eq (F := F) (b := b) (going := n) (force := force) (I := I1) (at' := 12 * y + x) hF hρ hv hb1 (by rw [fr1 _ (by omega) (by omega)]; exact hd) hdm hc (by omega) hf.1 rfl
      obtain ⟨I2, e2, b2, fr2⟩ := hgo
      have hvc := vok_car hρ hv hc (by omega) (by omega) hf.1 (going := n) (by omega)
      refine ⟨I2, ?_, b2, hvc, (fr2 _ (by omega)).trans (fr1 _ (by omega) (by omega)), frB_trans frI (fun a h1 h2 h3 h4 h5 => fr2 a (by omega))⟩
      rw [hx12] at e2
      by_cases hin : (x : Int) + force < aL ρ
      · rw [if_pos hin] at e2
        rw [has_t (by rw [hr1.1, hr1.2.1]; omega), Option.bind_some, if_neg (by decide), w32i (by omega) (by omega)]
        unfold f_B_floodRow_b120in8
        rw [e2, Option.bind_some, w32i (by omega) (by omega)]
        rfl
      · rw [if_neg hin] at e2
        rw [has_f (by rw [hr1.1, hr1.2.1]; omega), Option.bind_some, if_pos rfl]
        unfold f_B_floodRow_b120in8
        rw [e2, Option.bind_some, w32i (by omega) (by omega)]
        rfl
theorem floodRow_eq {F b rv : Nat} (hF : 1000000 ≤ F) (hbr : isBR b rv) {force dm : Int} {y : Nat} {I : MI} {ρ : RIV} {s : BSt} (hρ : RivOK ρ) (hr : RivX I rv ρ) (hv : VOK ρ s) (hb : BedX I b dm s) (hd : I b 0 + 1 = dm) (hdm : 0 ≤ dm ∧ dm ≤ 1000000) (hy : (y : Int) < aW ρ) (hf : 1 ≤ force ∧ force ≤ 12) : ∃ I', f_B_floodRow F b rv force (y : Int) I = some I' ∧ BedX I' b dm (rowA ρ force y (aL ρ).toNat s) ∧ VOK ρ (rowA ρ force y (aL ρ).toNat s) ∧ I' b = I b ∧ FrB b rv I I' := by
  have hl12 := hρ.1
  unfold f_B_floodRow
  have key := wpo_iter (step := fun q : Int × MI => f_B_floodRow_L8 F b rv force (y : Int) q.1 q.2) (Q := fun I' => BedX I' b dm (rowA ρ force y (aL ρ).toNat s) ∧ VOK ρ (rowA ρ force y (aL ρ).toNat s) ∧ I' b = I b ∧ FrB b rv I I') (fun q => ∃ (x : Nat) (s' : BSt), q.1 = (x : Int) - 1 ∧ (x : Int) ≤ aL ρ ∧ rowA ρ force y x s' = rowA ρ force y (aL ρ).toNat s ∧ BedX q.2 b dm s' ∧ VOK ρ s' ∧ q.2 b = I b ∧ FrB b rv I q.2) (fun q => (q.1 + 1).toNat) ?_ (F := F) (s := (w32 (I rv 0 - 1), I)) ?_ ?_
  · obtain ⟨I', e, q⟩ := key
    exact ⟨I', by rw [e]; rfl, q⟩
  · rintro ⟨i, N⟩ ⟨x, s', h1, h2, h3, h4, h5, h6, h7⟩
    dsimp only at h1 h2 h3 h4 h5 h6 h7 ⊢
    subst h1
    match x with
    | 0 =>
      unfold f_B_floodRow_L8
      refine wpo_g (by omega) (wpo_s ?_)
      rw [← h3]
      exact ⟨h4, h5, h6, h7⟩
    | x + 1 =>
      obtain ⟨I', e, c1, c2, c3, c4⟩ := cell_step (F := F) (x := x) hF hbr hρ (rivx_fr hbr hr h7) h5 h4 (by rw [h6]; exact hd) hdm (by omega) hy hf
      rw [show ((x + 1 : Nat) : Int) - 1 = (x : Int) by omega, e]
      refine wpo_s ⟨⟨x, _, rfl, by omega, ?_, c1, c2, c3.trans h6, frB_trans h7 c4⟩, by dsimp only; omega⟩
      rw [← h3]
      rfl
  · dsimp only
    rw [hr.1, w32i (by omega) (by omega)]
    omega
  · refine ⟨(aL ρ).toNat, s, ?_, by omega, rfl, hb, hv, rfl, frB_refl⟩
    dsimp only
    rw [hr.1, w32i (by omega) (by omega)]
    omega
theorem carA_day {ρ : RIV} {c : Nat} {n force : Int} {s : BSt} (hρ : RivOK ρ) (hc : c < 96) (hf : 1 ≤ force) : (carA ρ c n force s).1 240 = s.1 240 := by
  have := hρ.1
  unfold carA
  dsimp only
  rw [if_neg (by omega), if_neg (by omega), if_neg]
  split <;> omega
theorem cellA_day {ρ : RIV} {c : Nat} {force : Int} {s : BSt} (hρ : RivOK ρ) (hc : c < 96) (hf : 1 ≤ force) : (cellA ρ force c s).1 240 = s.1 240 := by
  unfold cellA
  split
  · exact carA_day hρ hc hf
  · rfl
theorem rowA_day {ρ : RIV} {y : Nat} {force : Int} (hρ : RivOK ρ) (hy : y < 8) (hf : 1 ≤ force) : ∀ (x : Nat) (s : BSt), x ≤ 12 → (rowA ρ force y x s).1 240 = s.1 240
  | 0, s, _ => rfl
  | x + 1, s, hx => (rowA_day hρ hy hf x _ (by omega)).trans (cellA_day hρ (by omega) hf)
theorem rowsA_day {ρ : RIV} {a : Nat} {force : Int} (hρ : RivOK ρ) (hf : 1 ≤ force) : ∀ (n : Nat) (s : BSt), a + n ≤ 8 → (rowsA ρ force a n s).1 240 = s.1 240
  | 0, s, _ => rfl
  | n + 1, s, hn => by
    have := hρ.1
    exact (rowA_day hρ (by omega) hf _ _ (by omega)).trans (rowsA_day hρ hf n s (by omega))
theorem rows_eq {F b rv : Nat} (hF : 1000000 ≤ F) (hbr : isBR b rv) {a w f : Nat} {dm : Int} {I : MI} {ρ : RIV} {s : BSt} (hρ : RivOK ρ) (hr : RivX I rv ρ) (hv : VOK ρ s) (hb : BedX I b dm s) (hd : I b 0 + 1 = dm) (hdm : 0 ≤ dm ∧ dm ≤ 1000000) (haw : ((a + w : Nat) : Int) ≤ aW ρ) (hf : (f : Int) < aF ρ) : ∃ I', iter (fun q : Int × MI => f_B_passDay_L42 F b rv (a : Int) ((a + w : Nat) : Int) (f : Int) q.1 q.2) F ((a : Int), I) = some I' ∧ BedX I' b dm (rowsA ρ (frc ρ f) a w s) ∧ VOK ρ (rowsA ρ (frc ρ f) a w s) ∧ I' b = I b ∧ FrB b rv I I' := by
  have hw8 := hρ.2.1.2
  have hf8 := hρ.2.2.2.2.1
  have hfr := (hρ.2.2.2.2.2.2.2.2.1 f hf).2
  refine wpo_iter (Q := fun I' => BedX I' b dm (rowsA ρ (frc ρ f) a w s) ∧ VOK ρ (rowsA ρ (frc ρ f) a w s) ∧ I' b = I b ∧ FrB b rv I I') (fun q => ∃ n : Nat, n ≤ w ∧ q.1 = ((a + n : Nat) : Int) ∧ BedX q.2 b dm (rowsA ρ (frc ρ f) a n s) ∧ VOK ρ (rowsA ρ (frc ρ f) a n s) ∧ q.2 b = I b ∧ FrB b rv I q.2) (fun q => (((a + w : Nat) : Int) - q.1).toNat) ?_ (by dsimp only; omega) ⟨0, by omega, rfl, hb, hv, rfl, frB_refl⟩
  rintro ⟨i, N⟩ ⟨n, h1, h2, h3, h4, h5, h6⟩
  dsimp only at h2 h3 h4 h5 h6 ⊢
  subst h2
  unfold f_B_passDay_L42
  refine wpo_i (fun hc => wpo_s ?_) (fun hc => ?_)
  · have : n = w := by omega
    subst this
    exact ⟨h3, h4, h5, h6⟩
  have hrN := rivx_fr hbr hr h6
  refine wpo_g (by omega) ?_
  rw [Int.toNat_natCast, (hrN.2.2.2.2.2.2.2.2.1 f hf).2]
  obtain ⟨I', e, c1, c2, c3, c4⟩ := floodRow_eq (F := F) (y := a + n) (force := frc ρ f) hF hbr hρ hrN h4 h3 (by rw [h5]; exact hd) hdm (by omega) hfr
  rw [e, Option.bind_some]
  refine wpo_s ⟨⟨n + 1, by omega, ?_, c1, c2, c3.trans h5, frB_trans h6 c4⟩, ?_⟩
  · dsimp only; rw [w32i (by omega) (by omega)]; omega
  · dsimp only; rw [w32i (by omega) (by omega)]; omega
theorem fldA_day {ρ : RIV} {a w : Nat} (hρ : RivOK ρ) (haw : a + w ≤ 8) : ∀ (f : Nat) (s : BSt), (f : Int) ≤ aF ρ → (fldA ρ a w f s).1 240 = s.1 240
  | 0, s, _ => rfl
  | f + 1, s, h => by
    unfold fldA
    have hfr := (hρ.2.2.2.2.2.2.2.2.1 f (by omega)).2
    split
    · exact (rowsA_day hρ hfr.1 w _ haw).trans (fldA_day hρ haw f s (by omega))
    · exact fldA_day hρ haw f s (by omega)
theorem flds_eq {F b rv : Nat} (hF : 1000000 ≤ F) (hbr : isBR b rv) {a w : Nat} {dm : Int} {I : MI} {ρ : RIV} {s : BSt} (hρ : RivOK ρ) (hr : RivX I rv ρ) (hv : VOK ρ s) (hb : BedX I b dm s) (hd0 : I b 0 = s.1 240) (hd : I b 0 + 1 = dm) (hdm : 0 ≤ dm ∧ dm ≤ 1000000) (haw : ((a + w : Nat) : Int) ≤ aW ρ) : ∃ came I', iter (fun q : Int × Int × MI => f_B_passDay_L6 F b rv (a : Int) ((a + w : Nat) : Int) q.1 q.2.1 q.2.2) F (0, 0, I) = some (came, I') ∧ (came = 0 ∨ came = 1) ∧ (came = 0 → fldA ρ a w (aF ρ).toNat s = s) ∧ BedX I' b dm (fldA ρ a w (aF ρ).toNat s) ∧ VOK ρ (fldA ρ a w (aF ρ).toNat s) ∧ I' b = I b ∧ FrB b rv I I' := by
  have hw8 := hρ.2.1.2
  have hf8 := hρ.2.2.2.2.1
  have key := wpo_iter (step := fun q : Int × Int × MI => f_B_passDay_L6 F b rv (a : Int) ((a + w : Nat) : Int) q.1 q.2.1 q.2.2) (Q := fun e => (e.1 = 0 ∨ e.1 = 1) ∧ (e.1 = 0 → fldA ρ a w (aF ρ).toNat s = s) ∧ BedX e.2 b dm (fldA ρ a w (aF ρ).toNat s) ∧ VOK ρ (fldA ρ a w (aF ρ).toNat s) ∧ e.2 b = I b ∧ FrB b rv I e.2) (fun q => ∃ f : Nat, (f : Int) ≤ aF ρ ∧ q.2.1 = (f : Int) ∧ (q.1 = 0 ∨ q.1 = 1) ∧ (q.1 = 0 → fldA ρ a w f s = s) ∧ BedX q.2.2 b dm (fldA ρ a w f s) ∧ VOK ρ (fldA ρ a w f s) ∧ q.2.2 b = I b ∧ FrB b rv I q.2.2) (fun q => (aF ρ - q.2.1).toNat) ?_ (F := F) (s := (0, 0, I)) (by dsimp only; omega) ⟨0, by omega, rfl, Or.inl rfl, fun _ => rfl, hb, hv, rfl, frB_refl⟩
  · obtain ⟨⟨came, I'⟩, e, q⟩ := key
    exact ⟨came, I', e, q⟩
  rintro ⟨cm, i, N⟩ ⟨f, h1, h2, h3, h4, h5, h6, h7, h8⟩
  dsimp only at h2 h3 h4 h5 h6 h7 h8 ⊢
  subst h2
  unfold f_B_passDay_L6
  have hrN := rivx_fr hbr hr h8
  rw [hrN.2.2.2.2.1]
  refine wpo_i (fun hc => wpo_s ?_) (fun hc => ?_)
  · have : f = (aF ρ).toNat := by omega
    subst this
    exact ⟨h3, h4, h5, h6, h7, h8⟩
  refine wpo_n (by omega) (wpo_g (by omega) ?_)
  rw [Int.toNat_natCast, (hrN.2.2.2.2.2.2.2.2.1 f (by omega)).1, h7, hd0]
  have hs : fldA ρ a w (f + 1) s = if fld ρ f = s.1 240 then rowsA ρ (frc ρ f) a w (fldA ρ a w f s) else fldA ρ a w f s := rfl
  refine wpo_i (fun hc2 => ?_) (fun hc2 => wpo_s ?_)
  · obtain ⟨I', e, c1, c2, c3, c4⟩ := rows_eq (F := F) (a := a) (w := w) (f := f) hF hbr hρ hrN h6 h5 (by rw [h7]; exact hd) hdm haw (by omega)
    rw [e, Option.bind_some]
    rw [if_pos hc2] at hs
    refine wpo_s ⟨⟨f + 1, by omega, ?_, Or.inr rfl, fun h => ?_, by dsimp only; rw [hs]; exact c1, by rw [hs]; exact c2, c3.trans h7, frB_trans h8 c4⟩, ?_⟩
    · dsimp only; rw [w32i (by omega) (by omega)]; omega
    · dsimp only at h; omega
    · dsimp only; rw [w32i (by omega) (by omega)]; omega
  · rw [if_neg hc2] at hs
    refine ⟨⟨f + 1, by omega, ?_, h3, fun h => by rw [hs]; exact h4 h, by dsimp only; rw [hs]; exact h5, by rw [hs]; exact h6, h7, h8⟩, ?_⟩
    · dsimp only; rw [w32i (by omega) (by omega)]; omega
    · dsimp only; rw [w32i (by omega) (by omega)]; omega
theorem mos_at {s : BSt} {c : Nat} (hc : c < 96) : (mosA s).1 (144 + c) = if 0 < s.2 c ∧ s.1 (144 + c) < 99 then s.1 (144 + c) + 1 else s.1 (144 + c) := by
  unfold mosA
  dsimp only
  rw [show 144 + c - 144 = c by omega]
  by_cases h : 0 < s.2 c ∧ s.1 (144 + c) < 99
  · rw [if_pos h, if_pos (by omega)]
  · rw [if_neg h, if_neg (by omega)]
theorem mos_lo {s : BSt} {k : Nat} (hk : k < 144 ∨ 240 ≤ k) : (mosA s).1 k = s.1 k := by
  unfold mosA
  dsimp only
  rw [if_neg (by omega)]
theorem vok_mos {ρ : RIV} {s : BSt} (hv : VOK ρ s) : VOK ρ (mosA s) := by
  obtain ⟨v1, v2, v3, v4, v5, v6⟩ := hv
  have e2 : (mosA s).2 = s.2 := rfl
  refine ⟨fun k hk => ?_, fun j k hj hk => ?_, fun c l hc h0 hl => ?_, fun c hc => ?_, fun m j hm hj => ?_, ?_⟩
  · rw [mos_lo (by omega), mos_lo (by omega), e2]; exact v1 k hk
  · rw [mos_lo (by omega), mos_lo (by omega), mos_lo (by omega), mos_lo (by omega)]; exact v2 j k hj hk
  · obtain ⟨k, hk, a, b⟩ := v3 c l hc h0 hl
    exact ⟨k, hk, by rw [mos_lo (by omega)]; exact a, by rw [mos_lo (by omega)]; exact b⟩
  · rw [mos_at hc, e2]
    have := v4 c hc
    split <;> omega
  · rw [mos_lo (by omega)]
    intro h
    obtain ⟨a, b, c⟩ := v5 m j hm hj h
    exact ⟨a, b, fun i hi => by rw [mos_lo (by omega)]; exact c i hi⟩
  · rw [mos_lo (by omega)]; exact v6
theorem bedx_mos {ρ : RIV} {I : MI} {b : Nat} {s : BSt} {d : Int} (hv : VOK ρ s) (hb : BedX I b d s) : BedX I b (d + 1) (mosA s) := by
  obtain ⟨b1, b2, b3, b4, b5, b6, b7, b8⟩ := hb
  have e2 : (mosA s).2 = s.2 := rfl
  refine ⟨b1, b2, fun k hk => ?_, fun k hk => ?_, fun j k hj hk => ?_, fun c hc h0 => ?_, fun m hm => ?_, fun m hm => ?_⟩
  · rw [mos_lo (by omega), mos_lo (by omega), e2]; exact b3 k hk
  · rw [mos_lo (by omega), mos_lo (by omega)]; exact b4 k hk
  · rw [mos_lo (by omega), mos_lo (by omega), mos_lo (by omega), mos_lo (by omega)]; exact b5 j k hj hk
  · rw [mos_at hc]
    rw [e2] at h0
    have := b6 c hc h0
    split <;> omega
  · rw [b7 m hm]
    exact cnt_congr (fun j hj => by rw [mos_lo (by omega)])
  · rw [b8 m hm]
    exact cnt_congr (fun j hj => by rw [mos_lo (by omega)])
/-- all but the day alike -/
theorem vok_day {ρ : RIV} {s : BSt} {d : Int} (hv : VOK ρ s) (hd : 0 ≤ d) : VOK ρ (fun k => if k = 240 then d else s.1 k, s.2) := by
  obtain ⟨v1, v2, v3, v4, v5, v6⟩ := hv
  have e : ∀ k, k < 240 → (if k = 240 then d else s.1 k) = s.1 k := fun k hk => if_neg (by omega)
  refine ⟨fun k hk => ?_, fun j k hj hk => ?_, fun c l hc h0 hl => ?_, fun c hc => ?_, fun m j hm hj => ?_, ?_⟩ <;> dsimp only
  · rw [e _ (by omega), e _ (by omega)]; exact v1 k hk
  · rw [e _ (by omega), e _ (by omega), e _ (by omega), e _ (by omega)]; exact v2 j k hj hk
  · obtain ⟨k, hk, a, b⟩ := v3 c l hc h0 hl
    exact ⟨k, hk, by rw [e _ (by omega)]; exact a, by rw [e _ (by omega)]; exact b⟩
  · rw [e _ (by omega)]; exact v4 c hc
  · rw [e _ (by omega)]
    intro h
    obtain ⟨a, b, c⟩ := v5 m j hm hj h
    exact ⟨a, b, fun i hi => by rw [e _ (by omega)]; exact c i hi⟩
  · rw [if_pos rfl]; exact hd
theorem bedx_day {I : MI} {b : Nat} {s : BSt} {d dm : Int} (hb : BedX I b dm s) : BedX I b dm (fun k => if k = 240 then d else s.1 k, s.2) := by
  obtain ⟨b1, b2, b3, b4, b5, b6, b7, b8⟩ := hb
  have e : ∀ k, k < 240 → (if k = 240 then d else s.1 k) = s.1 k := fun k hk => if_neg (by omega)
  refine ⟨b1, b2, fun k hk => ?_, fun k hk => ?_, fun j k hj hk => ?_, fun c hc h0 => ?_, fun m hm => ?_, fun m hm => ?_⟩ <;> dsimp only
  · rw [e _ (by omega), e _ (by omega)]; exact b3 k hk
  · rw [e _ (by omega), e _ (by omega)]; exact b4 k hk
  · rw [e _ (by omega), e _ (by omega), e _ (by omega), e _ (by omega)]; exact b5 j k hj hk
  · rw [e _ (by omega)]; exact b6 c hc h0
  · rw [b7 m hm]
    exact cnt_congr (fun j hj => by simp only [e (9 * m + j) (by omega)])
  · rw [b8 m hm]
    exact cnt_congr (fun j hj => by simp only [e (9 * m + j) (by omega)])
/-- a bed between calls: its day is the day of its moss -/
def BedQ (I : MI) (b : Nat) (ρ : RIV) (s : BSt) : Prop := VOK ρ s ∧ BedX I b (s.1 240) s ∧ I b 0 = s.1 240
theorem passDay_eq {F b rv : Nat} (hF : 1000000 ≤ F) (hbr : isBR b rv) {a w : Nat} {I : MI} {ρ : RIV} {s : BSt} (hρ : RivOK ρ) (hr : RivX I rv ρ) (hq : BedQ I b ρ s) (hdm : s.1 240 ≤ 999999) (haw : ((a + w : Nat) : Int) ≤ aW ρ) : ∃ came I', f_B_passDay F b rv (a : Int) ((a + w : Nat) : Int) I = some (came, I') ∧ (came = 0 ∨ came = 1) ∧ (came = 0 → (dayA ρ a w s).2 = s.2) ∧ BedQ I' b ρ (dayA ρ a w s) ∧ FrB b rv I I' ∧ (dayA ρ a w s).1 240 = s.1 240 + 1 := by
  obtain ⟨hv, hb, hd⟩ := hq
  have h0 := hv.2.2.2.2.2
  have hw8 := hρ.2.1.2
  have hbr' := hbr
  unfold isBR at hbr'
  obtain ⟨came, I', e, c1, c2, c3, c4, c5, c6⟩ := flds_eq (F := F) (a := a) (w := w) hF hbr hρ hr (vok_mos hv) (bedx_mos hv hb) (by rw [mos_lo (by omega)]; exact hd) (by rw [hd]) (by omega) haw
  have ed : (dayA ρ a w s).1 240 = s.1 240 + 1 := by simp [dayA]
  unfold f_B_passDay
  rw [e, Option.bind_some]
  refine ⟨came, _, rfl, c1, fun h => ?_, ⟨vok_day c4 (by omega), ?_, ?_⟩, ?_, ed⟩
  · have := c2 h
    unfold dayA
    dsimp only
    rw [this]
    rfl
  · rw [ed]
    refine bedx_congr (bedx_day c3) ?_ ?_ ?_ ?_ ?_ ?_ <;> exact up2_off (by omega)
  · dsimp only
    rw [up2_same, ed, c5, hd, w32i (by omega) (by omega)]
  · intro x h1 h2 h3 h4 h5
    rw [← c6 x h1 h2 h3 h4 h5]
    exact up2_off (by omega)
theorem daysA_day {ρ : RIV} {a w : Nat} : ∀ (n : Nat) (s : BSt), (daysA ρ a w n s).1 240 = s.1 240 + n
  | 0, s => by simp [daysA]
  | n + 1, s => by
    have := daysA_day (ρ := ρ) (a := a) (w := w) n s
    show (dayA ρ a w (daysA ρ a w n s)).1 240 = _
    unfold dayA
    dsimp only
    rw [if_pos rfl, this]
    omega
theorem passDays_eq {F b rv : Nat} (hF : 1000000 ≤ F) (hbr : isBR b rv) {a w n : Nat} {I : MI} {ρ : RIV} {s : BSt} (hρ : RivOK ρ) (hr : RivX I rv ρ) (hq : BedQ I b ρ s) (hdm : s.1 240 ≤ 900000) (haw : ((a + w : Nat) : Int) ≤ aW ρ) (hn : n ≤ 100) : ∃ I', f_B_passDays F b rv (n : Int) (a : Int) ((a + w : Nat) : Int) I = some I' ∧ BedQ I' b ρ (daysA ρ a w n s) ∧ FrB b rv I I' := by
  unfold f_B_passDays
  have key := wpo_iter (step := fun q : Int × MI => f_B_passDays_L3 F b rv (n : Int) (a : Int) ((a + w : Nat) : Int) q.1 q.2) (Q := fun I' => BedQ I' b ρ (daysA ρ a w n s) ∧ FrB b rv I I') (fun q => ∃ j : Nat, j ≤ n ∧ q.1 = (j : Int) ∧ BedQ q.2 b ρ (daysA ρ a w j s) ∧ FrB b rv I q.2) (fun q => n - q.1.toNat) ?_ (F := F) (s := (0, I)) (by dsimp only; omega) ⟨0, by omega, rfl, hq, frB_refl⟩
  · obtain ⟨I', e, q⟩ := key
    exact ⟨I', by rw [e]; rfl, q⟩
  rintro ⟨i, N⟩ ⟨j, h1, h2, h3, h4⟩
  dsimp only at h2 h3 h4 ⊢
  subst h2
  unfold f_B_passDays_L3
  refine wpo_i (fun hc => wpo_s ?_) (fun hc => wpo_n (by omega) ?_)
  · have : j = n := by omega
    subst this
    exact ⟨h3, h4⟩
  have hdj := daysA_day (ρ := ρ) (a := a) (w := w) j s
  obtain ⟨came, I', e, c1, c2, c3, c4, c5⟩ := passDay_eq (F := F) (a := a) (w := w) hF hbr hρ (rivx_fr hbr hr h4) h3 (by omega) haw
  rw [e, Option.bind_some]
  refine wpo_s ⟨⟨j + 1, by omega, ?_, c3, frB_trans h4 c4⟩, ?_⟩
  · dsimp only; rw [w32i (by omega) (by omega)]; omega
  · dsimp only; rw [w32i (by omega) (by omega)]; omega
