/-! rows are each for itself -/
def SRow (y : Nat) (s t : BSt) : Prop := s.1 240 = t.1 240 ∧ ∀ c, c < 96 → c / 12 = y → s.2 c = t.2 c ∧ s.1 (144 + c) = t.1 (144 + c)
theorem srow_refl {y : Nat} {s : BSt} : SRow y s s := ⟨rfl, fun _ _ _ => ⟨rfl, rfl⟩⟩
theorem srow_symm {y : Nat} {s t : BSt} (h : SRow y s t) : SRow y t s := ⟨h.1.symm, fun c hc hy => ⟨(h.2 c hc hy).1.symm, (h.2 c hc hy).2.symm⟩⟩
theorem srow_trans {y : Nat} {s t u : BSt} (h : SRow y s t) (h2 : SRow y t u) : SRow y s u := ⟨h.1.trans h2.1, fun c hc hy => ⟨(h.2 c hc hy).1.trans (h2.2 c hc hy).1, (h.2 c hc hy).2.trans (h2.2 c hc hy).2⟩⟩
theorem toA_row {ρ : RIV} {c : Nat} {force : Int} (hρ : RivOK ρ) (hf : 1 ≤ force) (h0 : 0 ≤ toA ρ c force) : (toA ρ c force).toNat / 12 = c / 12 ∧ (toA ρ c force).toNat ≠ c := by
  have hL := hρ.1
  unfold toA at h0 ⊢
  by_cases g : ((c % 12 : Nat) : Int) + force < aL ρ
  · rw [if_pos g]; omega
  · rw [if_neg g] at h0; omega
theorem cell_other {ρ : RIV} {force : Int} {c y : Nat} {s : BSt} (hρ : RivOK ρ) (hf : 1 ≤ force) (hc : c < 96) (hy : c / 12 ≠ y) : SRow y (cellA ρ force c s) s := by
  unfold cellA
  split
  · refine ⟨carA_day hρ hc hf, fun d hd hdy => ?_⟩
    rw [car_4, car_3 (by omega)]
    have ht := toA_row (c := c) hρ hf
    constructor
    · rw [if_neg (fun h => by have := ht h.1; omega), if_neg (by omega)]
    · rw [if_neg (fun h => by
        rcases h with h | h
        · omega
        · have := ht h.1; omega)]
  · exact srow_refl
theorem cell_same {ρ : RIV} {force : Int} {c y : Nat} {s t : BSt} (hρ : RivOK ρ) (hf : 1 ≤ force) (hc : c < 96) (hy : c / 12 = y) (h : SRow y s t) : SRow y (cellA ρ force c s) (cellA ρ force c t) := by
  obtain ⟨h1, h2⟩ := h
  have hcc := h2 c hc hy
  have et : teA ρ ρ.2.1 c force s = teA ρ ρ.2.1 c force t := by
    unfold teA
    rw [hcc.1, hcc.2]
  unfold cellA
  rw [et, hcc.1]
  split
  · refine ⟨(carA_day hρ hc hf).trans (h1.trans (carA_day hρ hc hf).symm), fun d hd hdy => ?_⟩
    have hdd := h2 d hd hdy
    rw [car_4, car_4, car_3 (by omega), car_3 (by omega), hdd.1, hdd.2, hcc.1]
    exact ⟨rfl, rfl⟩
  · exact ⟨h1, h2⟩
theorem row_other {ρ : RIV} {force : Int} {y y' : Nat} (hρ : RivOK ρ) (hf : 1 ≤ force) (hy : y < 8) (hne : y ≠ y') : ∀ (x : Nat) (s : BSt), x ≤ 12 → SRow y' (rowA ρ force y x s) s
  | 0, s, _ => srow_refl
  | x + 1, s, hx => srow_trans (row_other hρ hf hy hne x _ (by omega)) (cell_other hρ hf (by omega) (by omega))
theorem row_same {ρ : RIV} {force : Int} {y : Nat} (hρ : RivOK ρ) (hf : 1 ≤ force) (hy : y < 8) : ∀ (x : Nat) (s t : BSt), x ≤ 12 → SRow y s t → SRow y (rowA ρ force y x s) (rowA ρ force y x t)
  | 0, s, t, _, h => h
  | x + 1, s, t, hx, h => row_same hρ hf hy x _ _ (by omega) (cell_same hρ hf (by omega) (by omega) h)
theorem rows_same {ρ : RIV} {force : Int} {y : Nat} (hρ : RivOK ρ) (hf : 1 ≤ force) : ∀ (n : Nat) (s t : BSt), n ≤ 8 → SRow y s t → SRow y (rowsA ρ force 0 n s) (rowsA ρ force 0 n t)
  | 0, s, t, _, h => h
  | n + 1, s, t, hn, h => by
    have hL := hρ.1
    have ih := rows_same hρ hf n s t (by omega) h
    show SRow y (rowA ρ force (0 + n) _ _) (rowA ρ force (0 + n) _ _)
    by_cases e : 0 + n = y
    · rw [e]; exact row_same hρ hf (by omega) _ _ _ (by omega) ih
    · exact srow_trans (row_other hρ hf (by omega) e _ _ (by omega)) (srow_trans ih (srow_symm (row_other hρ hf (by omega) e _ _ (by omega))))
theorem rows_one {ρ : RIV} {force : Int} {y : Nat} (hρ : RivOK ρ) (hf : 1 ≤ force) (hy : y < 8) {s t : BSt} (h : SRow y s t) : ∀ (n : Nat), n ≤ 8 → SRow y (rowsA ρ force 0 n s) (if n ≤ y then t else rowA ρ force y (aL ρ).toNat t)
  | 0, _ => by rw [if_pos (by omega)]; exact h
  | n + 1, hn => by
    have hL := hρ.1
    have ih := rows_one hρ hf hy h n (by omega)
    show SRow y (rowA ρ force (0 + n) _ _) _
    by_cases e : 0 + n = y
    · rw [if_pos (by omega)] at ih
      rw [if_neg (by omega), e]
      exact row_same hρ hf hy _ _ _ (by omega) ih
    · refine srow_trans (row_other hρ hf (by omega) e _ _ (by omega)) ?_
      by_cases e2 : n ≤ y
      · rw [if_pos e2] at ih
        rw [if_pos (by omega)]
        exact ih
      · rw [if_neg e2] at ih
        rw [if_neg (by omega)]
        exact ih
theorem mos_same {y : Nat} {s t : BSt} (h : SRow y s t) : SRow y (mosA s) (mosA t) := by
  refine ⟨by rw [mos_lo (by omega), mos_lo (by omega)]; exact h.1, fun c hc hy => ?_⟩
  have := h.2 c hc hy
  rw [mos_at hc, mos_at hc, this.1, this.2]
  exact ⟨this.1, rfl⟩
theorem fld_same {ρ : RIV} {y : Nat} (hρ : RivOK ρ) {s t : BSt} (h : SRow y s t) : ∀ (f : Nat), (f : Int) ≤ aF ρ → SRow y (fldA ρ 0 (aW ρ).toNat f s) (fldA ρ 0 (aW ρ).toNat f t)
  | 0, _ => h
  | f + 1, hf => by
    have hW := hρ.2.1
    have ih := fld_same hρ h f (by omega)
    have hfr := (hρ.2.2.2.2.2.2.2.2.1 f (by omega)).2
    unfold fldA
    rw [h.1]
    split
    · exact rows_same hρ hfr.1 _ _ _ (by omega) ih
    · exact ih
theorem fld_one {ρ : RIV} {y : Nat} (hρ : RivOK ρ) (hy : (y : Int) < aW ρ) {s t : BSt} (h : SRow y s t) : ∀ (f : Nat), (f : Int) ≤ aF ρ → SRow y (fldA ρ 0 (aW ρ).toNat f s) (fldA ρ y 1 f t)
  | 0, _ => h
  | f + 1, hf => by
    have hW := hρ.2.1
    have ih := fld_one hρ hy h f (by omega)
    have hfr := (hρ.2.2.2.2.2.2.2.2.1 f (by omega)).2
    unfold fldA
    rw [h.1]
    split
    · have := rows_one hρ hfr.1 (by omega) ih (aW ρ).toNat (by omega)
      rw [if_neg (by omega)] at this
      exact this
    · exact ih
theorem day_same {ρ : RIV} {y : Nat} (hρ : RivOK ρ) {s t : BSt} (h : SRow y s t) : SRow y (dayA ρ 0 (aW ρ).toNat s) (dayA ρ 0 (aW ρ).toNat t) := by
  have hF := hρ.2.2.2.2.1
  have := fld_same hρ (mos_same h) (aF ρ).toNat (by omega)
  refine ⟨?_, fun c hc hy => ?_⟩
  · unfold dayA; dsimp only; rw [if_pos rfl, if_pos rfl, h.1]
  · have := this.2 c hc hy
    unfold dayA
    dsimp only
    rw [if_neg (by omega), if_neg (by omega)]
    exact this
theorem day_one {ρ : RIV} {y : Nat} (hρ : RivOK ρ) (hy : (y : Int) < aW ρ) {s t : BSt} (h : SRow y s t) : SRow y (dayA ρ 0 (aW ρ).toNat s) (dayA ρ y 1 t) := by
  have hF := hρ.2.2.2.2.1
  have := fld_one hρ hy (mos_same h) (aF ρ).toNat (by omega)
  refine ⟨?_, fun c hc hy => ?_⟩
  · unfold dayA; dsimp only; rw [if_pos rfl, if_pos rfl, h.1]
  · have := this.2 c hc hy
    unfold dayA
    dsimp only
    rw [if_neg (by omega), if_neg (by omega)]
    exact this
theorem days_same {ρ : RIV} {y : Nat} (hρ : RivOK ρ) {s t : BSt} (h : SRow y s t) : ∀ n, SRow y (daysA ρ 0 (aW ρ).toNat n s) (daysA ρ 0 (aW ρ).toNat n t)
  | 0 => h
  | n + 1 => day_same hρ (days_same hρ h n)
theorem days_one {ρ : RIV} {y : Nat} (hρ : RivOK ρ) (hy : (y : Int) < aW ρ) {s t : BSt} (h : SRow y s t) : ∀ n, SRow y (daysA ρ 0 (aW ρ).toNat n s) (daysA ρ y 1 n t)
  | 0 => h
  | n + 1 => day_one hρ hy (days_one hρ hy h n)
theorem thr_other {ρ : RIV} {m x y y' stone : Nat} {s : BSt} (hρ : RivOK ρ) (hm : (m : Int) < aN ρ) (hx : (x : Int) < aL ρ) (hy : (y : Int) < aW ρ) (hs : stone < 72) (hne : y ≠ y') : SRow y' (thrA ρ m x y stone s) s := by
  have hL := hρ.1
  have hW := hρ.2.1
  have hd := drift_nn hρ hm (y := y) (by omega)
  by_cases hin : (x : Int) + flo ρ y / siz ρ m < aL ρ
  · obtain ⟨c, hc⟩ : ∃ c : Nat, (c : Int) = 12 * (y : Int) + ((x : Int) + flo ρ y / siz ρ m) := ⟨(12 * (y : Int) + ((x : Int) + flo ρ y / siz ρ m)).toNat, by omega⟩
    obtain ⟨p1, p2, p3, p4, p5⟩ := thr_in (s := s) hin hd.1 hc hs (by omega)
    refine ⟨p5, fun d hd' hdy => ?_⟩
    rw [p4, p3 d hd', if_neg (by omega), if_neg (by omega)]
    exact ⟨rfl, rfl⟩
  · rw [thr_out (by omega)]
    refine ⟨?_, fun d hd' hdy => ?_⟩ <;> dsimp only
    · rw [if_neg (by omega)]
    · rw [if_neg (by omega)]; exact ⟨rfl, rfl⟩
/-! bits of a row of rows -/
def bitB (x : Int) (i : Nat) : Bool := (Int32.ofInt x).toBitVec.getLsbD i
theorem bit_or {x y : Int} {i : Nat} : bitB (or32 x y) i = (bitB x i || bitB y i) := by
  unfold bitB or32
  rw [Int32.ofInt_toInt, Int32.toBitVec_or, BitVec.getLsbD_or]
theorem bit_one : ∀ y : Nat, y < 8 → ∀ i : Nat, i < 32 → bitB (shl32 1 (y : Int)) i = decide (i = y) := by decide +kernel
theorem bit_mask : ∀ y : Nat, y < 8 → ∀ i : Nat, i < 32 → bitB (xor32 (shl32 1 (y : Int)) (-1)) i = !decide (i = y) := by decide +kernel
theorem bit_fold {f : Nat → Bool} : ∀ {n : Nat}, n ≤ 8 → ∀ i, i < 32 → bitB (foldB f n) i = (decide (i < n) && f i)
  | 0, _, i, hi => by
    show bitB 0 i = _
    have : ∀ i : Nat, i < 32 → bitB 0 i = false := by decide +kernel
    rw [this i hi]
    simp
  | n + 1, hn, i, hi => by
    have ih := bit_fold (f := f) (n := n) (by omega) i hi
    show bitB (if f n then or32 (foldB f n) (shl32 1 (n : Int)) else foldB f n) i = _
    by_cases g : f n = true
    · rw [if_pos g, bit_or, ih, bit_one n (by omega) i hi]
      by_cases e : i = n
      · subst e; simp [g]
      · have : decide (i < n) = decide (i < n + 1) := decide_eq_decide.mpr (by omega)
        rw [this]; simp [e]
    · rw [if_neg g, ih]
      by_cases e : i = n
      · subst e; simp; simpa using g
      · have : decide (i < n) = decide (i < n + 1) := decide_eq_decide.mpr (by omega)
        rw [this]
theorem and_zero {x y : Int} : and32 x y = 0 ↔ ∀ i, i < 32 → (bitB x i && bitB y i) = false := by
  unfold and32 bitB
  constructor
  · intro h i hi
    have h2 : Int32.ofInt x &&& Int32.ofInt y = 0 := by
      have := congrArg Int32.ofInt h
      rw [Int32.ofInt_toInt] at this
      exact this
    have h3 := congrArg (fun z : Int32 => z.toBitVec.getLsbD i) h2
    simpa [Int32.toBitVec_and, BitVec.getLsbD_and] using h3
  · intro h
    have h2 : Int32.ofInt x &&& Int32.ofInt y = 0 := by
      apply Int32.toBitVec_inj.mp
      apply BitVec.eq_of_getLsbD_eq
      intro i hi
      rw [Int32.toBitVec_and, BitVec.getLsbD_and, h i hi]
      simp
    rw [h2]
    rfl
theorem only_row {f : Nat → Bool} {n y : Nat} (hn : n ≤ 8) (hy : y < n) : and32 (foldB f n) (xor32 (shl32 1 (y : Int)) (-1)) = 0 ↔ ∀ y', y' < n → y' ≠ y → f y' = false := by
  rw [and_zero]
  constructor
  · intro h y' h1 h2
    have := h y' (by omega)
    rw [bit_fold hn y' (by omega), bit_mask y (by omega) y' (by omega)] at this
    simp [h1, h2] at this
    exact this
  · intro h i hi
    rw [bit_fold hn i hi, bit_mask y (by omega) i hi]
    by_cases e : i = y
    · simp [e]
    · by_cases e2 : i < n
      · simp [h i e2 e]
      · simp [e2]
