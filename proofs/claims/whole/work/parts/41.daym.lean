/-! the model's days -/
def toA (ρ : RIV) (c : Nat) (force : Int) : Int := if ((c % 12 : Nat) : Int) + force < aL ρ then (c : Int) + force else -2
theorem car_1 {ρ : RIV} {c : Nat} {n force : Int} {s : BSt} {k : Nat} (hk : k < 72) : (carA ρ c n force s).1 k = if s.1 k = (c : Int) ∧ s.2 c - n ≤ s.1 (72 + k) then toA ρ c force else s.1 k := by
  unfold carA toA
  dsimp only
  rw [if_pos hk]
theorem car_2 {ρ : RIV} {c : Nat} {n force : Int} {s : BSt} {k : Nat} (hk : k < 72) : (carA ρ c n force s).1 (72 + k) = if 0 ≤ toA ρ c force ∧ s.1 k = (c : Int) ∧ s.2 c - n ≤ s.1 (72 + k) then s.1 (72 + k) + (s.2 (toA ρ c force).toNat - (s.2 c - n)) else s.1 (72 + k) := by
  unfold carA toA
  dsimp only
  rw [if_neg (by omega), if_pos (by omega), show 72 + k - 72 = k by omega]
theorem car_3 {ρ : RIV} {c : Nat} {n force : Int} {s : BSt} {k : Nat} (hk : 144 ≤ k) : (carA ρ c n force s).1 k = if k = 144 + c ∨ (0 ≤ toA ρ c force ∧ k = 144 + (toA ρ c force).toNat) then 0 else s.1 k := by
  unfold carA toA
  dsimp only
  rw [if_neg (by omega), if_neg (by omega)]
theorem car_4 {ρ : RIV} {c : Nat} {n force : Int} {s : BSt} {x : Nat} : (carA ρ c n force s).2 x = if 0 ≤ toA ρ c force ∧ x = (toA ρ c force).toNat then s.2 x + n else if x = c then s.2 c - n else s.2 x := rfl
/-- the model's rows of stones, as carried up to a stone -/
theorem M_carloop {F c : Nat} {n force : Int} {I J : MI} {ρ : RIV} {s : BSt} (hF : 1000000 ≤ F) (hv : VOK ρ s) (hs : MSt I s) (hc : c < 96) (hg : 0 < n ∧ n ≤ s.2 c) (hto : toA ρ c force = -2 ∨ (0 ≤ toA ρ c force ∧ toA ρ c force < 96 ∧ toA ρ c force ≠ (c : Int))) (x2 : Int) : ∃ I', iter (fun q : Int × MI => f_M_carries_L45 F (c : Int) x2 (s.2 c - n) (toA ρ c force) q.1 q.2 J) F (0, I) = some I' ∧ (∀ k, k < 144 → I' 332 k = (carA ρ c n force s).1 k) ∧ (∀ k, 144 ≤ k → I' 332 k = I 332 k) ∧ ∀ a, a ≠ 332 → I' a = I a := by
  have h72 := vok_72 hv hc
  have f1 : ∀ k, k < 72 → s.1 k = (c : Int) → 0 ≤ s.1 (72 + k) ∧ s.1 (72 + k) < s.2 c := by
    intro k hk e
    have := hv.1 k hk
    rw [e] at this
    simp only [Int.toNat_natCast] at this
    omega
  have key := wpo_iter (step := fun q : Int × MI => f_M_carries_L45 F (c : Int) x2 (s.2 c - n) (toA ρ c force) q.1 q.2 J) (Q := fun I' => (∀ k, k < 144 → I' 332 k = (carA ρ c n force s).1 k) ∧ (∀ k, 144 ≤ k → I' 332 k = I 332 k) ∧ ∀ a, a ≠ 332 → I' a = I a) (fun q => ∃ j : Nat, j ≤ 72 ∧ q.1 = (j : Int) ∧ (∀ k, k < 72 → q.2 332 k = if k < j then (carA ρ c n force s).1 k else s.1 k) ∧ (∀ k, k < 72 → q.2 332 (72 + k) = if k < j then (carA ρ c n force s).1 (72 + k) else s.1 (72 + k)) ∧ (∀ k, 144 ≤ k → q.2 332 k = I 332 k) ∧ ∀ a, a ≠ 332 → q.2 a = I a) (fun q => 72 - q.1.toNat) ?_ (F := F) (s := (0, I)) (by dsimp only; omega) ⟨0, by omega, rfl, fun k hk => by rw [if_neg (by omega)]; exact hs.1 k (by omega), fun k hk => by rw [if_neg (by omega)]; exact hs.1 _ (by omega), fun _ _ => rfl, fun _ _ => rfl⟩
  · exact key
  rintro ⟨i, N⟩ ⟨j, h1, h2, h3, h4, h5, h6⟩
  dsimp only at h2 h3 h4 h5 h6 ⊢
  subst h2
  unfold f_M_carries_L45
  refine wpo_i (fun hc2 => wpo_s ?_) (fun hc2 => ?_)
  · have : j = 72 := by omega
    subst this
    refine ⟨fun k hk => ?_, h5, h6⟩
    by_cases e : k < 72
    · rw [h3 k e, if_pos e]
    · have := h4 (k - 72) (by omega)
      rw [show 72 + (k - 72) = k by omega, if_pos (by omega)] at this
      exact this
  have hj : j < 72 := by omega
  have hj1 := h3 j hj
  have hj2 := h4 j hj
  rw [if_neg (by omega)] at hj1 hj2
  have c1 := car_1 (ρ := ρ) (c := c) (n := n) (force := force) (s := s) hj
  have c2 := car_2 (ρ := ρ) (c := c) (n := n) (force := force) (s := s) hj
  -- nothing is changed at the stone
  have keep : s.1 j = (carA ρ c n force s).1 j → s.1 (72 + j) = (carA ρ c n force s).1 (72 + j) → ((∃ j' : Nat, j' ≤ 72 ∧ w32 ((j : Int) + 1) = (j' : Int) ∧ (∀ k, k < 72 → N 332 k = if k < j' then (carA ρ c n force s).1 k else s.1 k) ∧ (∀ k, k < 72 → N 332 (72 + k) = if k < j' then (carA ρ c n force s).1 (72 + k) else s.1 (72 + k)) ∧ (∀ k, 144 ≤ k → N 332 k = I 332 k) ∧ ∀ a, a ≠ 332 → N a = I a) ∧ 72 - (w32 ((j : Int) + 1)).toNat < 72 - ((j : Int)).toNat) := by
    intro e1 e2
    have ew : w32 ((j : Int) + 1) = (j : Int) + 1 := w32i (by omega) (by omega)
    rw [ew]
    refine ⟨⟨j + 1, by omega, by omega, fun k hk => ?_, fun k hk => ?_, h5, h6⟩, (show 72 - ((j : Int) + 1).toNat < 72 - ((j : Int)).toNat by omega)⟩
    · by_cases e : k = j
      · rw [e, if_pos (by omega), hj1, e1]
      · rw [h3 k hk]
        by_cases e' : k < j
        · rw [if_pos e', if_pos (by omega)]
        · rw [if_neg e', if_neg (by omega)]
    · by_cases e : k = j
      · rw [e, if_pos (by omega), hj2, e2]
      · rw [h4 k hk]
        by_cases e' : k < j
        · rw [if_pos e', if_pos (by omega)]
        · rw [if_neg e', if_neg (by omega)]
  refine wpo_g (by omega) ?_
  rw [Int.toNat_natCast, hj1]
  refine wpo_i (fun hc3 => wpo_s ?_) (fun hc3 => ?_)
  · exact keep (by rw [c1, if_neg (by omega)]) (by rw [c2, if_neg (by omega)])
  have hc3' : s.1 j = (c : Int) := by omega
  have hlv := f1 j hj hc3'
  rw [w32i (x := 72 + (j : Int)) (by omega) (by omega), show (72 + (j : Int)).toNat = 72 + j by omega, hj2]
  refine wpo_g (by omega) ?_
  refine wpo_i (fun hc4 => ?_) (fun hc4 => wpo_s ?_)
  · clear keep
    rw [if_pos ⟨hc3', hc4⟩] at c1
    refine wpo_i (fun hc5 => wpo_s ?_) (fun hc5 => ?_)
    · rw [if_neg (by omega)] at c2
      rw [w32i (by omega) (by omega)]
      refine ⟨⟨j + 1, by omega, by dsimp only; omega, fun k hk => ?_, fun k hk => ?_, fun k hk => ?_, fun a ha => ?_⟩, by dsimp only; omega⟩ <;> dsimp only
      · by_cases e : k = j
        · rw [e, up2_same, if_pos (by omega), c1]
        · rw [up2_k e, h3 k hk]
          by_cases e' : k < j
          · rw [if_pos e', if_pos (by omega)]
          · rw [if_neg e', if_neg (by omega)]
      · rw [up2_k (by omega)]
        by_cases e : k = j
        · rw [e, if_pos (by omega), hj2, c2]
        · rw [h4 k hk]
          by_cases e' : k < j
          · rw [if_pos e', if_pos (by omega)]
          · rw [if_neg e', if_neg (by omega)]
      · rw [up2_k (by omega)]; exact h5 k hk
      · rw [up2_off ha]; exact h6 a ha
    · have hto2 : 0 ≤ toA ρ c force ∧ toA ρ c force < 96 ∧ toA ρ c force ≠ (c : Int) := by omega
      rw [if_pos (by omega)] at c2
      have hth := vok_72 hv (c := (toA ρ c force).toNat) (by omega)
      refine wpo_g (by omega) (wpo_s ?_)
      rw [up2_k (by omega), hj2, up2_r (by decide), h6 333 (by decide), hs.2 _ (by omega), w32i (x := s.2 (toA ρ c force).toNat - (s.2 c - n)) (by omega) (by omega), w32i (by omega) (by omega), w32i (by omega) (by omega)]
      refine ⟨⟨j + 1, by omega, by dsimp only; omega, fun k hk => ?_, fun k hk => ?_, fun k hk => ?_, fun a ha => ?_⟩, by dsimp only; omega⟩ <;> dsimp only
      · rw [up2_k (by omega)]
        by_cases e : k = j
        · rw [e, up2_same, if_pos (by omega), c1]
        · rw [up2_k e, h3 k hk]
          by_cases e' : k < j
          · rw [if_pos e', if_pos (by omega)]
          · rw [if_neg e', if_neg (by omega)]
      · by_cases e : k = j
        · rw [e, up2_same, if_pos (by omega), c2]
        · rw [up2_k (by omega), up2_k (by omega), h4 k hk]
          by_cases e' : k < j
          · rw [if_pos e', if_pos (by omega)]
          · rw [if_neg e', if_neg (by omega)]
      · rw [up2_k (by omega), up2_k (by omega)]; exact h5 k hk
      · rw [up2_off ha, up2_off ha]; exact h6 a ha
  · exact keep (by rw [c1, if_neg (by omega)]) (by rw [c2, if_neg (by omega)])
theorem M_carries {F lv c : Nat} {n force : Int} {I J : MI} {ρ : RIV} {s : BSt} (hF : 1000000 ≤ F) (hρ : RivOK ρ) (hr : RivM I lv ρ) (hl : I 296 18 = (lv : Int)) (hv : VOK ρ s) (hs : MSt I s) (hc : c < 96) (hg : 0 < n ∧ n ≤ s.2 c) (hf : 1 ≤ force ∧ force ≤ 12) : ∃ I', f_M_carries F (c : Int) n force I J = some I' ∧ MSt I' (carA ρ c n force s) ∧ ∀ a, a ≠ 332 → a ≠ 333 → I' a = I a := by
  have h72 := vok_72 hv hc
  have h2 := hr.1
  have hL := hρ.1
  unfold f_M_carries
  rw [if_pos (by omega), hl, if_pos (by omega), Int.toNat_natCast, Int.toNat_natCast, hr.2.1, rem32_eq (by omega) (by omega) (by omega) (by omega), w32i (x := (c : Int) % 12 + force) (by omega) (by omega), hs.2 c hc, w32i (x := s.2 c - n) (by omega) (by omega), w32i (x := (c : Int) + force) (by omega) (by omega)]
  have eto : toA ρ c force = if aL ρ ≤ (c : Int) % 12 + force then -2 else (c : Int) + force := by
    unfold toA
    by_cases e : aL ρ ≤ (c : Int) % 12 + force
    · rw [if_pos e, if_neg (by omega)]
    · rw [if_neg e, if_pos (by omega)]
  have hto : toA ρ c force = -2 ∨ (0 ≤ toA ρ c force ∧ toA ρ c force < 96 ∧ toA ρ c force ≠ (c : Int)) := by
    rw [eto]
    split
    · exact Or.inl rfl
    · right; omega
  have body : ∃ I', f_M_carries_b40 F (c : Int) n (s.2 c - n) (toA ρ c force) I J = some I' ∧ MSt I' (carA ρ c n force s) ∧ ∀ a, a ≠ 332 → a ≠ 333 → I' a = I a := by
    unfold f_M_carries_b40
    obtain ⟨I1, e, q1, q2, q3⟩ := M_carloop (F := F) (J := J) hF hv hs hc hg hto n
    rw [e, Option.bind_some, if_pos (by omega), w32i (x := 144 + (c : Int)) (by omega) (by omega), if_pos (by omega)]
    by_cases h0 : 0 ≤ toA ρ c force
    · have hto2 : toA ρ c force < 96 ∧ toA ρ c force ≠ (c : Int) := by omega
      have hth := vok_72 hv (c := (toA ρ c force).toNat) (by omega)
      rw [if_pos h0, if_pos (by omega), w32i (x := 144 + toA ρ c force) (by omega) (by omega), if_pos (by omega), show (144 + (c : Int)).toNat = 144 + c by omega, Int.toNat_natCast, show (144 + toA ρ c force).toNat = 144 + (toA ρ c force).toNat by omega]
      rw [up2_r (by decide), up2_k (by omega), q3 333 (by decide), hs.2 _ (by omega), w32i (by omega) (by omega)]
      refine ⟨_, rfl, ⟨fun k hk => ?_, fun x hx => ?_⟩, fun a h3 h4 => ?_⟩
      · by_cases e1 : k < 144
        · rw [up2_k (by omega), up2_r (by decide), up2_k (by omega), up2_r (by decide), q1 k e1]
        · rw [car_3 (by omega)]
          by_cases e2 : k = 144 + (toA ρ c force).toNat
          · rw [e2, up2_same, if_pos (Or.inr ⟨h0, rfl⟩)]
          · rw [up2_k e2, up2_r (by decide)]
            by_cases e3 : k = 144 + c
            · rw [e3, up2_same, if_pos (Or.inl rfl)]
            · rw [up2_k e3, up2_r (by decide), q2 k (by omega), if_neg (by omega)]
              exact hs.1 k hk
      · rw [car_4, up2_r (by decide)]
        by_cases e2 : x = (toA ρ c force).toNat
        · rw [e2, up2_same, if_pos ⟨h0, rfl⟩]
        · rw [up2_k e2, up2_r (by decide), if_neg (by omega)]
          by_cases e3 : x = c
          · rw [e3, up2_same, if_pos rfl]
          · rw [up2_k e3, if_neg e3, q3 333 (by decide)]
            exact hs.2 x hx
      · rw [up2_off h3, up2_off h4, up2_off h3, up2_off h4, q3 a h3]
    · rw [if_neg h0, show (144 + (c : Int)).toNat = 144 + c by omega, Int.toNat_natCast]
      refine ⟨_, rfl, ⟨fun k hk => ?_, fun x hx => ?_⟩, fun a h3 h4 => ?_⟩
      · by_cases e1 : k < 144
        · rw [up2_k (by omega), up2_r (by decide), q1 k e1]
        · rw [car_3 (by omega)]
          by_cases e3 : k = 144 + c
          · rw [e3, up2_same, if_pos (Or.inl rfl)]
          · rw [up2_k e3, up2_r (by decide), q2 k (by omega), if_neg (by omega)]
            exact hs.1 k hk
      · rw [car_4, up2_r (by decide), if_neg (by omega)]
        by_cases e3 : x = c
        · rw [e3, up2_same, if_pos rfl]
        · rw [up2_k e3, if_neg e3, q3 333 (by decide)]
          exact hs.2 x hx
      · rw [up2_off h3, up2_off h4, q3 a h3]
  by_cases e : aL ρ ≤ (c : Int) % 12 + force
  · rw [if_pos e] at eto ⊢
    rw [eto] at body
    exact body
  · rw [if_neg e] at eto ⊢
    rw [eto] at body
    exact body
theorem M_cell {F lv : Nat} {force : Int} {x y : Nat} {I J : MI} {ρ : RIV} {s : BSt} (x1 : Int) (hF : 1000000 ≤ F) (hρ : RivOK ρ) (hr : RivM I lv ρ) (hl : I 296 18 = (lv : Int)) (hv : VOK ρ s) (hs : MSt I s) (hx : (x : Int) < aL ρ) (hy : (y : Int) < aW ρ) (hf : 1 ≤ force ∧ force ≤ 12) : ∃ I', f_M_dayGoes_L138 F x1 force (y : Int) (x : Int) I J = some (.inr ((x : Int) - 1, I')) ∧ MSt I' (cellA ρ force (12 * y + x) s) ∧ VOK ρ (cellA ρ force (12 * y + x) s) ∧ FrM I I' := by
  have hL := hρ.1
  have hW := hρ.2.1
  have hc : 12 * y + x < 96 := by omega
  have h72 := vok_72 hv hc
  unfold f_M_dayGoes_L138
  rw [if_neg (by omega), w32i (x := 12 * (y : Int)) (by omega) (by omega), w32i (x := 12 * (y : Int) + (x : Int)) (by omega) (by omega), if_pos (by omega), show 12 * (y : Int) + (x : Int) = ((12 * y + x : Nat) : Int) by omega, Int.toNat_natCast, hs.2 _ hc]
  obtain ⟨I1, e1, s1, f1, _, _⟩ := M_tells (F := F) (J := J) (c := 12 * y + x) (force := force) (most := s.2 (12 * y + x)) (k := 0) hF hr hl hs (Or.inl ⟨rfl, rfl⟩) hc h72.1
  rw [show ((0 : Nat) : Int) = 0 from rfl] at e1
  rw [e1, Option.bind_some]
  dsimp only
  have hcl : clA (teA ρ ρ.2.1 (12 * y + x) force s) (s.2 (12 * y + x)) ≤ s.2 (12 * y + x) := by
    unfold clA
    split
    · omega
    · split <;> omega
  unfold cellA
  generalize clA (teA ρ ρ.2.1 (12 * y + x) force s) (s.2 (12 * y + x)) = n at hcl ⊢
  by_cases hn : n ≤ 0
  · rw [if_pos hn, if_neg (by omega), w32i (by omega) (by omega)]
    exact ⟨I1, rfl, s1, hv, f1⟩
  · rw [if_neg hn, if_pos (by omega)]
    obtain ⟨I2, e2, s2, f2⟩ := M_carries (F := F) (J := J) (n := n) (force := force) hF hρ (rivm_fr hr f1) (by rw [f1.2 18 (by decide)]; exact hl) hv s1 hc (by omega) hf
    rw [e2, Option.bind_some, w32i (by omega) (by omega)]
    exact ⟨I2, rfl, s2, vok_car hρ hv hc (by omega) (by omega) hf.1 (by omega), frM_trans f1 ⟨fun a h1 h2 h3 h4 h5 => f2 a h3 h4, fun k hk => by rw [f2 296 (by decide) (by decide)]⟩⟩
theorem M_row {F lv : Nat} {force : Int} {y : Nat} {I J : MI} {ρ : RIV} {s : BSt} (x1 : Int) (hF : 1000000 ≤ F) (hρ : RivOK ρ) (hr : RivM I lv ρ) (hl : I 296 18 = (lv : Int)) (hv : VOK ρ s) (hs : MSt I s) (hy : (y : Int) < aW ρ) (hf : 1 ≤ force ∧ force ≤ 12) : ∃ I', iter (fun q : Int × MI => f_M_dayGoes_L138 F x1 force (y : Int) q.1 q.2 J) F (aL ρ - 1, I) = some I' ∧ MSt I' (rowA ρ force y (aL ρ).toNat s) ∧ VOK ρ (rowA ρ force y (aL ρ).toNat s) ∧ FrM I I' := by
  have hL := hρ.1
  refine wpo_iter (Q := fun I' => MSt I' (rowA ρ force y (aL ρ).toNat s) ∧ VOK ρ (rowA ρ force y (aL ρ).toNat s) ∧ FrM I I') (fun q => ∃ (x : Nat) (s' : BSt), q.1 = (x : Int) - 1 ∧ (x : Int) ≤ aL ρ ∧ rowA ρ force y x s' = rowA ρ force y (aL ρ).toNat s ∧ MSt q.2 s' ∧ VOK ρ s' ∧ FrM I q.2) (fun q => (q.1 + 1).toNat) ?_ (by dsimp only; omega) ⟨(aL ρ).toNat, s, by dsimp only; omega, by omega, rfl, hs, hv, frM_refl⟩
  rintro ⟨i, N⟩ ⟨x, s', h1, h2, h3, h4, h5, h6⟩
  dsimp only at h1 h2 h3 h4 h5 h6 ⊢
  subst h1
  match x with
  | 0 =>
    unfold f_M_dayGoes_L138
    refine wpo_g (by omega) (wpo_s ?_)
    rw [← h3]
    exact ⟨h4, h5, h6⟩
  | x + 1 =>
    obtain ⟨I', e, c1, c2, c3⟩ := M_cell (F := F) (J := J) (x := x) x1 hF hρ (rivm_fr hr h6) (by rw [h6.2 18 (by decide)]; exact hl) h5 h4 (by omega) hy hf
    rw [show ((x + 1 : Nat) : Int) - 1 = (x : Int) by omega, e]
    refine wpo_s ⟨⟨x, _, rfl, by omega, ?_, c1, c2, frM_trans h6 c3⟩, by dsimp only; omega⟩
    rw [← h3]
    rfl
theorem M_rows {F lv f : Nat} {I J : MI} {ρ : RIV} {s : BSt} (x1 : Int) (hF : 1000000 ≤ F) (hρ : RivOK ρ) (hr : RivM I lv ρ) (hl : I 296 18 = (lv : Int)) (hv : VOK ρ s) (hs : MSt I s) (hf : (f : Int) < aF ρ) : ∃ I', iter (fun q : Int × MI => f_M_dayGoes_L112 F x1 (frc ρ f) q.1 q.2 J) F (0, I) = some I' ∧ MSt I' (rowsA ρ (frc ρ f) 0 (aW ρ).toNat s) ∧ VOK ρ (rowsA ρ (frc ρ f) 0 (aW ρ).toNat s) ∧ FrM I I' := by
  have hW := hρ.2.1
  have hL := hρ.1
  have hfr := (hρ.2.2.2.2.2.2.2.2.1 f hf).2
  refine wpo_iter (Q := fun I' => MSt I' (rowsA ρ (frc ρ f) 0 (aW ρ).toNat s) ∧ VOK ρ (rowsA ρ (frc ρ f) 0 (aW ρ).toNat s) ∧ FrM I I') (fun q => ∃ n : Nat, (n : Int) ≤ aW ρ ∧ q.1 = (n : Int) ∧ MSt q.2 (rowsA ρ (frc ρ f) 0 n s) ∧ VOK ρ (rowsA ρ (frc ρ f) 0 n s) ∧ FrM I q.2) (fun q => (aW ρ - q.1).toNat) ?_ (by dsimp only; omega) ⟨0, by omega, rfl, hs, hv, frM_refl⟩
  rintro ⟨i, N⟩ ⟨n, h1, h2, h3, h4, h5⟩
  dsimp only at h2 h3 h4 h5 ⊢
  subst h2
  have hrN := rivm_fr hr h5
  have hlN : N 296 18 = (lv : Int) := by rw [h5.2 18 (by decide)]; exact hl
  have hlv2 := hr.1
  unfold f_M_dayGoes_L112
  rw [hlN]
  refine wpo_g (by omega) ?_
  rw [Int.toNat_natCast, hrN.2.2.1, hrN.2.1]
  refine wpo_i (fun hc => wpo_s ?_) (fun hc => ?_)
  · have : n = (aW ρ).toNat := by omega
    subst this
    exact ⟨h3, h4, h5⟩
  obtain ⟨I', e, c1, c2, c3⟩ := M_row (F := F) (J := J) (y := n) (force := frc ρ f) x1 hF hρ hrN hlN h4 h3 (by omega) hfr
  rw [w32i (x := aL ρ - 1) (by omega) (by omega), e, Option.bind_some]
  have er : rowsA ρ (frc ρ f) 0 (n + 1) s = rowA ρ (frc ρ f) n (aL ρ).toNat (rowsA ρ (frc ρ f) 0 n s) := by
    show rowA ρ (frc ρ f) (0 + n) _ _ = _
    rw [Nat.zero_add]
  refine wpo_s ⟨⟨n + 1, by omega, ?_, by dsimp only; rw [er]; exact c1, by rw [er]; exact c2, frM_trans h5 c3⟩, ?_⟩
  · dsimp only; rw [w32i (by omega) (by omega)]; omega
  · dsimp only; rw [w32i (by omega) (by omega)]; omega
theorem M_flds {F lv : Nat} {I J : MI} {ρ : RIV} {s : BSt} (hF : 1000000 ≤ F) (hρ : RivOK ρ) (hr : RivM I lv ρ) (hl : I 296 18 = (lv : Int)) (hv : VOK ρ s) (hs : MSt I s) : ∃ I', iter (fun q : Int × MI => f_M_dayGoes_L54 F q.1 q.2 J) F (0, I) = some I' ∧ MSt I' (fldA ρ 0 (aW ρ).toNat (aF ρ).toNat s) ∧ VOK ρ (fldA ρ 0 (aW ρ).toNat (aF ρ).toNat s) ∧ FrM I I' := by
  have hW := hρ.2.1
  have hFl := hρ.2.2.2.2.1
  have hlv2 := hr.1
  refine wpo_iter (Q := fun I' => MSt I' (fldA ρ 0 (aW ρ).toNat (aF ρ).toNat s) ∧ VOK ρ (fldA ρ 0 (aW ρ).toNat (aF ρ).toNat s) ∧ FrM I I') (fun q => ∃ f : Nat, (f : Int) ≤ aF ρ ∧ q.1 = (f : Int) ∧ MSt q.2 (fldA ρ 0 (aW ρ).toNat f s) ∧ VOK ρ (fldA ρ 0 (aW ρ).toNat f s) ∧ FrM I q.2) (fun q => (aF ρ - q.1).toNat) ?_ (by dsimp only; omega) ⟨0, by omega, rfl, hs, hv, frM_refl⟩
  rintro ⟨i, N⟩ ⟨f, h1, h2, h3, h4, h5⟩
  dsimp only at h2 h3 h4 h5 ⊢
  subst h2
  have hrN := rivm_fr hr h5
  have hlN : N 296 18 = (lv : Int) := by rw [h5.2 18 (by decide)]; exact hl
  unfold f_M_dayGoes_L54
  rw [hlN]
  refine wpo_g (by omega) ?_
  rw [Int.toNat_natCast, hrN.2.2.2.2.2.1]
  refine wpo_i (fun hc => wpo_s ?_) (fun hc => ?_)
  · have : f = (aF ρ).toNat := by omega
    subst this
    exact ⟨h3, h4, h5⟩
  rw [w32i (x := 8 * (lv : Int)) (by omega) (by omega), w32i (x := 8 * (lv : Int) + (f : Int)) (by omega) (by omega)]
  refine wpo_g (by omega) ?_
  rw [show (8 * (lv : Int) + (f : Int)).toNat = 8 * lv + f by omega, (hrN.2.2.2.2.2.2.2.2.2.1 f (by omega)).1, (hrN.2.2.2.2.2.2.2.2.2.1 f (by omega)).2, h3.1 240 (by omega), fldA_day hρ (by omega) f s h1]
  have hsf : fldA ρ 0 (aW ρ).toNat (f + 1) s = if fld ρ f = s.1 240 then rowsA ρ (frc ρ f) 0 (aW ρ).toNat (fldA ρ 0 (aW ρ).toNat f s) else fldA ρ 0 (aW ρ).toNat f s := rfl
  refine wpo_i (fun hc2 => ?_) (fun hc2 => wpo_s ?_)
  · obtain ⟨I', e, c1, c2, c3⟩ := M_rows (F := F) (J := J) (f := f) (f : Int) hF hρ hrN hlN h4 h3 (by omega)
    rw [e, Option.bind_some]
    rw [if_pos hc2] at hsf
    refine wpo_s ⟨⟨f + 1, by omega, ?_, by dsimp only; rw [hsf]; exact c1, by rw [hsf]; exact c2, frM_trans h5 c3⟩, ?_⟩
    · dsimp only; rw [w32i (by omega) (by omega)]; omega
    · dsimp only; rw [w32i (by omega) (by omega)]; omega
  · rw [if_neg hc2] at hsf
    refine ⟨⟨f + 1, by omega, ?_, by dsimp only; rw [hsf]; exact h3, by rw [hsf]; exact h4, h5⟩, ?_⟩
    · dsimp only; rw [w32i (by omega) (by omega)]; omega
    · dsimp only; rw [w32i (by omega) (by omega)]; omega
theorem M_mos {F : Nat} {I J : MI} {ρ : RIV} {s : BSt} (hF : 1000000 ≤ F) (hv : VOK ρ s) (hs : MSt I s) : ∃ I', iter (fun q : Int × MI => f_M_dayGoes_L2 F q.1 q.2 J) F (0, I) = some I' ∧ MSt I' (mosA s) ∧ ∀ a, a ≠ 332 → I' a = I a := by
  have key := wpo_iter (step := fun q : Int × MI => f_M_dayGoes_L2 F q.1 q.2 J) (Q := fun I' => MSt I' (mosA s) ∧ ∀ a, a ≠ 332 → I' a = I a) (fun q => ∃ j : Nat, j ≤ 96 ∧ q.1 = (j : Int) ∧ (∀ k, k < 250 → q.2 332 k = if 144 ≤ k ∧ k < 144 + j then (mosA s).1 k else s.1 k) ∧ ∀ a, a ≠ 332 → q.2 a = I a) (fun q => 96 - q.1.toNat) ?_ (F := F) (s := (0, I)) (by dsimp only; omega) ⟨0, by omega, rfl, fun k hk => by rw [if_neg (by omega)]; exact hs.1 k hk, fun _ _ => rfl⟩
  · exact key
  rintro ⟨i, N⟩ ⟨j, h1, h2, h3, h4⟩
  dsimp only at h2 h3 h4 ⊢
  subst h2
  unfold f_M_dayGoes_L2
  refine wpo_i (fun hc => wpo_s ?_) (fun hc => ?_)
  · have : j = 96 := by omega
    subst this
    refine ⟨⟨fun k hk => ?_, fun c hc => ?_⟩, h4⟩
    · rw [h3 k hk]
      by_cases e : 144 ≤ k ∧ k < 144 + 96
      · rw [if_pos e]
      · rw [if_neg e, mos_lo (by omega)]
    · rw [h4 333 (by decide)]; exact hs.2 c hc
  have hj : j < 96 := by omega
  refine wpo_g (by omega) ?_
  have hm := mos_at (s := s) hj
  have hmo := hv.2.2.2.1 j hj
  have hj3 := h3 (144 + j) (by omega)
  rw [if_neg (by omega)] at hj3
  have keep : (mosA s).1 (144 + j) = s.1 (144 + j) → ((∃ j' : Nat, j' ≤ 96 ∧ w32 ((j : Int) + 1) = (j' : Int) ∧ (∀ k, k < 250 → N 332 k = if 144 ≤ k ∧ k < 144 + j' then (mosA s).1 k else s.1 k) ∧ ∀ a, a ≠ 332 → N a = I a) ∧ 96 - (w32 ((j : Int) + 1)).toNat < 96 - ((j : Int)).toNat) := by
    intro e1
    have ew : w32 ((j : Int) + 1) = (j : Int) + 1 := w32i (by omega) (by omega)
    rw [ew]
    refine ⟨⟨j + 1, by omega, by omega, fun k hk => ?_, h4⟩, (show 96 - ((j : Int) + 1).toNat < 96 - ((j : Int)).toNat by omega)⟩
    by_cases e : k = 144 + j
    · rw [e, if_pos (by omega), hj3, e1]
    · rw [h3 k hk]
      by_cases e' : 144 ≤ k ∧ k < 144 + j
      · rw [if_pos e', if_pos (by omega)]
      · rw [if_neg e', if_neg (by omega)]
  rw [Int.toNat_natCast, h4 333 (by decide), hs.2 j hj]
  refine wpo_i (fun hc2 => wpo_s (keep (by rw [hm, if_neg (by omega)]))) (fun hc2 => ?_)
  rw [w32i (x := 144 + (j : Int)) (by omega) (by omega), show (144 + (j : Int)).toNat = 144 + j by omega, hj3]
  refine wpo_g (by omega) ?_
  refine wpo_i (fun hc3 => wpo_s (keep (by rw [hm, if_neg (by omega)]))) (fun hc3 => wpo_s ?_)
  rw [if_pos (by omega)] at hm
  rw [w32i (x := s.1 (144 + j) + 1) (by omega) (by omega), w32i (by omega) (by omega)]
  refine ⟨⟨j + 1, by omega, by dsimp only; omega, fun k hk => ?_, fun a ha => ?_⟩, by dsimp only; omega⟩ <;> dsimp only
  · by_cases e : k = 144 + j
    · rw [e, if_pos (by omega), up2_same, hm]
    · rw [up2_k e, h3 k hk]
      by_cases e' : 144 ≤ k ∧ k < 144 + j
      · rw [if_pos e', if_pos (by omega)]
      · rw [if_neg e', if_neg (by omega)]
  · rw [up2_off ha]; exact h4 a ha
theorem M_day {F lv : Nat} {I J : MI} {ρ : RIV} {s : BSt} (hF : 1000000 ≤ F) (hρ : RivOK ρ) (hr : RivM I lv ρ) (hl : I 296 18 = (lv : Int)) (hv : VOK ρ s) (hs : MSt I s) (hd : s.1 240 ≤ 999999) : ∃ I', f_M_dayGoes F I J = some I' ∧ MSt I' (dayA ρ 0 (aW ρ).toNat s) ∧ VOK ρ (dayA ρ 0 (aW ρ).toNat s) ∧ FrM I I' := by
  have hW := hρ.2.1
  have hFl := hρ.2.2.2.2.1
  have h0 := hv.2.2.2.2.2
  unfold f_M_dayGoes
  obtain ⟨I1, e1, s1, f1⟩ := M_mos (F := F) (J := J) hF hv hs
  rw [e1, Option.bind_some]
  have fr1 : FrM I I1 := ⟨fun a h1 h2 h3 h4 h5 => f1 a h3, fun k hk => by rw [f1 296 (by decide)]⟩
  obtain ⟨I2, e2, s2, v2, f2⟩ := M_flds (F := F) (J := J) hF hρ (rivm_fr hr fr1) (by rw [fr1.2 18 (by decide)]; exact hl) (vok_mos hv) s1
  rw [e2, Option.bind_some]
  have hd2 : I2 332 240 = s.1 240 := by
    rw [s2.1 240 (by omega), fldA_day hρ (by omega) _ _ (by omega), mos_lo (by omega)]
  rw [hd2, w32i (by omega) (by omega)]
  refine ⟨_, rfl, ⟨fun k hk => ?_, fun c hc => ?_⟩, vok_day v2 (by omega), ⟨fun a h1 h2 h3 h4 h5 => ?_, fun k hk => ?_⟩⟩
  · unfold dayA
    dsimp only
    by_cases e : k = 240
    · rw [e, up2_same, if_pos rfl]
    · rw [up2_k e, if_neg e]; exact s2.1 k hk
  · rw [up2_r (by decide)]; exact s2.2 c hc
  · rw [up2_off h3]; exact (frM_trans fr1 f2).1 a h1 h2 h3 h4 h5
  · rw [up2_r (by decide)]; exact (frM_trans fr1 f2).2 k hk
