/-! a stone is thrown -/
theorem prefix_cnt {p : Nat → Bool} : ∀ {n : Nat}, (∀ j, j < n → p j = true → ∀ i, i < j → p i = true) → ∀ j, j < n → (p j = true ↔ (j : Int) < cnt p n)
  | 0, _, j, hj => absurd hj (by omega)
  | n + 1, h, j, hj => by
    rw [cnt_s]
    by_cases hn : p n = true
    · have : cnt p n = n := by
        have h2 : ∀ i, i < n → p i = true := fun i hi => h n (by omega) hn i hi
        clear hj h hn
        induction n with
        | zero => rfl
        | succ n ih => rw [cnt_s, ih (fun i hi => h2 i (by omega)), h2 n (by omega)]; simp
      rw [this, if_pos hn]
      constructor
      · intro _; omega
      · intro _
        by_cases e : j = n
        · rw [e]; exact hn
        · exact h n (by omega) hn j (by omega)
    · rw [if_neg hn]
      by_cases e : j = n
      · subst e
        have := (cnt_nn p j).2
        constructor
        · intro h3; exact absurd h3 hn
        · intro h3; omega
      · have := prefix_cnt (p := p) (n := n) (fun j hj => h j (by omega)) j (by omega)
        rw [this]
        omega
/-- how many a leaver has thrown -/
def thA (s : BSt) (m : Nat) : Int := cnt (fun j => decide (s.1 (9 * m + j) ≠ -1)) 9
theorem thA_nn {s : BSt} {m : Nat} : 0 ≤ thA s m ∧ thA s m ≤ 9 := cnt_nn _ 9
theorem thA_iff {ρ : RIV} {s : BSt} (hv : VOK ρ s) {m j : Nat} (hm : m < 8) (hj : j < 9) : s.1 (9 * m + j) = -1 ↔ thA s m ≤ (j : Int) := by
  have := prefix_cnt (p := fun j => decide (s.1 (9 * m + j) ≠ -1)) (n := 9) (fun j hj hp i hi => by
    simp only [decide_eq_true_eq] at hp ⊢
    exact (hv.2.2.2.2.1 m j hm hj hp).2.2 i hi) j hj
  simp only [decide_eq_true_eq] at this
  unfold thA
  omega
theorem thA_man {ρ : RIV} {s : BSt} (hρ : RivOK ρ) (hv : VOK ρ s) {m : Nat} (hm : (m : Int) < aN ρ) : thA s m ≤ man ρ m := by
  have h8 := hρ.2.2.2.1.2
  have hman := (hρ.2.2.2.2.2.2.2.1 m hm).2.2.1
  have h9 := thA_nn (s := s) (m := m)
  by_cases h : thA s m ≤ 0
  · omega
  · have hi := thA_iff hv (m := m) (j := (thA s m).toNat - 1) (by omega) (by omega)
    have := (hv.2.2.2.2.1 m ((thA s m).toNat - 1) (by omega) (by omega) (by omega)).2.1
    omega
theorem thA_out {ρ : RIV} {s : BSt} (hv : VOK ρ s) {m : Nat} (hm : aN ρ ≤ (m : Int)) (h8 : m < 8) : thA s m = 0 := by
  have h9 := thA_nn (s := s) (m := m)
  by_cases h : thA s m ≤ 0
  · omega
  · have hi := thA_iff hv (m := m) (j := (thA s m).toNat - 1) (by omega) (by omega)
    have := (hv.2.2.2.2.1 m ((thA s m).toNat - 1) (by omega) (by omega) (by omega)).1
    omega
def mayA (ρ : RIV) (s : BSt) (m : Nat) : Int := if 0 < man ρ m - thA s m ∧ fsd ρ m ≤ s.1 240 then 1 else 0
theorem left_eq {F b rv m : Nat} {I : MI} {ρ : RIV} {s : BSt} (hρ : RivOK ρ) (hr : RivX I rv ρ) (hv : VOK ρ s) (h5 : I (b + 5) m = thA s m) (hm : (m : Int) < aN ρ) : f_B_left F b rv (m : Int) I = some (man ρ m - thA s m) := by
  have h8 := hρ.2.2.2.1.2
  have hman := (hρ.2.2.2.2.2.2.2.1 m hm).2.2.1
  have h9 := thA_nn (s := s) (m := m)
  unfold f_B_left
  rw [if_pos (by omega), Int.toNat_natCast, (hr.2.2.2.2.2.2.2.1 m hm).2.2.1, h5, w32i (by omega) (by omega)]
theorem may_eq {F b rv m : Nat} {I : MI} {ρ : RIV} {s : BSt} (hρ : RivOK ρ) (hr : RivX I rv ρ) (hv : VOK ρ s) (h5 : I (b + 5) m = thA s m) (h0 : I b 0 = s.1 240) (hm : (m : Int) < aN ρ) : f_B_mayThrow F b rv (m : Int) I = some (mayA ρ s m) := by
  have h8 := hρ.2.2.2.1.2
  unfold f_B_mayThrow
  rw [left_eq hρ hr hv h5 hm, Option.bind_some]
  unfold mayA
  by_cases h : man ρ m - thA s m ≤ 0
  · rw [if_pos h, if_neg (by omega)]
  · rw [if_neg h, if_pos (by omega), Int.toNat_natCast, h0, (hr.2.2.2.2.2.2.2.1 m hm).1]
    by_cases h2 : s.1 240 < fsd ρ m
    · rw [if_pos h2, if_neg (by omega)]
    · rw [if_neg h2, if_pos (by omega)]
theorem drift_eq {F rv m y : Nat} {I : MI} {ρ : RIV} (hρ : RivOK ρ) (hr : RivX I rv ρ) (hm : (m : Int) < aN ρ) (hy : y < 8) : f_R_drift F rv (m : Int) (y : Int) I = some (flo ρ y / siz ρ m) := by
  have h8 := hρ.2.2.2.1.2
  have hs := (hρ.2.2.2.2.2.2.2.1 m hm).2.1
  have hf := hρ.2.2.2.2.2.2.1 y hy
  unfold f_R_drift
  rw [if_pos (by omega), Int.toNat_natCast, Int.toNat_natCast, (hr.2.2.2.2.2.2.2.1 m hm).2.1, if_pos (by omega), if_pos (by omega), if_pos (by omega), hr.2.2.2.2.2.2.1 y hy, div32_eq (by omega) (by omega) (by omega) (by omega)]
theorem drift_nn {ρ : RIV} (hρ : RivOK ρ) {m y : Nat} (hm : (m : Int) < aN ρ) (hy : y < 8) : 0 ≤ flo ρ y / siz ρ m ∧ flo ρ y / siz ρ m ≤ 9 := by
  have hs := (hρ.2.2.2.2.2.2.2.1 m hm).2.1
  have hf := hρ.2.2.2.2.2.2.1 y hy
  refine ⟨Int.ediv_nonneg (by omega) (by omega), ?_⟩
  have := Int.ediv_le_self (siz ρ m) hf.1
  omega
/-- a stone that comes to lie -/
theorem thr_in {ρ : RIV} {s : BSt} {m x y stone : Nat} (h : (x : Int) + flo ρ y / siz ρ m < aL ρ) (hd : 0 ≤ flo ρ y / siz ρ m) {c : Nat} (hc : (c : Int) = 12 * (y : Int) + ((x : Int) + flo ρ y / siz ρ m)) (hs : stone < 72) (hc9 : c < 96) :
    (∀ k, k < 72 → (thrA ρ m x y stone s).1 k = if k = stone then (c : Int) else s.1 k) ∧ (∀ k, k < 72 → (thrA ρ m x y stone s).1 (72 + k) = if k = stone then s.2 c else s.1 (72 + k)) ∧ (∀ a, a < 96 → (thrA ρ m x y stone s).1 (144 + a) = if a = c then 0 else s.1 (144 + a)) ∧ (∀ a, (thrA ρ m x y stone s).2 a = if a = c then s.2 c + 1 else s.2 a) ∧ (thrA ρ m x y stone s).1 240 = s.1 240 := by
  have e : 12 * y + ((x : Int) + flo ρ y / siz ρ m).toNat = c := by omega
  unfold thrA
  dsimp only
  rw [if_neg (by omega), e]
  refine ⟨fun k hk => ?_, fun k hk => ?_, fun a ha => ?_, fun a => ?_, ?_⟩ <;> dsimp only
  · by_cases h1 : k = stone
    · rw [if_pos h1, if_pos h1]; omega
    · rw [if_neg h1, if_neg h1, if_neg (by omega), if_neg (by omega)]
  · rw [if_neg (by omega)]
    by_cases h1 : k = stone
    · rw [if_pos (by omega), if_pos h1]
    · rw [if_neg (by omega), if_neg (by omega), if_neg h1]
  · rw [if_neg (by omega), if_neg (by omega)]
    by_cases h1 : a = c
    · rw [if_pos (by omega), if_pos h1]
    · rw [if_neg (by omega), if_neg h1]
  · by_cases h1 : a = c
    · rw [if_pos h1, if_pos h1, h1]
    · rw [if_neg h1, if_neg h1]
  · rw [if_neg (by omega), if_neg (by omega), if_neg (by omega)]
theorem thr_out {ρ : RIV} {s : BSt} {m x y stone : Nat} (h : aL ρ ≤ (x : Int) + flo ρ y / siz ρ m) : thrA ρ m x y stone s = (fun k => if k = stone then -2 else s.1 k, s.2) := by
  unfold thrA
  dsimp only
  rw [if_pos h]
theorem vok_thr {ρ : RIV} {s : BSt} (hρ : RivOK ρ) (hv : VOK ρ s) {m x y : Nat} (hm : (m : Int) < aN ρ) (hx : (x : Int) < aL ρ) (hy : (y : Int) < aW ρ) (hl : 0 < man ρ m - thA s m) : VOK ρ (thrA ρ m x y (9 * m + (thA s m).toNat) s) := by
  have h8 := hρ.2.2.2.1.2
  have hL := hρ.1.2
  have hW := hρ.2.1.2
  have hman := (hρ.2.2.2.2.2.2.2.1 m hm).2.2.1
  have h9 := thA_nn (s := s) (m := m)
  have hd := drift_nn hρ hm (y := y) (by omega)
  obtain ⟨j0, hj0⟩ : ∃ j : Nat, (j : Int) = thA s m := ⟨(thA s m).toNat, by omega⟩
  rw [← hj0, Int.toNat_natCast]
  have hst : s.1 (9 * m + j0) = -1 := (thA_iff hv (by omega) (by omega)).mpr (by omega)
  have hpre : ∀ i, i < 9 → (s.1 (9 * m + i) = -1 ↔ thA s m ≤ (i : Int)) := fun i hi => thA_iff hv (by omega) hi
  generalize hS : 9 * m + j0 = stone at hst ⊢
  have hs72 : stone < 72 := by omega
  obtain ⟨v1, v2, v3, v4, v5, v6⟩ := hv
  by_cases hin : (x : Int) + flo ρ y / siz ρ m < aL ρ
  · obtain ⟨c, hc⟩ : ∃ c : Nat, (c : Int) = 12 * (y : Int) + ((x : Int) + flo ρ y / siz ρ m) := ⟨(12 * (y : Int) + ((x : Int) + flo ρ y / siz ρ m)).toNat, by omega⟩
    have hc9 : c < 96 := by omega
    obtain ⟨p1, p2, p3, p4, p5⟩ := thr_in (s := s) hin hd.1 hc hs72 hc9
    have f1 : ∀ k, k < 72 → s.1 k = (c : Int) → 0 ≤ s.1 (72 + k) ∧ s.1 (72 + k) < s.2 c := by
      intro k hk e
      have := v1 k hk
      rw [e] at this
      simp only [Int.toNat_natCast] at this
      omega
    have hc0 := v4 c hc9
    refine ⟨fun k hk => ?_, fun j k hj hk hj0' e hl' => ?_, fun a l ha hl0 hl' => ?_, fun a ha => ?_, fun m' j hm' hj hne => ?_, ?_⟩
    · rw [p1 k hk, p2 k hk, p4]
      by_cases h1 : k = stone
      · rw [if_pos h1, if_pos h1, Int.toNat_natCast, if_pos rfl]
        right; right
        omega
      · rw [if_neg h1, if_neg h1]
        rcases v1 k hk with a | a | a
        · exact Or.inl a
        · exact Or.inr (Or.inl a)
        · right; right
          by_cases h2 : (s.1 k).toNat = c
          · rw [if_pos h2]
            rw [h2] at a
            omega
          · rw [if_neg h2]; exact a
    · rw [p1 j hj] at hj0' e
      rw [p1 k hk] at e
      rw [p2 j hj, p2 k hk] at hl'
      by_cases h1 : j = stone
      · rw [if_pos h1] at e hl'
        by_cases h2 : k = stone
        · omega
        · rw [if_neg h2] at e hl'
          have := f1 k hk e.symm
          omega
      · rw [if_neg h1] at e hl' hj0'
        by_cases h2 : k = stone
        · rw [if_pos h2] at e hl'
          have := f1 j hj e
          omega
        · rw [if_neg h2] at e hl'
          exact v2 j k hj hk hj0' e hl'
    · rw [p4] at hl'
      by_cases h1 : a = c ∧ l = s.2 c
      · exact ⟨stone, hs72, by rw [p1 _ hs72, if_pos rfl, h1.1], by rw [p2 _ hs72, if_pos rfl, h1.2]⟩
      · have h2 : l < s.2 a := by
          by_cases e : a = c
          · rw [if_pos e] at hl'; subst e; omega
          · rw [if_neg e] at hl'; exact hl'
        obtain ⟨k, hk, q1, q2⟩ := v3 a l ha hl0 h2
        have hks : k ≠ stone := by intro e; rw [e, hst] at q1; omega
        exact ⟨k, hk, by rw [p1 _ hk, if_neg hks, q1], by rw [p2 _ hk, if_neg hks, q2]⟩
    · rw [p4, p3 a ha]
      have := v4 a ha
      by_cases h1 : a = c
      · rw [if_pos h1, if_pos h1]; omega
      · rw [if_neg h1, if_neg h1]; exact this
    · rw [p1 _ (by omega)] at hne
      have hfor : ∀ i, i < j → s.1 (9 * m' + i) ≠ -1 → (thrA ρ m x y stone s).1 (9 * m' + i) ≠ -1 := by
        intro i hi hn
        rw [p1 _ (by omega)]
        split
        · omega
        · exact hn
      by_cases h1 : 9 * m' + j = stone
      · have e1 : m' = m := by omega
        have e2 : j = j0 := by omega
        subst e1; subst e2
        refine ⟨hm, by omega, fun i hi => hfor i hi ?_⟩
        have := hpre i (by omega)
        omega
      · rw [if_neg h1] at hne
        obtain ⟨a, b, c'⟩ := v5 m' j hm' hj hne
        exact ⟨a, b, fun i hi => hfor i hi (c' i hi)⟩
    · rw [p5]; exact v6
  · rw [thr_out (by omega)]
    have p1 : ∀ k, k ≠ stone → (if k = stone then (-2 : Int) else s.1 k) = s.1 k := fun k hk => if_neg hk
    refine ⟨fun k hk => ?_, fun j k hj hk => ?_, fun a l ha hl0 hl' => ?_, fun a ha => ?_, fun m' j hm' hj hne => ?_, ?_⟩ <;> dsimp only at *
    · by_cases h1 : k = stone
      · rw [if_pos h1]; exact Or.inr (Or.inl rfl)
      · rw [if_neg h1, p1 (72 + k) (by omega)]; exact v1 k hk
    · by_cases h1 : j = stone
      · rw [if_pos h1]; omega
      · rw [if_neg h1, p1 (72 + j) (by omega), p1 (72 + k) (by omega)]
        by_cases h2 : k = stone
        · rw [if_pos h2]; omega
        · rw [if_neg h2]; exact v2 j k hj hk
    · obtain ⟨k, hk, q1, q2⟩ := v3 a l ha hl0 hl'
      have hks : k ≠ stone := by intro e; rw [e, hst] at q1; omega
      exact ⟨k, hk, by rw [if_neg hks, q1], by rw [p1 _ (by omega), q2]⟩
    · rw [p1 _ (by omega)]; exact v4 a ha
    · have hfor : ∀ i, i < j → s.1 (9 * m' + i) ≠ -1 → (if 9 * m' + i = stone then (-2 : Int) else s.1 (9 * m' + i)) ≠ -1 := by
        intro i hi hn
        split
        · omega
        · exact hn
      by_cases h1 : 9 * m' + j = stone
      · have e1 : m' = m := by omega
        have e2 : j = j0 := by omega
        subst e1; subst e2
        refine ⟨hm, by omega, fun i hi => hfor i hi ?_⟩
        have := hpre i (by omega)
        omega
      · rw [if_neg h1] at hne
        obtain ⟨a, b, c'⟩ := v5 m' j hm' hj hne
        exact ⟨a, b, fun i hi => hfor i hi (c' i hi)⟩
    · rw [p1 _ (by omega)]; exact v6
theorem thr_day {ρ : RIV} {s : BSt} {m x y stone : Nat} (hs : stone < 72) (hx : x < 12) (hy : y < 8) (hd : 0 ≤ flo ρ y / siz ρ m ∧ flo ρ y / siz ρ m ≤ 9) (hL : aL ρ ≤ 12) : (thrA ρ m x y stone s).1 240 = s.1 240 := by
  unfold thrA
  dsimp only
  split
  · dsimp only; rw [if_neg (by omega)]
  · dsimp only; rw [if_neg (by omega), if_neg (by omega), if_neg (by omega)]
def thrR (ρ : RIV) (m x y : Nat) : Int := if aL ρ ≤ (x : Int) + flo ρ y / siz ρ m then -2 else 12 * (y : Int) + ((x : Int) + flo ρ y / siz ρ m)
theorem cnt_upd {s : BSt} {p : Int → Bool} {m' m j0 : Nat} {v : Int} {f : Nat → Int} (hm : m' < 8) (hj0 : j0 < 9) (hf : ∀ k, k < 72 → f k = if k = 9 * m + j0 then v else s.1 k) : cnt (fun j => p (f (9 * m' + j))) 9 = cnt (fun j => p (s.1 (9 * m' + j))) 9 + (if m' = m then (if p v then 1 else 0) - (if p (s.1 (9 * m + j0)) then 1 else 0) else 0) := by
  by_cases e : m' = m
  · subst e
    rw [if_pos rfl]
    have h1 : ∀ j, j < 9 → j ≠ j0 → p (f (9 * m' + j)) = p (s.1 (9 * m' + j)) := fun j hj hne => by rw [hf _ (by omega), if_neg (by omega)]
    have h2 : p (f (9 * m' + j0)) = p v := by rw [hf _ (by omega), if_pos rfl]
    by_cases a : p v = true
    · by_cases b : p (s.1 (9 * m' + j0)) = true
      · rw [if_pos a, if_pos b, Int.sub_self, Int.add_zero]
        refine cnt_congr (fun j hj => ?_)
        by_cases e : j = j0
        · rw [e, h2, a, b]
        · exact h1 j hj e
      · rw [if_pos a, if_neg b]
        have := cnt_add (p := fun j => p (s.1 (9 * m' + j))) (q := fun j => p (f (9 * m' + j))) hj0 (by simpa using b) (by rw [h2, a]) (fun j hj hne => h1 j hj hne)
        omega
    · by_cases b : p (s.1 (9 * m' + j0)) = true
      · rw [if_neg a, if_pos b]
        have := cnt_add (p := fun j => p (f (9 * m' + j))) (q := fun j => p (s.1 (9 * m' + j))) hj0 (by rw [h2]; simpa using a) b (fun j hj hne => (h1 j hj hne).symm)
        omega
      · rw [if_neg a, if_neg b, Int.sub_self, Int.add_zero]
        refine cnt_congr (fun j hj => ?_)
        by_cases e : j = j0
        · rw [e, h2]; simp at a b; rw [a, b]
        · exact h1 j hj e
  · rw [if_neg e, Int.add_zero]
    exact cnt_congr (fun j hj => by rw [hf _ (by omega), if_neg (by omega)])
theorem throw_eq {F b rv m x y : Nat} (hF : 1000000 ≤ F) (hbr : isBR b rv) {I : MI} {ρ : RIV} {s : BSt} (hρ : RivOK ρ) (hr : RivX I rv ρ) (hq : BedQ I b ρ s) (hm : (m : Int) < aN ρ) (hx : (x : Int) < aL ρ) (hy : (y : Int) < aW ρ) (hl : 0 < man ρ m - thA s m) : ∃ I', f_B_throwStone F b rv (m : Int) (x : Int) (y : Int) I = some (thrR ρ m x y, I') ∧ BedQ I' b ρ (thrA ρ m x y (9 * m + (thA s m).toNat) s) ∧ ∀ a, a < b ∨ b + 6 < a → I' a = I a := by
  have hvt := vok_thr hρ hq.1 hm hx hy hl
  obtain ⟨hv, hb, h0⟩ := hq
  have hbr' := hbr
  unfold isBR at hbr'
  have h8 := hρ.2.2.2.1.2
  have hL := hρ.1.2
  have hW := hρ.2.1.2
  have hman := (hρ.2.2.2.2.2.2.2.1 m hm).2.2.1
  have h9 := thA_nn (s := s) (m := m)
  have hd := drift_nn hρ hm (y := y) (by omega)
  obtain ⟨j0, hj0⟩ : ∃ j : Nat, (j : Int) = thA s m := ⟨(thA s m).toNat, by omega⟩
  have hst : s.1 (9 * m + j0) = -1 := (thA_iff hv (by omega) (by omega)).mpr (by omega)
  have h5 : I (b + 5) m = (j0 : Int) := by rw [hb.2.2.2.2.2.2.1 m (by omega)]; exact hj0.symm
  unfold f_B_throwStone
  rw [left_eq hρ hr hv (h5.trans hj0) hm, Option.bind_some, if_neg (by omega), if_pos (by omega), Int.toNat_natCast, h5, if_pos (by omega)]
  rw [← hj0, Int.toNat_natCast] at hvt ⊢
  rw [w32i (x := (j0 : Int) + 1) (by omega) (by omega), w32i (x := (m : Int) * 9) (by omega) (by omega), w32i (x := (m : Int) * 9 + (j0 : Int)) (by omega) (by omega)]
  generalize hM : up2 I (b + 5) m ((j0 : Int) + 1) = M
  have m5 : ∀ m', M (b + 5) m' = if m' = m then (j0 : Int) + 1 else I (b + 5) m' := by
    intro m'; rw [← hM]; unfold up2; simp
  have m4 : ∀ a, a ≠ b + 5 → M a = I a := fun a ha => by rw [← hM, up2_off ha]
  have hrM : RivX M rv ρ := rivx_congr hr (fun a h1 h2 h3 h4 => m4 a (by omega))
  rw [drift_eq hρ hrM hm (by omega), Option.bind_some, w32i (x := (x : Int) + flo ρ y / siz ρ m) (by omega) (by omega)]
  have hs72 : 9 * m + j0 < 72 := by omega
  by_cases hin : (x : Int) + flo ρ y / siz ρ m < aL ρ
  · obtain ⟨c, hc⟩ : ∃ c : Nat, (c : Int) = 12 * (y : Int) + ((x : Int) + flo ρ y / siz ρ m) := ⟨(12 * (y : Int) + ((x : Int) + flo ρ y / siz ρ m)).toNat, by omega⟩
    have hc9 : c < 96 := by omega
    obtain ⟨p1, p2, p3, p4, p5⟩ := thr_in (s := s) hin hd.1 hc hs72 hc9
    rw [has_t (by rw [hrM.1, hrM.2.1]; omega), Option.bind_some, if_pos (by decide)]
    obtain ⟨xx, hxx⟩ : ∃ xx : Nat, (xx : Int) = (x : Int) + flo ρ y / siz ρ m := ⟨((x : Int) + flo ρ y / siz ρ m).toNat, by omega⟩
    rw [← hxx, cnum_eq (by omega) (by omega), Option.bind_some, show 12 * y + xx = c by omega]
    have h72 := vok_72 hv hc9
    rw [layOn_eq (by omega) (by omega) (by rw [m4 _ (by omega), Int.toNat_natCast, hb.1 c hc9]; omega), Option.bind_some]
    have hres : thrR ρ m x y = (c : Int) := by unfold thrR; rw [if_neg (by omega)]; omega
    rw [hres]
    refine ⟨_, rfl, ⟨hvt, ?_, ?_⟩, ?_⟩
    · rw [p5]
      obtain ⟨b1, b2, b3, b4, b5, b6, b7, b8⟩ := hb
      obtain ⟨v1, v2, v3, v4, v5, v6⟩ := hv
      have est : ((m : Int) * 9 + (j0 : Int)).toNat = 9 * m + j0 := by omega
      have f1 : ∀ k, k < 72 → s.1 k = (c : Int) → 0 ≤ s.1 (72 + k) ∧ s.1 (72 + k) < s.2 c := by
        intro k hk e
        have := v1 k hk
        rw [e] at this
        simp only [Int.toNat_natCast] at this
        omega
      generalize hS : 9 * m + j0 = stone at *
      refine ⟨fun a ha => ?_, fun a ha ha0 => ?_, fun k hk hk0 hl' => ?_, fun k hk hk0 hl' => ?_, fun j k hj hk hj0' e hl' => ?_, fun a ha ha0 => ?_, fun m' hm' => ?_, fun m' hm' => ?_⟩
      · rw [p4]
        simp (disch := omega) only [up2_r, Int.toNat_natCast]
        by_cases e : a = c
        · subst e
          rw [up2_same, if_pos rfl, m4 _ (by omega), b1 _ hc9]
        · rw [up2_k e, if_neg e]
          simp (disch := omega) only [up2_r]
          rw [m4 _ (by omega), b1 _ ha]
      · rw [p4] at ha0
        have := v4 a ha
        have hca := v4 c hc9
        by_cases e : a = c
        · rw [if_pos e] at ha0; omega
        · rw [if_neg e] at ha0
          simp (disch := omega) only [up2_r, Int.toNat_natCast]
          rw [up2_k e]
          simp (disch := omega) only [up2_r]
          rw [m4 _ (by omega)]
          exact b2 a ha ha0
      · rw [p1 k hk] at hk0 hl' ⊢
        rw [p2 k hk] at hl'
        simp (disch := omega) only [up2_r, Int.toNat_natCast]
        by_cases e : k = stone
        · rw [if_pos e, Int.toNat_natCast, up2_same]; omega
        · rw [if_neg e] at hk0 hl' ⊢
          rw [if_neg e, p4] at hl'
          by_cases e2 : (s.1 k).toNat = c
          · rw [if_pos e2] at hl'
            have := f1 k hk (by omega)
            omega
          · rw [if_neg e2] at hl'
            rw [up2_k e2]
            simp (disch := omega) only [up2_r]
            rw [m4 _ (by omega)]
            exact b3 k hk hk0 hl'
      · rw [p1 k hk] at hk0
        rw [p2 k hk] at hl'
        simp (disch := omega) only [up2_r, Int.toNat_natCast, est]
        by_cases e : k = stone
        · rw [if_pos e] at hl'
          rw [e, up2_same, m4 _ (by omega)]
          exact b2 c hc9 hl'
        · rw [if_neg e] at hl' hk0
          rw [up2_k e, m4 _ (by omega)]
          exact b4 k hk hk0 hl'
      · rw [p1 j hj] at hj0' e
        rw [p1 k hk] at e
        rw [p2 j hj, p2 k hk] at hl'
        simp (disch := omega) only [up2_r, Int.toNat_natCast, est]
        by_cases e1 : j = stone
        · rw [if_pos e1] at e hl'
          by_cases e2 : k = stone
          · rw [if_pos e2] at hl'; omega
          · rw [if_neg e2] at e hl'
            rw [e1, up2_same, m4 _ (by omega)]
            have := b3 k hk (by omega) (by rw [← e]; simp only [Int.toNat_natCast]; omega)
            rw [← e] at this
            simpa using this
        · rw [if_neg e1] at e hl' hj0'
          by_cases e2 : k = stone
          · rw [if_pos e2] at e hl'
            have := f1 j hj e
            omega
          · rw [if_neg e2] at e hl'
            rw [up2_k e1, m4 _ (by omega)]
            exact b5 j k hj hk hj0' e hl'
      · rw [p4] at ha0
        rw [p3 a ha]
        by_cases e : a = c
        · rw [if_pos e, e, Int.toNat_natCast, up2_same]
          rw [m4 _ (by omega), h0]
          omega
        · rw [if_neg e] at ha0 ⊢
          rw [Int.toNat_natCast, up2_k e]
          simp (disch := omega) only [up2_r]
          rw [m4 _ (by omega)]
          exact b6 a ha ha0
      · simp (disch := omega) only [up2_r]
        have hk := cnt_upd (s := s) (p := fun z => decide (z ≠ -1)) (m := m) (j0 := j0) (v := (c : Int)) (f := (thrA ρ m x y stone s).1) hm' (by omega) (fun k hk => by rw [p1 k hk, hS])
        rw [hk, m5, ← b7 m' hm']
        by_cases e : m' = m
        · rw [if_pos e, if_pos e, if_pos (by simp <;> omega), if_neg (by rw [hS, hst]; simp), e, h5]; omega
        · rw [if_neg e, if_neg e]; omega
      · simp (disch := omega) only [up2_r]
        have hk := cnt_upd (s := s) (p := fun z => decide (z = -2)) (m := m) (j0 := j0) (v := (c : Int)) (f := (thrA ρ m x y stone s).1) hm' (by omega) (fun k hk => by rw [p1 k hk, hS])
        rw [hk, m4 _ (by omega), ← b8 m' hm']
        by_cases e : m' = m
        · rw [if_pos e, if_neg (by simp <;> omega), if_neg (by rw [hS, hst]; simp)]; omega
        · rw [if_neg e]; omega
    · rw [p5]
      simp (disch := omega) only [up2_r]
      rw [m4 _ (by omega), h0]
    · intro a ha
      simp (disch := omega) only [up2_off]
      exact m4 a (by omega)
  · rw [has_f (by rw [hrM.1, hrM.2.1]; omega), Option.bind_some, if_neg (by decide)]
    have hres : thrR ρ m x y = -2 := by unfold thrR; rw [if_pos (by omega)]
    have hlo : 0 ≤ I (b + 6) m ∧ I (b + 6) m ≤ 9 := by
      rw [hb.2.2.2.2.2.2.2 m (by omega)]
      exact cnt_nn _ 9
    rw [hres, m4 (b + 6) (by omega), w32i (by omega) (by omega)]
    rw [thr_out (by omega)] at hvt ⊢
    refine ⟨_, rfl, ⟨hvt, ?_, ?_⟩, ?_⟩
    · obtain ⟨b1, b2, b3, b4, b5, b6, b7, b8⟩ := hb
      generalize hS : 9 * m + j0 = stone at *
      have pe : ∀ k, k ≠ stone → (if k = stone then (-2 : Int) else s.1 k) = s.1 k := fun k hk => if_neg hk
      refine ⟨fun a ha => ?_, fun a ha ha0 => ?_, fun k hk hk0 hl' => ?_, fun k hk hk0 hl' => ?_, fun j k hj hk hj0' e hl' => ?_, fun a ha ha0 => ?_, fun m' hm' => ?_, fun m' hm' => ?_⟩ <;> dsimp only at *
      · rw [up2_r (by omega), m4 _ (by omega), b1 a ha]
      · rw [up2_r (by omega), m4 _ (by omega)]; exact b2 a ha ha0
      · by_cases e : k = stone
        · rw [if_pos e] at hk0; omega
        · rw [if_neg e] at hk0 hl' ⊢
          rw [pe _ (by omega)] at hl'
          rw [up2_r (by omega), m4 _ (by omega)]
          exact b3 k hk hk0 hl'
      · by_cases e : k = stone
        · rw [if_pos e] at hk0; omega
        · rw [if_neg e] at hk0
          rw [pe _ (by omega)] at hl'
          rw [up2_r (by omega), m4 _ (by omega)]
          exact b4 k hk hk0 hl'
      · by_cases e1 : j = stone
        · rw [if_pos e1] at hj0'; omega
        · rw [if_neg e1] at hj0' e
          by_cases e2 : k = stone
          · rw [if_pos e2] at e; omega
          · rw [if_neg e2] at e
            rw [pe _ (by omega), pe _ (by omega)] at hl'
            rw [up2_r (by omega), m4 _ (by omega)]
            exact b5 j k hj hk hj0' e hl'
      · rw [pe (144 + a) (by omega), pe 240 (by omega), up2_r (by omega), m4 _ (by omega)]
        exact b6 a ha ha0
      · have hk := cnt_upd (s := s) (p := fun z => decide (z ≠ -1)) (m := m) (j0 := j0) (v := -2) (f := fun k => if k = stone then (-2 : Int) else s.1 k) hm' (by omega) (fun k hk => by rw [hS])
        rw [hk, up2_r (by omega), m5, ← b7 m' hm']
        by_cases e : m' = m
        · rw [if_pos e, if_pos e, if_pos (by simp), if_neg (by rw [hS, hst]; simp), e, h5]; omega
        · rw [if_neg e, if_neg e]; omega
      · have hk := cnt_upd (s := s) (p := fun z => decide (z = -2)) (m := m) (j0 := j0) (v := -2) (f := fun k => if k = stone then (-2 : Int) else s.1 k) hm' (by omega) (fun k hk => by rw [hS])
        rw [hk, ← b8 m' hm']
        by_cases e : m' = m
        · rw [if_pos e, if_pos (by simp), if_neg (by rw [hS, hst]; simp), e, up2_same]; omega
        · rw [if_neg e, up2_k e, m4 _ (by omega)]; omega
    · dsimp only
      rw [if_neg (by omega), up2_r (by omega), m4 _ (by omega), h0]
    · intro a ha
      rw [up2_off (by omega)]
      exact m4 a (by omega)
