/-! texts: the class's tokens -/
theorem sort_eq {F : Nat} {b : Int} {I : MI} : f_K_sortOf F b I = some (soB b) := by
  have v : ∀ v : Int, soB b = v → (some v : Option Int) = some (soB b) := fun v h => by rw [h]
  unfold f_K_sortOf f_K_sortOf_b40
  by_cases h1 : b = 9
  · rw [if_pos h1]; exact v 0 (by unfold soB; rw [if_pos (by omega)])
  rw [if_neg h1]
  by_cases h2 : b = 10
  · rw [if_pos h2]; exact v 0 (by unfold soB; rw [if_pos (by omega)])
  rw [if_neg h2]
  by_cases h3 : b = 13
  · rw [if_pos h3]; exact v 0 (by unfold soB; rw [if_pos (by omega)])
  rw [if_neg h3]
  by_cases h4 : b = 32
  · rw [if_neg (fun h => h h4)]; exact v 0 (by unfold soB; rw [if_pos (by omega)])
  rw [if_pos h4]
  have nb : ¬ (b = 9 ∨ b = 10 ∨ b = 13 ∨ b = 32) := by omega
  have oth : ¬ (97 ≤ b ∧ b ≤ 122) → (if b < 48 then (some 3 : Option Int) else (if 57 < b then some 3 else some 2)) = some (soB b) := fun hl => by
    by_cases h6 : b < 48
    · rw [if_pos h6]; exact v 3 (by unfold soB; rw [if_neg nb, if_neg hl, if_neg (by omega)])
    · rw [if_neg h6]
      by_cases h7 : 57 < b
      · rw [if_pos h7]; exact v 3 (by unfold soB; rw [if_neg nb, if_neg hl, if_neg (by omega)])
      · rw [if_neg h7]; exact v 2 (by unfold soB; rw [if_neg nb, if_neg hl, if_pos (by omega)])
  by_cases h5 : b < 97
  · rw [if_pos h5]; exact oth (by omega)
  · rw [if_neg h5]
    by_cases h6 : 122 < b
    · rw [if_pos h6]; exact oth (by omega)
    · rw [if_neg h6]; exact v 1 (by unfold soB; rw [if_neg nb, if_pos (by omega)])
/-- the class's tape -/
def TpX (I : MI) (B : Nat → Int) (n : Nat) : Prop := n ≤ 2000 ∧ I 2 1 = (n : Int) ∧ (∀ k, k < n → and32 (I 3 k) 255 = B k) ∧ ∀ k, k < n → 0 ≤ B k ∧ B k ≤ 255
theorem tpx_congr {I I' : MI} {B : Nat → Int} {n : Nat} (h : TpX I B n) (h2 : I' 2 = I 2) (h3 : I' 3 = I 3) : TpX I' B n := by
  unfold TpX
  rw [h2, h3]
  exact h
theorem byteX {F k n : Nat} {I : MI} {B : Nat → Int} (h : TpX I B n) (hk : k < n) : f_T_byteAt F (k : Int) I = some (B k) := by
  unfold f_T_byteAt
  rw [if_pos (by have := h.1; omega), Int.toNat_natCast, h.2.2.1 k hk]
theorem skipX {F n i : Nat} {s : Int} (hF : 1000000 ≤ F) {I : MI} {B : Nat → Int} (h : TpX I B n) (hi : i ≤ n) : f_K_skip F (i : Int) s I = some ((rn (soP s) B n i : Nat) : Int) := by
  have hn := h.1
  unfold f_K_skip
  rw [iter_eq (e := ((rn (soP s) B n i : Nat) : Int)) (fun q => ∃ j : Nat, j ≤ n ∧ q = (j : Int) ∧ rn (soP s) B n j = rn (soP s) B n i) (fun q => n - q.toNat) ?_ (by omega) ⟨i, hi, rfl, rfl⟩]
  · rfl
  rintro q ⟨j, h1, h2, h3⟩
  subst h2
  unfold f_K_skip_L2
  rw [h.2.1]
  refine wpo_i (fun hc => wpo_s ?_) (fun hc => ?_)
  · rw [← h3, rn_stop (Or.inl (by omega))]; rfl
  have hj : j < n := by omega
  rw [byteX h hj, Option.bind_some, sort_eq, Option.bind_some]
  refine wpo_i (fun hc2 => wpo_s ?_) (fun hc2 => wpo_s ?_)
  · rw [← h3, rn_stop (Or.inr (by simp [soP]; exact hc2))]; rfl
  · rw [w32i (by omega) (by omega)]
    refine ⟨⟨j + 1, by omega, by omega, ?_⟩, by omega⟩
    rw [← rn_go hj (by simp [soP]; by_cases e : soB (B j) = s
                       · exact e
                       · exact absurd e hc2)]
    exact h3
theorem endTX {F n i : Nat} (hF : 1000000 ≤ F) {I : MI} {B : Nat → Int} (h : TpX I B n) (hi : i < n) : f_K_endOfToken F (i : Int) I = some ((tokE B n i : Nat) : Int) := by
  have hn := h.1
  unfold f_K_endOfToken tokE
  rw [byteX h hi, Option.bind_some, sort_eq, Option.bind_some]
  by_cases g : soB (B i) = 3
  · rw [if_neg (fun z => z g), if_pos g, w32i (by omega) (by omega)]; rfl
  · rw [if_pos g, if_neg g, skipX hF h (by omega)]; rfl
theorem ch_key : ∀ w : Nat, w < 17 → (keyW.getD w []).length ≤ 6 ∧ (∀ j : Nat, j < 6 → chW ((6 * w + j : Nat) : Int) = (keyW.getD w []).getD j 32) ∧ ∀ a ∈ keyW.getD w [], 97 ≤ a ∧ a ≤ 122 := by decide +kernel
theorem lst_getD {B : Nat → Int} {i : Nat} : ∀ {d j : Nat}, (lst B i d).getD j 32 = if j < d then B (i + j) else 32
  | 0, j => by rw [if_neg (by omega)]; simp [lst]
  | d + 1, j => by
    have ih := lst_getD (B := B) (i := i) (d := d) (j := j)
    simp only [lst]
    by_cases h : j < d
    · rw [if_pos h] at ih
      rw [if_pos (by omega), ← ih]
      simp [List.getD_eq_getElem?_getD, List.getElem?_append_left (show j < (lst B i d).length by rw [lst_len]; exact h)]
    · by_cases h2 : j = d
      · subst h2
        rw [if_pos (by omega)]
        simp [List.getD_eq_getElem?_getD, List.getElem?_append_right (show (lst B i j).length ≤ j by rw [lst_len]; omega), lst_len]
      · rw [if_neg (by omega)]
        have : (lst B i d ++ [B (i + d)]).length ≤ j := by simp [lst_len]; omega
        simp [List.getD_eq_getElem?_getD, List.getElem?_eq_none this]
theorem ltrs_getD {w : List Int} (h : ltrs w) {j : Nat} : (j < w.length → 97 ≤ w.getD j 32 ∧ w.getD j 32 ≤ 122) ∧ (w.length ≤ j → w.getD j 32 = 32) := by
  constructor
  · intro hj
    have e : w.getD j 32 = w[j] := by simp [List.getD_eq_getElem?_getD, hj]
    rw [e]
    exact h _ (List.getElem_mem hj)
  · intro hj
    simp [List.getD_eq_getElem?_getD, List.getElem?_eq_none hj]
theorem ltrs_ext {w v : List Int} (hw : ltrs w) (hv : ltrs v) (lw : w.length ≤ 6) (lv : v.length ≤ 6) (h : ∀ j : Nat, j < 6 → w.getD j 32 = v.getD j 32) : w = v := by
  have hlen : w.length = v.length := by
    by_cases g : w.length < v.length
    · have a := (ltrs_getD hw (j := w.length)).2 (Nat.le_refl _)
      have b := (ltrs_getD hv (j := w.length)).1 g
      have := h w.length (by omega)
      omega
    · by_cases g2 : v.length < w.length
      · have a := (ltrs_getD hv (j := v.length)).2 (Nat.le_refl _)
        have b := (ltrs_getD hw (j := v.length)).1 g2
        have := h v.length (by omega)
        omega
      · omega
  refine List.ext_getElem hlen (fun j h1 h2 => ?_)
  have := h j (by omega)
  simpa [List.getD_eq_getElem?_getD, h1, h2] using this
theorem spellsX {F n i d w : Nat} (hF : 1000000 ≤ F) {I : MI} {B : Nat → Int} (h : TpX I B n) (hi : i + d ≤ n) (hw : w < 17) (hl : ltrs (lst B i d)) : f_K_spells F (i : Int) (d : Int) (w : Int) I = some (if keyW.getD w [] = lst B i d then 1 else 0) := by
  have hn := h.1
  obtain ⟨k1, k2, k3⟩ := ch_key w hw
  unfold f_K_spells
  by_cases h6 : (d : Int) ≤ 6
  · rw [if_pos h6]
    have key := wpo_iter (step := fun s : Int => f_K_spells_L11 F (i : Int) (d : Int) (w : Int) s I) (Q := fun e => (e = .inl () ∧ keyW.getD w [] ≠ lst B i d) ∨ (e = .inr () ∧ keyW.getD w [] = lst B i d)) (fun q => ∃ j : Nat, j ≤ 6 ∧ q = (j : Int) ∧ ∀ j' : Nat, j' < j → (lst B i d).getD j' 32 = (keyW.getD w []).getD j' 32) (fun q => 6 - q.toNat) ?_ (F := F) (s := (0 : Int)) (by omega) ⟨0, by omega, rfl, fun j' hj' => absurd hj' (by omega)⟩
    · obtain ⟨e, e1, q⟩ := key
      rw [e1, Option.bind_some]
      rcases q with ⟨q1, q2⟩ | ⟨q1, q2⟩
      · rw [q1, if_neg q2]
      · rw [q1, if_pos q2]
    rintro q ⟨j, h1, h2, h3⟩
    subst h2
    unfold f_K_spells_L11
    refine wpo_i (fun hc => wpo_s ?_) (fun hc => ?_)
    · refine Or.inr ⟨rfl, ?_⟩
      exact (ltrs_ext hl k3 (by rw [lst_len]; omega) k1 (fun j' hj' => h3 j' (by omega))).symm
    have hj : j < 6 := by clear h3; omega
    have gd := lst_getD (B := B) (i := i) (d := d) (j := j)
    have ch := k2 j hj
    have fin : ∀ v : Int, v = (lst B i d).getD j 32 → wpo (f_K_spells_b37in11 F (i : Int) (d : Int) (w : Int) (j : Int) v I) (fun r => Sum.elim (fun e => (e = .inl () ∧ keyW.getD w [] ≠ lst B i d) ∨ (e = .inr () ∧ keyW.getD w [] = lst B i d)) (fun s' : Int => (∃ j : Nat, j ≤ 6 ∧ s' = (j : Int) ∧ ∀ j' : Nat, j' < j → (lst B i d).getD j' 32 = (keyW.getD w []).getD j' 32) ∧ 6 - s'.toNat < 6 - ((j : Int)).toNat) r) := by
      intro v hv
      unfold f_K_spells_b37in11
      rw [w32i (x := (w : Int) * 6) (by clear h3; omega) (by clear h3; omega), w32i (x := (w : Int) * 6 + (j : Int)) (by clear h3; omega) (by clear h3; omega), show (w : Int) * 6 + (j : Int) = ((6 * w + j : Nat) : Int) by clear h3; omega, ch, w32i (by clear h3; omega) (by clear h3; omega)]
      refine wpo_g (by clear h3; omega) (wpo_i (fun hc2 => wpo_s ?_) (fun hc2 => wpo_s (Or.inl ⟨rfl, fun e => hc2 ?_⟩)))
      · refine ⟨⟨j + 1, by clear h3; omega, by clear h3; omega, fun j' hj' => ?_⟩, by clear h3; omega⟩
        by_cases e : j' = j
        · rw [e, ← hv]; exact hc2
        · exact h3 j' (by clear h3; omega)
      · rw [hv, e]
    by_cases g : j < d
    · rw [if_pos g] at gd
      refine wpo_n (by clear h3; omega) ?_
      rw [w32i (by clear h3; omega) (by clear h3; omega), show (i : Int) + (j : Int) = ((i + j : Nat) : Int) by clear h3; omega, byteX h (by clear h3; omega), Option.bind_some]
      exact fin _ gd.symm
    · rw [if_neg g] at gd
      refine wpo_g (by clear h3; omega) (fin 32 gd.symm)
  · rw [if_neg h6, if_neg (fun e => by
      have := congrArg List.length e
      rw [lst_len] at this
      omega)]
theorem wordKindX {F n i d : Nat} (hF : 1000000 ≤ F) {I : MI} {B : Nat → Int} (h : TpX I B n) (hi : i + d ≤ n) (hl : ltrs (lst B i d)) : f_K_wordKind F (i : Int) (d : Int) I = some (match kwd (lst B i d) with | some k => 256 + (k : Int) | none => if d ≤ 8 then 300 else 303) := by
  have hn := h.1
  unfold f_K_wordKind
  have key := wpo_iter (step := fun s : Int => f_K_wordKind_L2 F (i : Int) (d : Int) s I) (Q := fun e => (∃ k : Nat, e = .inl (k : Int) ∧ k < 17 ∧ kwd (lst B i d) = some k) ∨ (e = .inr () ∧ kwd (lst B i d) = none)) (fun q => ∃ j : Nat, j ≤ 17 ∧ q = (j : Int) ∧ ∀ j' : Nat, j' < j → keyW.getD j' [] ≠ lst B i d) (fun q => 17 - q.toNat) ?_ (F := F) (s := (0 : Int)) (by omega) ⟨0, by omega, rfl, fun j' hj' => absurd hj' (by omega)⟩
  · obtain ⟨e, e1, q⟩ := key
    rw [e1, Option.bind_some]
    rcases q with ⟨k, q1, q2, q3⟩ | ⟨q1, q2⟩
    · rw [q1, q3]
      dsimp only
      rw [w32i (by omega) (by omega)]
    · rw [q1, q2]
      dsimp only
      by_cases g : d ≤ 8
      · rw [if_pos (by omega), if_pos g]
      · rw [if_neg (by omega), if_neg g]
  rintro q ⟨j, h1, h2, h3⟩
  subst h2
  unfold f_K_wordKind_L2
  refine wpo_i (fun hc => wpo_s (Or.inr ⟨rfl, ?_⟩)) (fun hc => ?_)
  · cases hk : kwd (lst B i d) with
    | none => rfl
    | some k =>
      obtain ⟨a, b⟩ := kwd_lt hk
      exact absurd b (h3 k (by clear h3; omega))
  have hj : j < 17 := by clear h3; omega
  rw [spellsX hF h hi hj hl, Option.bind_some]
  by_cases g : keyW.getD j [] = lst B i d
  · rw [if_pos g]
    refine wpo_n (by decide) (wpo_s (Or.inl ⟨j, rfl, hj, ?_⟩))
    obtain ⟨b, hb⟩ := fstP_ex (p := fun k => decide (keyW.getD k [] = lst B i d)) (n := 17) (a := 0) (k := j) (by clear h3; omega) (by clear h3; omega) (by simpa using g)
    obtain ⟨_, b1, b2, b3⟩ := fstP_some hb
    have : b = j := by
      by_cases c1 : b < j
      · exact absurd (by simpa using b2) (h3 b c1)
      · by_cases c2 : j < b
        · have h' := b3 j (Nat.zero_le _) c2
          rw [decide_eq_false_iff_not] at h'
          exact absurd g h'
        · clear h3; omega
    unfold kwd
    rw [hb, this]
  · rw [if_neg g, w32i (by clear h3; omega) (by clear h3; omega)]
    refine wpo_g rfl (wpo_s ⟨⟨j + 1, by clear h3; omega, by clear h3; omega, fun j' hj' => ?_⟩, by clear h3; omega⟩)
    by_cases e : j' = j
    · rw [e]; exact g
    · exact h3 j' (by clear h3; omega)
theorem sign_ix : ∀ b : Nat, b < 256 → (ixS (c16 (b : Int)) < 0 ↔ ¬ ((b : Int) = 59 ∨ (b : Int) = 61 ∨ (b : Int) = 43 ∨ (b : Int) = 45 ∨ (b : Int) = 42 ∨ (b : Int) = 47 ∨ (b : Int) = 60 ∨ (b : Int) = 40 ∨ (b : Int) = 41)) := by decide +kernel
theorem soB_1 {b : Int} : soB b = 1 ↔ 97 ≤ b ∧ b ≤ 122 := by
  unfold soB
  by_cases h1 : b = 9 ∨ b = 10 ∨ b = 13 ∨ b = 32
  · rw [if_pos h1]; omega
  · rw [if_neg h1]
    by_cases h2 : 97 ≤ b ∧ b ≤ 122
    · rw [if_pos h2]; exact ⟨fun _ => h2, fun _ => rfl⟩
    · rw [if_neg h2]
      split <;> omega
theorem soB_2 {b : Int} : soB b = 2 ↔ 48 ≤ b ∧ b ≤ 57 := by
  unfold soB
  by_cases h1 : b = 9 ∨ b = 10 ∨ b = 13 ∨ b = 32
  · rw [if_pos h1]; omega
  · rw [if_neg h1]
    by_cases h2 : 97 ≤ b ∧ b ≤ 122
    · rw [if_pos h2]; omega
    · rw [if_neg h2]
      split <;> omega
/-- all bytes of a token are of one sort -/
theorem tok_sort {B : Nat → Int} {n i : Nat} (hi : i < n) : ∀ k, i ≤ k → k < tokE B n i → soB (B k) = soB (B i) := by
  unfold tokE
  by_cases g : soB (B i) = 3
  · rw [if_pos g]
    intro k h1 h2
    have : k = i := by omega
    rw [this]
  · rw [if_neg g]
    intro k h1 h2
    have := (rn_spec (p := soP (soB (B i))) (B := B) (n := n) _ i rfl).2.2.1 k h1 h2
    simpa [soP] using this
theorem lst_ltrs {B : Nat → Int} {i d : Nat} (h : ∀ k, i ≤ k → k < i + d → soB (B k) = 1) : ltrs (lst B i d) := by
  induction d with
  | zero => intro a ha; cases ha
  | succ d ih =>
    intro a ha
    simp only [lst, List.mem_append, List.mem_singleton] at ha
    rcases ha with ha | ha
    · exact ih (fun k h1 h2 => h k h1 (by omega)) a ha
    · rw [ha]; exact soB_1.mp (h _ (by omega) (by omega))
theorem kindX {F n i : Nat} (hF : 1000000 ≤ F) {I : MI} {B : Nat → Int} (h : TpX I B n) (hi : i < n) : f_K_kindOf F (i : Int) ((tokE B n i : Nat) : Int) I = some (kdB B i (tokE B n i)) := by
  have hn := h.1
  obtain ⟨e1, e2⟩ := tokE_bd (B := B) hi
  have hts := tok_sort (B := B) hi
  unfold f_K_kindOf kdB
  rw [byteX h hi, Option.bind_some, sort_eq, Option.bind_some]
  have ed : w32 (((tokE B n i : Nat) : Int) - (i : Int)) = ((tokE B n i - i : Nat) : Int) := by rw [w32i (by omega) (by omega)]; omega
  rw [ed]
  by_cases g1 : soB (B i) = 1
  · rw [if_pos g1, if_pos g1, wordKindX hF h (by omega) (lst_ltrs (fun k h1 h2 => by rw [hts k h1 (by omega)]; exact g1))]
    rfl
  · rw [if_neg g1, if_neg g1]
    by_cases g2 : soB (B i) = 2
    · rw [if_pos g2, if_pos g2]
      by_cases g3 : tokE B n i - i ≤ 4
      · rw [if_pos (by omega), if_pos g3]
      · rw [if_neg (by omega), if_neg g3]
    · rw [if_neg g2, if_neg g2]
      obtain ⟨b1, b2⟩ := h.2.2.2 i hi
      have hs := sign_ix (B i).toNat (by omega)
      rw [show (((B i).toNat : Nat) : Int) = B i by omega] at hs
      by_cases g3 : B i = 59 ∨ B i = 61 ∨ B i = 43 ∨ B i = 45 ∨ B i = 42 ∨ B i = 47 ∨ B i = 60 ∨ B i = 40 ∨ B i = 41
      · rw [if_neg (fun z => hs.mp z g3), if_pos g3]
      · rw [if_pos (hs.mpr g3), if_neg g3]
theorem numB_bd {B : Nat → Int} {i : Nat} : ∀ {d : Nat}, (∀ k, i ≤ k → k < i + d → 48 ≤ B k ∧ B k ≤ 57) → 0 ≤ numB B i d ∧ numB B i d < 10 ^ d
  | 0, _ => by simp [numB]
  | d + 1, h => by
    have ih := numB_bd (B := B) (i := i) (d := d) (fun k h1 h2 => h k h1 (by omega))
    have := h (i + d) (by omega) (by omega)
    show 0 ≤ 10 * numB B i d + B (i + d) - 48 ∧ 10 * numB B i d + B (i + d) - 48 < 10 ^ (d + 1)
    rw [Int.pow_succ]
    omega
theorem numberX {F n i d : Nat} (hF : 1000000 ≤ F) {I : MI} {B : Nat → Int} (h : TpX I B n) (hi : i + d ≤ n) (h4 : d ≤ 4) (hd : ∀ k, i ≤ k → k < i + d → 48 ≤ B k ∧ B k ≤ 57) : f_K_number F (i : Int) ((i + d : Nat) : Int) I = some (numB B i d) := by
  have hn := h.1
  unfold f_K_number
  rw [iter_eq (e := numB B i d) (fun q => ∃ j : Nat, j ≤ d ∧ q.2 = ((i + j : Nat) : Int) ∧ q.1 = numB B i j) (fun q => (i + d) - q.2.toNat) ?_ (by dsimp only; omega) ⟨0, by omega, rfl, rfl⟩]
  · rfl
  rintro ⟨x, y⟩ ⟨j, h1, h2, h3⟩
  dsimp only at h2 h3 ⊢
  subst h2
  unfold f_K_number_L5
  refine wpo_i (fun hc => wpo_s ?_) (fun hc => ?_)
  · have : j = d := by omega
    subst this
    exact h3
  have hj : j < d := by omega
  have hb := hd (i + j) (by omega) (by omega)
  have nb := numB_bd (B := B) (i := i) (d := j) (fun k h1 h2 => hd k h1 (by omega))
  have p4 : (10 : Int) ^ j ≤ 10 ^ 4 := by
    have : j = 0 ∨ j = 1 ∨ j = 2 ∨ j = 3 := by omega
    rcases this with rfl | rfl | rfl | rfl <;> decide
  rw [byteX h (by omega), Option.bind_some, w32i (x := x * 10) (by omega) (by omega), w32i (x := x * 10 + B (i + j)) (by omega) (by omega), w32i (x := x * 10 + B (i + j) - 48) (by omega) (by omega), w32i (by omega) (by omega)]
  refine wpo_s ⟨⟨j + 1, by omega, by dsimp only; omega, ?_⟩, by dsimp only; omega⟩
  dsimp only
  show _ = 10 * numB B i j + B (i + j) - 48
  omega
def SX (I : MI) (B : Nat → Int) (n k : Nat) : Prop := ∀ j, j < k → tokS B n j < n ∧ I 6 j = kdB B (tokS B n j) (tokE B n (tokS B n j)) ∧ I 7 j = ((tokS B n j : Nat) : Int) ∧ I 8 j = ((tokE B n (tokS B n j) - tokS B n j : Nat) : Int) ∧ (I 6 j = 301 → I 9 j = Vt B n j)
/-- the class's tokens: nt of them, and the end -/
def TkX (I : MI) (B : Nat → Int) (n nt : Nat) : Prop := NTk B n nt ∧ SX I B n nt ∧ I 6 nt = 302 ∧ I 7 nt = (n : Int)
theorem scanX {F n : Nat} (hF : 1000000 ≤ F) {I : MI} {B : Nat → Int} (h : TpX I B n) : ∃ (I' : MI) (nt : Nat), f_K_scan F I = some I' ∧ TkX I' B n nt ∧ ∀ a, a ≠ 6 → a ≠ 7 → a ≠ 8 → a ≠ 9 → I' a = I a := by
  have hn := h.1
  have e0 := skipX (F := F) (i := 0) (s := 0) hF h (Nat.zero_le _)
  rw [show (((0 : Nat)) : Int) = 0 from rfl] at e0
  unfold f_K_scan
  rw [e0, Option.bind_some]
  have key := wpo_iter (step := fun s : Int × Int × MI => f_K_scan_L9 F s.1 s.2.1 s.2.2) (Q := fun e => ∃ nt : Nat, e.1 = (nt : Int) ∧ NTk B n nt ∧ SX e.2 B n nt ∧ ∀ a, a ≠ 6 → a ≠ 7 → a ≠ 8 → a ≠ 9 → e.2 a = I a) (fun s => ∃ k : Nat, k ≤ 401 ∧ s.1 = (k : Int) ∧ s.2.1 = ((tokS B n k : Nat) : Int) ∧ SX s.2.2 B n k ∧ ∀ a, a ≠ 6 → a ≠ 7 → a ≠ 8 → a ≠ 9 → s.2.2 a = I a) (fun s => 401 - s.1.toNat) ?_ (F := F) (s := ((0 : Int), ((rn (soP 0) B n 0 : Nat) : Int), I)) (by dsimp only; omega) ⟨0, by omega, rfl, rfl, fun j hj => absurd hj (by omega), fun _ _ _ _ _ => rfl⟩
  · obtain ⟨⟨x, M⟩, e1, nt, q1, q2, q3, q4⟩ := key
    dsimp only at q1 q3 q4
    rw [e1, Option.bind_some, q1]
    have hnt := q2.1
    unfold f_K_put
    dsimp only
    rw [if_pos (by omega), Option.bind_some, Int.toNat_natCast, q4 2 (by decide) (by decide) (by decide) (by decide), h.2.1]
    refine ⟨_, nt, rfl, ⟨q2, fun j hj => ?_, ?_, ?_⟩, fun a b1 b2 b3 b4 => ?_⟩
    · have hne : j ≠ nt := by omega
      obtain ⟨c1, c2, c3, c4, c5⟩ := q3 j hj
      rw [up2_r (show (6 : Nat) ≠ 9 by decide), up2_r (show (6 : Nat) ≠ 8 by decide), up2_r (show (6 : Nat) ≠ 7 by decide), up2_k hne, up2_r (show (7 : Nat) ≠ 9 by decide), up2_r (show (7 : Nat) ≠ 8 by decide), up2_k hne, up2_r (show (7 : Nat) ≠ 6 by decide), up2_r (show (8 : Nat) ≠ 9 by decide), up2_k hne, up2_r (show (8 : Nat) ≠ 7 by decide), up2_r (show (8 : Nat) ≠ 6 by decide), up2_k hne, up2_r (show (9 : Nat) ≠ 8 by decide), up2_r (show (9 : Nat) ≠ 7 by decide), up2_r (show (9 : Nat) ≠ 6 by decide)]
      exact ⟨c1, c2, c3, c4, c5⟩
    · rw [up2_r (by decide), up2_r (by decide), up2_r (by decide), up2_same]
    · rw [up2_r (by decide), up2_r (by decide), up2_same]
    · rw [up2_off b4, up2_off b3, up2_off b2, up2_off b1]; exact q4 a b1 b2 b3 b4
  rintro ⟨x, y, M⟩ ⟨k, p1, p2, p3, p4, p5⟩
  dsimp only at p2 p3 p4 p5 ⊢
  subst p2
  subst p3
  have hT : TpX M B n := tpx_congr h (p5 2 (by decide) (by decide) (by decide) (by decide)) (p5 3 (by decide) (by decide) (by decide) (by decide))
  unfold f_K_scan_L9
  rw [hT.2.1]
  refine wpo_i (fun hc => wpo_s ⟨k, rfl, ⟨p1, fun j hj => (p4 j hj).1, Or.inl (by omega)⟩, p4, p5⟩) (fun hc => wpo_i (fun hc2 => wpo_s ⟨k, rfl, ⟨p1, fun j hj => (p4 j hj).1, Or.inr (by omega)⟩, p4, p5⟩) (fun hc2 => ?_))
  have hs : tokS B n k < n := by omega
  obtain ⟨t1, t2⟩ := tokE_bd (B := B) hs
  have hsort := tok_sort (B := B) hs
  rw [endTX hF hT hs, Option.bind_some, kindX hF hT hs, Option.bind_some, w32i (x := ((tokE B n (tokS B n k) : Nat) : Int) - ((tokS B n k : Nat) : Int)) (by omega) (by omega)]
  unfold f_K_put
  rw [if_pos (by omega), Option.bind_some, Int.toNat_natCast]
  have m6 : ∀ j, up2 (up2 (up2 (up2 M 6 k (kdB B (tokS B n k) (tokE B n (tokS B n k)))) 7 k ((tokS B n k : Nat) : Int)) 8 k (((tokE B n (tokS B n k) : Nat) : Int) - ((tokS B n k : Nat) : Int))) 9 k 0 6 j = if j = k then kdB B (tokS B n k) (tokE B n (tokS B n k)) else M 6 j := fun j => by
    rw [up2_r (by decide), up2_r (by decide), up2_r (by decide)]
    by_cases e : j = k
    · rw [e, up2_same, if_pos rfl]
    · rw [up2_k e, if_neg e]
  have m7 : ∀ j, up2 (up2 (up2 (up2 M 6 k (kdB B (tokS B n k) (tokE B n (tokS B n k)))) 7 k ((tokS B n k : Nat) : Int)) 8 k (((tokE B n (tokS B n k) : Nat) : Int) - ((tokS B n k : Nat) : Int))) 9 k 0 7 j = if j = k then ((tokS B n k : Nat) : Int) else M 7 j := fun j => by
    rw [up2_r (by decide), up2_r (by decide)]
    by_cases e : j = k
    · rw [e, up2_same, if_pos rfl]
    · rw [up2_k e, if_neg e, up2_r (by decide)]
  have m8 : ∀ j, up2 (up2 (up2 (up2 M 6 k (kdB B (tokS B n k) (tokE B n (tokS B n k)))) 7 k ((tokS B n k : Nat) : Int)) 8 k (((tokE B n (tokS B n k) : Nat) : Int) - ((tokS B n k : Nat) : Int))) 9 k 0 8 j = if j = k then ((tokE B n (tokS B n k) - tokS B n k : Nat) : Int) else M 8 j := fun j => by
    rw [up2_r (by decide)]
    by_cases e : j = k
    · rw [e, up2_same, if_pos rfl]; omega
    · rw [up2_k e, if_neg e, up2_r (by decide), up2_r (by decide)]
  have m9 : ∀ j, j ≠ k → up2 (up2 (up2 (up2 M 6 k (kdB B (tokS B n k) (tokE B n (tokS B n k)))) 7 k ((tokS B n k : Nat) : Int)) 8 k (((tokE B n (tokS B n k) : Nat) : Int) - ((tokS B n k : Nat) : Int))) 9 k 0 9 j = M 9 j := fun j e => by
    rw [up2_k e, up2_r (by decide), up2_r (by decide), up2_r (by decide)]
  have mo : ∀ a, a ≠ 6 → a ≠ 7 → a ≠ 8 → a ≠ 9 → up2 (up2 (up2 (up2 M 6 k (kdB B (tokS B n k) (tokE B n (tokS B n k)))) 7 k ((tokS B n k : Nat) : Int)) 8 k (((tokE B n (tokS B n k) : Nat) : Int) - ((tokS B n k : Nat) : Int))) 9 k 0 a = M a := fun a b1 b2 b3 b4 => by
    rw [up2_off b4, up2_off b3, up2_off b2, up2_off b1]
  revert m6 m7 m8 m9 mo
  generalize up2 (up2 (up2 (up2 M 6 k (kdB B (tokS B n k) (tokE B n (tokS B n k)))) 7 k ((tokS B n k : Nat) : Int)) 8 k (((tokE B n (tokS B n k) : Nat) : Int) - ((tokS B n k : Nat) : Int))) 9 k 0 = L
  intro m6 m7 m8 m9 mo
  have fin : ∀ K : MI, (∀ a, a ≠ 9 → K a = L a) → (∀ j, j ≠ k → K 9 j = L 9 j) → (kdB B (tokS B n k) (tokE B n (tokS B n k)) = 301 → K 9 k = Vt B n k) → wpo (f_K_scan_b73in9 F (k : Int) ((tokE B n (tokS B n k) : Nat) : Int) K) (fun r => Sum.elim (fun e : Int × MI => ∃ nt : Nat, e.1 = (nt : Int) ∧ NTk B n nt ∧ SX e.2 B n nt ∧ ∀ a, a ≠ 6 → a ≠ 7 → a ≠ 8 → a ≠ 9 → e.2 a = I a) (fun s' : Int × Int × MI => (∃ k : Nat, k ≤ 401 ∧ s'.1 = (k : Int) ∧ s'.2.1 = ((tokS B n k : Nat) : Int) ∧ SX s'.2.2 B n k ∧ ∀ a, a ≠ 6 → a ≠ 7 → a ≠ 8 → a ≠ 9 → s'.2.2 a = I a) ∧ 401 - s'.1.toNat < 401 - ((k : Int)).toNat) r) := by
    intro K k1 k2 k3
    have hTK : TpX K B n := tpx_congr hT (by rw [k1 2 (by decide), mo 2 (by decide) (by decide) (by decide) (by decide)]) (by rw [k1 3 (by decide), mo 3 (by decide) (by decide) (by decide) (by decide)])
    unfold f_K_scan_b73in9
    rw [skipX hF hTK t2, Option.bind_some, w32i (by omega) (by omega)]
    refine wpo_s ⟨⟨k + 1, by omega, by dsimp only; omega, rfl, fun j hj => ?_, fun a b1 b2 b3 b4 => by dsimp only; rw [k1 a b4, mo a b1 b2 b3 b4]; exact p5 a b1 b2 b3 b4⟩, by dsimp only; omega⟩
    dsimp only
    rw [k1 6 (by decide), k1 7 (by decide), k1 8 (by decide), m6, m7, m8]
    by_cases e : j = k
    · subst e
      rw [if_pos rfl, if_pos rfl, if_pos rfl]
      exact ⟨hs, rfl, rfl, rfl, k3⟩
    · rw [if_neg e, if_neg e, if_neg e, k2 j e, m9 j e]
      exact p4 j (by omega)
  refine wpo_g (by omega) ?_
  rw [m6, if_pos rfl]
  refine wpo_i (fun hc3 => fin L (fun _ _ => rfl) (fun _ _ => rfl) (fun h => absurd h hc3)) (fun hc3 => ?_)
  have h301 : kdB B (tokS B n k) (tokE B n (tokS B n k)) = 301 := by
    by_cases e : kdB B (tokS B n k) (tokE B n (tokS B n k)) = 301
    · exact e
    · exact absurd e hc3
  have hd2 : soB (B (tokS B n k)) = 2 ∧ tokE B n (tokS B n k) - tokS B n k ≤ 4 := by
    unfold kdB at h301
    by_cases g1 : soB (B (tokS B n k)) = 1
    · rw [if_pos g1] at h301
      cases hk : kwd (lst B (tokS B n k) (tokE B n (tokS B n k) - tokS B n k)) with
      | some j =>
        rw [hk] at h301
        have := (kwd_lt hk).1
        dsimp only at h301
        omega
      | none =>
        rw [hk] at h301
        dsimp only at h301
        split at h301 <;> omega
    · rw [if_neg g1] at h301
      by_cases g2 : soB (B (tokS B n k)) = 2
      · rw [if_pos g2] at h301
        refine ⟨g2, ?_⟩
        split at h301
        · assumption
        · omega
      · rw [if_neg g2] at h301
        split at h301 <;> omega
  have hTL : TpX L B n := tpx_congr hT (mo 2 (by decide) (by decide) (by decide) (by decide)) (mo 3 (by decide) (by decide) (by decide) (by decide))
  have en := numberX (F := F) (i := tokS B n k) (d := tokE B n (tokS B n k) - tokS B n k) hF hTL (by omega) hd2.2 (fun j h1 h2 => soB_2.mp (by rw [hsort j h1 (by omega)]; exact hd2.1))
  rw [show tokS B n k + (tokE B n (tokS B n k) - tokS B n k) = tokE B n (tokS B n k) by omega] at en
  rw [en, Option.bind_some]
  exact fin _ (fun a ha => up2_off ha) (fun j hj => up2_k hj) (fun _ => up2_same)
