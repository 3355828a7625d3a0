/-! the class's bed: what is carried off -/
theorem vok_72 {ρ : RIV} {s : BSt} (h : VOK ρ s) {c : Nat} (hc : c < 96) : 0 ≤ s.2 c ∧ s.2 c ≤ 72 := by
  have := vok_h h c hc
  have h2 := cnt_nn (fun k => decide (s.1 k = (c : Int))) 72
  unfold hcn at this
  omega
theorem lose_eq {F b : Nat} (hF : 1000000 ≤ F) {at' hi : Nat} {going dm : Int} {I M : MI} {ρ : RIV} {s : BSt} (hv : VOK ρ s) (hb : BedX I b dm s) (ha : at' < 96) (hg : 0 < going ∧ going ≤ s.2 at') (h1 : hi < 72) (h2 : s.1 hi = (at' : Int)) (h3 : s.1 (72 + hi) = s.2 at' - 1) (r4 : M (b + 4) = I (b + 4)) (r6 : M (b + 6) = I (b + 6)) : ∃ M', f_B_lose F b (hi : Int) going M = some M' ∧ (∀ a, a ≠ b + 6 → M' a = M a) ∧ ∀ m, m < 8 → M' (b + 6) m = cnt (fun j => decide (s.1 (9 * m + j) = -2 ∨ (s.1 (9 * m + j) = (at' : Int) ∧ s.2 at' - going ≤ s.1 (72 + (9 * m + j))))) 9 := by
  have h72 := vok_72 hv ha
  obtain ⟨v1, v2, v3, v4, v5, v6⟩ := hv
  obtain ⟨b1, b2, b3, b4, b5, b6, b7, b8⟩ := hb
  have f1 : ∀ k, k < 72 → s.1 k = (at' : Int) → 0 ≤ s.1 (72 + k) ∧ s.1 (72 + k) < s.2 at' := by
    intro k hk e
    have := v1 k hk
    rw [e] at this
    simp only [Int.toNat_natCast] at this
    omega
  unfold f_B_lose
  have key := wpo_iter (step := fun q : Int × Int × MI => f_B_lose_L5 F b going q.1 q.2.1 q.2.2) (Q := fun M' => (∀ a, a ≠ b + 6 → M' a = M a) ∧ ∀ m, m < 8 → M' (b + 6) m = cnt (fun j => decide (s.1 (9 * m + j) = -2 ∨ (s.1 (9 * m + j) = (at' : Int) ∧ s.2 at' - going ≤ s.1 (72 + (9 * m + j))))) 9) (fun q => 0 ≤ q.2.1 ∧ q.2.1 ≤ going ∧ (q.2.1 < going → ∃ k : Nat, q.1 = (k : Int) ∧ k < 72 ∧ s.1 k = (at' : Int) ∧ s.1 (72 + k) = s.2 at' - 1 - q.2.1) ∧ (∀ a, a ≠ b + 6 → q.2.2 a = M a) ∧ ∀ m, m < 8 → q.2.2 (b + 6) m = cnt (fun j => decide (s.1 (9 * m + j) = -2 ∨ (s.1 (9 * m + j) = (at' : Int) ∧ s.2 at' - q.2.1 ≤ s.1 (72 + (9 * m + j))))) 9) (fun q => (going - q.2.1).toNat) ?_ (F := F) (s := ((hi : Int), 0, M)) (by dsimp only; omega) ?_
  · obtain ⟨M', e, q1, q2⟩ := key
    exact ⟨M', by rw [e]; rfl, q1, q2⟩
  · rintro ⟨x, i, N⟩ ⟨p1, p2, p3, p4, p5⟩
    dsimp only at p1 p2 p3 p4 p5 ⊢
    unfold f_B_lose_L5
    refine wpo_i (fun hc => wpo_s ?_) (fun hc => ?_)
    · have : i = going := by omega
      subst this
      exact ⟨p4, p5⟩
    obtain ⟨k, k1, k2, k3, k4⟩ := p3 (by omega)
    subst k1
    have ed : div32 (k : Int) 9 = ((k / 9 : Nat) : Int) := by rw [div32_eq (by omega) (by omega) (by omega) (by omega)]; omega
    rw [ed]
    refine wpo_n (by omega) (wpo_g (by omega) (wpo_g (by omega) (wpo_s ?_)))
    rw [Int.toNat_natCast, Int.toNat_natCast]
    have hn := cnt_nn (fun j => decide (s.1 (9 * (k / 9) + j) = -2 ∨ (s.1 (9 * (k / 9) + j) = (at' : Int) ∧ s.2 at' - i ≤ s.1 (72 + (9 * (k / 9) + j))))) 9
    rw [← p5 (k / 9) (by omega)] at hn
    rw [w32i (by omega) (by omega), w32i (by omega) (by omega)]
    refine ⟨⟨by dsimp only; omega, by dsimp only; omega, fun hlt => ?_, fun a ha => ?_, fun m hm => ?_⟩, by dsimp only; omega⟩
    · dsimp only at hlt ⊢
      obtain ⟨k', e1, e2, e3⟩ := v3 at' (s.2 at' - 1 - (i + 1)) ha (by omega) (by omega)
      refine ⟨k', ?_, e1, e2, e3⟩
      rw [up2_r (by omega), p4 _ (by omega), r4]
      exact b5 k k' k2 e1 (by omega) (by omega) (by omega)
    · dsimp only
      rw [up2_off ha, p4 a ha]
    · dsimp only
      have split1 : ∀ j, j < 9 → ∀ m, m < 8 → (9 * m + j ≠ k) → (decide (s.1 (9 * m + j) = -2 ∨ (s.1 (9 * m + j) = (at' : Int) ∧ s.2 at' - (i + 1) ≤ s.1 (72 + (9 * m + j)))) = decide (s.1 (9 * m + j) = -2 ∨ (s.1 (9 * m + j) = (at' : Int) ∧ s.2 at' - i ≤ s.1 (72 + (9 * m + j))))) := by
        intro j hj m hm hne
        apply decide_eq_decide.mpr
        constructor
        · rintro (h | ⟨h, h'⟩)
          · exact Or.inl h
          · refine Or.inr ⟨h, ?_⟩
            by_cases e : s.1 (72 + (9 * m + j)) = s.2 at' - 1 - i
            · exact absurd (v2 (9 * m + j) k (by omega) k2 (by omega) (by omega) (by omega)) hne
            · omega
        · rintro (h | ⟨h, h'⟩)
          · exact Or.inl h
          · exact Or.inr ⟨h, by omega⟩
      by_cases e : m = k / 9
      · subst e
        rw [up2_same, p5 _ hm]
        refine (cnt_add (k := k % 9) (by omega) ?_ ?_ (fun j hj hne => split1 j hj _ hm (by omega))).symm
        · rw [show 9 * (k / 9) + k % 9 = k by omega]
          simp
          omega
        · rw [show 9 * (k / 9) + k % 9 = k by omega]
          simp
          omega
      · rw [up2_k e, p5 m hm]
        exact (cnt_congr (fun j hj => split1 j hj m hm (by omega))).symm
  · refine ⟨by dsimp only; omega, by dsimp only; omega, fun _ => ⟨hi, rfl, h1, h2, by dsimp only; omega⟩, fun _ _ => rfl, fun m hm => ?_⟩
    dsimp only
    rw [r6, b8 m hm]
    refine cnt_congr (fun j hj => ?_)
    apply decide_eq_decide.mpr
    constructor
    · exact Or.inl
    · rintro (h | ⟨h, h'⟩)
      · exact h
      · have := f1 _ (by omega) h
        omega
theorem carryOff_eq {F b : Nat} (hF : 1000000 ≤ F) {at' : Nat} {going force dm x3 : Int} {I : MI} {ρ : RIV} {s : BSt} (hρ : RivOK ρ) (hv : VOK ρ s) (hb : BedX I b dm s) (hd : I b 0 + 1 = dm) (hdm : 0 ≤ dm ∧ dm ≤ 1000000) (ha : at' < 96) (hg : 0 < going ∧ going ≤ s.2 at') (hf : 1 ≤ force) (hx3 : x3 = if ((at' % 12 : Nat) : Int) + force < aL ρ then (at' : Int) + force else -2) : ∃ I', f_B_carryOff F b (at' : Int) going x3 I = some I' ∧ BedX I' b dm (carA ρ at' going force s) ∧ ∀ a, a < b + 1 ∨ b + 6 < a → I' a = I a := by
  have h72 := vok_72 hv ha
  obtain ⟨hi, lo, c1, c2, c3, c4, c5, c6, c7, c8⟩ := carry_loop (F := F) (x3 := x3) (x4 := I (b + 2) at') hF hv hb ha hg h72.2
  unfold f_B_carryOff
  rw [if_pos (by omega), Int.toNat_natCast, c8, Option.bind_some, if_pos (by omega), if_pos (by omega), if_pos (by omega)]
  simp (disch := omega) only [up2_same, up2_r, Int.toNat_natCast]
  rw [hb.1 at' ha, c7, hd, w32i (x := s.2 at' - going) (by omega) (by omega), w32i (x := dm) (by omega) (by omega)]
  have hl12 := hρ.1.2
  generalize hM : up2 (up2 (up2 I (b + 2) at' (I (b + 4) lo)) (b + 1) at' (s.2 at' - going)) (b + 3) at' dm = M
  have m1 : ∀ c, M (b + 1) c = if c = at' then s.2 at' - going else I (b + 1) c := by
    intro c; rw [← hM]; unfold up2; simp
  have m2 : ∀ c, M (b + 2) c = if c = at' then I (b + 4) lo else I (b + 2) c := by
    intro c; rw [← hM]; unfold up2; simp
  have m3 : ∀ c, M (b + 3) c = if c = at' then dm else I (b + 3) c := by
    intro c; rw [← hM]; unfold up2; simp
  have m4 : ∀ a, a ≠ b + 1 → a ≠ b + 2 → a ≠ b + 3 → M a = I a := by
    intro a h1 h2 h3; rw [← hM, up2_off h3, up2_off h1, up2_off h2]
  by_cases hif : ((at' % 12 : Nat) : Int) + force < aL ρ
  · rw [if_pos hif] at hx3
    obtain ⟨to, hto⟩ : ∃ to : Nat, (to : Int) = (at' : Int) + force := ⟨((at' : Int) + force).toNat, by omega⟩
    have hto9 : to < 96 := by omega
    have hto72 := vok_72 hv hto9
    have hne : to ≠ at' := by omega
    rw [hx3, ← hto, if_pos (by omega), layOn_eq (by omega) (by omega) (by rw [Int.toNat_natCast, m1, if_neg hne, hb.1 to hto9]; omega)]
    refine ⟨_, rfl, ?_, fun a ha2 => ?_⟩
    · refine bedx_move (to := to) (hi := hi) (lo := lo) hv hb ha hto9 hne hg hif hto hdm.1 c1 c2 c3 c4 c5 c6 (fun c hc => ?_) (fun c => ?_) (fun c => ?_) (fun k => ?_) ?_ ?_
      · simp (disch := omega) only [up2_r, Int.toNat_natCast]
        by_cases e : c = to
        · subst e
          rw [up2_same, if_pos rfl, m1, if_neg hne, hb.1 _ hc]
        · rw [up2_k e, if_neg e]
          simp (disch := omega) only [up2_r]
          rw [m1]
          split
          · rename_i e2; rw [e2]
          · exact hb.1 c hc
      · simp (disch := omega) only [up2_r, Int.toNat_natCast]
        by_cases e : c = to
        · subst e
          rw [up2_same, if_pos rfl]
        · rw [up2_k e, if_neg e]
          simp (disch := omega) only [up2_r]
          rw [m2]
      · simp (disch := omega) only [up2_r, Int.toNat_natCast]
        by_cases e : c = to
        · subst e
          rw [up2_same, if_pos (Or.inl rfl)]
        · rw [up2_k e]
          simp (disch := omega) only [up2_r]
          rw [m3]
          by_cases e2 : c = at'
          · rw [if_pos e2, if_pos (Or.inr e2)]
          · rw [if_neg e2, if_neg (by omega)]
      · simp (disch := omega) only [up2_r, Int.toNat_natCast]
        by_cases e : k = lo
        · subst e
          rw [up2_same, if_pos rfl, m2, if_neg hne]
        · rw [up2_k e, if_neg e, m4 _ (by omega) (by omega) (by omega)]
      · simp (disch := omega) only [up2_off]
        exact m4 _ (by omega) (by omega) (by omega)
      · simp (disch := omega) only [up2_off]
        exact m4 _ (by omega) (by omega) (by omega)
    · simp (disch := omega) only [up2_off]
      exact m4 _ (by omega) (by omega) (by omega)
  · rw [if_neg hif] at hx3
    rw [if_neg (by omega)]
    obtain ⟨M', e, q1, q2⟩ := lose_eq (F := F) (M := M) hF hv hb ha hg c1 c3 c5 (m4 _ (by omega) (by omega) (by omega)) (m4 _ (by omega) (by omega) (by omega))
    rw [e]
    refine ⟨M', rfl, ?_, fun a ha2 => (q1 a (by omega)).trans (m4 a (by omega) (by omega) (by omega))⟩
    refine bedx_lost (lo := lo) hv hb ha hg (by omega) hdm.1 c2 c4 c6 (fun c hc => ?_) (fun c => ?_) (fun c => ?_) ?_ ?_ q2
    · rw [q1 _ (by omega), m1]
      split
      · rename_i e2; rw [e2]
      · exact hb.1 c hc
    · rw [q1 _ (by omega), m2]
    · rw [q1 _ (by omega), m3]
    · rw [q1 _ (by omega)]; exact m4 _ (by omega) (by omega) (by omega)
    · rw [q1 _ (by omega)]; exact m4 _ (by omega) (by omega) (by omega)
