/-! questions: cell, stone, leaver, count -/
theorem isStep_eq {F b rv c : Nat} {I : MI} {ρ : RIV} {s : BSt} (hr : RivX I rv ρ) (h1 : I (b + 1) c = s.2 c) (hc : c < 96) : f_B_isStep F b rv (c : Int) I = some (if s.2 c < dep ρ c then 0 else 1) := by
  unfold f_B_isStep
  rw [if_pos (by omega), Int.toNat_natCast, h1, hr.2.2.2.2.2.1 c hc]
  split <;> rfl
theorem slip_eq {F b rv c : Nat} (hF : 1000000 ≤ F) {I : MI} {ρ : RIV} {s : BSt} (hr : RivX I rv ρ) (hq : BedQ I b ρ s) (hd : s.1 240 ≤ 900000) (hc : c < 96) : ∃ I', f_B_slippery F b rv (c : Int) I = some (clA (teA ρ ρ.2.2 c 0 s) 100, I') ∧ ∀ a, a ≠ rv + 17 → a ≠ rv + 18 → I' a = I a := by
  have h0 := hq.1.2.2.2.2.2
  unfold f_B_slippery f_B_mossAt
  rw [if_pos (by omega), mossOn_eq hq.1 hq.2.1 hc hq.2.2 ⟨h0, by omega⟩, Option.bind_some, Option.bind_some, Int.toNat_natCast, hq.2.1.1 c hc, hr.2.2.2.2.2.1 c hc]
  obtain ⟨I', e, fr⟩ := X_tells (F := F) hF hr.2.2.2.2.2.2.2.2.2.2 (s.2 c) (dep ρ c) 0 (s.1 (144 + c)) (div32 (c : Int) 12) (rem32 (c : Int) 12)
  rw [e, Option.bind_some]
  refine ⟨I', ?_, fun a b1 b2 => fr a (by omega) (by omega)⟩
  dsimp only
  rw [div32_eq (by omega) (by omega) (by omega) (by omega), rem32_eq (by omega) (by omega) (by omega) (by omega)]
  have et : evalL (seeL (s.2 c) (dep ρ c) 0 (s.1 (144 + c)) ((c : Int) / 12) ((c : Int) % 12)) ρ.2.2.1 ρ.2.2.2 = teA ρ ρ.2.2 c 0 s := by
    unfold teA
    rfl
  rw [et]
  unfold clA
  generalize teA ρ ρ.2.2 c 0 s = w
  congr 2
  split
  · omega
  · split <;> omega
theorem X_owner {F b c : Nat} (hF : 1000000 ≤ F) {i : Int} {I : MI} {ρ : RIV} {s : BSt} (hv : VOK ρ s) {dm : Int} (hb : BedX I b dm s) (hc : c < 96) (hi : 0 ≤ i ∧ i < s.2 c) {k : Nat} (hk : k < 72) (h1 : s.1 k = (c : Int)) (h2 : s.1 (72 + k) = i) : f_B_ownerAt F b (c : Int) i I = some ((k / 9 : Nat) : Int) := by
  have h72 := vok_72 hv hc
  obtain ⟨v1, v2, v3, v4, v5, v6⟩ := hv
  obtain ⟨b1, b2, b3, b4, b5, b6, b7, b8⟩ := hb
  unfold f_B_ownerAt
  rw [if_pos (by omega), Int.toNat_natCast, b1 c hc, w32i (by omega) (by omega)]
  rw [iter_eq (e := (k : Int)) (fun q => i ≤ q.2 ∧ q.2 < s.2 c ∧ ∃ k' : Nat, k' < 72 ∧ q.1 = (k' : Int) ∧ s.1 k' = (c : Int) ∧ s.1 (72 + k') = q.2) (fun q => (q.2 - i).toNat) ?_ (by dsimp only; omega) ?_]
  · rw [Option.bind_some, if_pos (by omega), div32_eq (by omega) (by omega) (by omega) (by omega)]
    rfl
  · rintro ⟨x, l⟩ ⟨q1, q2, k', q3, q4, q5, q6⟩
    dsimp only at q1 q2 q4 q6 ⊢
    subst q4
    unfold f_B_ownerAt_L17
    refine wpo_i (fun hc2 => wpo_s ?_) (fun hc2 => wpo_n (by omega) (wpo_g (by omega) (wpo_s ?_)))
    · show (k' : Int) = (k : Int)
      rw [v2 k' k q3 hk (by omega) (by omega) (by omega)]
    · rw [Int.toNat_natCast, w32i (by omega) (by omega)]
      obtain ⟨k2, e1, e2, e3⟩ := v3 c (l - 1) hc (by omega) (by omega)
      refine ⟨⟨by dsimp only; omega, by dsimp only; omega, k2, e1, ?_, e2, by dsimp only; omega⟩, by dsimp only; omega⟩
      exact b5 k' k2 q3 e1 (by omega) (by omega) (by omega)
  · obtain ⟨k2, e1, e2, e3⟩ := v3 c (s.2 c - 1) hc (by omega) (by omega)
    refine ⟨by dsimp only; omega, by dsimp only; omega, k2, e1, ?_, e2, e3⟩
    have := b3 k2 e1 (by omega) (by rw [e3, e2]; simp)
    rw [e2] at this
    simpa using this
theorem M_owner {F c : Nat} (hF : 1000000 ≤ F) {i : Int} {I J : MI} {ρ : RIV} {s : BSt} (hv : VOK ρ s) (hs : MSt I s) (hc : c < 96) {k : Nat} (hk : k < 72) (h1 : s.1 k = (c : Int)) (h2 : s.1 (72 + k) = i) : f_M_ownerAt F (c : Int) i I J = some ((k / 9 : Nat) : Int) := by
  unfold f_M_ownerAt
  rw [iter_eq (s := (0 : Int)) (e := .inl (k : Int)) (fun q => ∃ j : Nat, q = (j : Int) ∧ j ≤ k) (fun q => ((k : Int) - q).toNat) ?_ (by omega) ⟨0, rfl, by omega⟩]
  · show some (div32 (k : Int) 9) = _
    rw [div32_eq (by omega) (by omega) (by omega) (by omega)]
    rfl
  rintro q ⟨j, hq, hj⟩
  subst hq
  unfold f_M_ownerAt_L2
  refine wpo_n (by omega) (wpo_g (by omega) ?_)
  rw [Int.toNat_natCast, hs.1 j (by omega), w32i (x := (j : Int) + 1) (by omega) (by omega), w32i (x := 72 + (j : Int)) (by omega) (by omega), show (72 + (j : Int)).toNat = 72 + j by omega, hs.1 (72 + j) (by omega)]
  refine wpo_i (fun hc2 => wpo_s ?_) (fun hc2 => wpo_g (by omega) (wpo_i (fun hc3 => wpo_s ?_) (fun hc3 => wpo_s ?_)))
  · have : j ≠ k := by intro e; rw [e] at hc2; exact hc2 h1
    exact ⟨⟨j + 1, by omega, by omega⟩, by omega⟩
  · have : j ≠ k := by intro e; rw [e] at hc3; exact hc3 h2
    exact ⟨⟨j + 1, by omega, by omega⟩, by omega⟩
  · show Sum.inl (j : Int) = Sum.inl (k : Int)
    have : j = k := hv.2.1 j k (by omega) hk (by omega) (by omega) (by omega)
    rw [this]
theorem M_isStep {F lv c : Nat} {I J : MI} {ρ : RIV} {s : BSt} (hr : RivM I lv ρ) (hl : I 296 18 = (lv : Int)) (h : I 333 c = s.2 c) (hc : c < 96) : f_M_isStep F (c : Int) I J = some (if s.2 c < dep ρ c then 0 else 1) := by
  unfold f_M_isStep
  rw [if_pos (by omega), M_deep hr hl hc, Option.bind_some, Int.toNat_natCast, h]
  split <;> rfl
/-- the top stone, or one at a level: whose -/
theorem stone_at {ρ : RIV} {s : BSt} (hv : VOK ρ s) {c : Nat} {i : Int} (hc : c < 96) (hi : 0 ≤ i ∧ i < s.2 c) : ∃ k, k < 72 ∧ s.1 k = (c : Int) ∧ s.1 (72 + k) = i := hv.2.2.1 c i hc hi.1 hi.2
theorem ag_cell (j : Nat) (hj : j < 512) : ag_4 (InvQ j) (InvQ (j + 1)) := by
  intro I J rv sp x1 x2 x3 hrr hss hI _ _ _
  have hF := FU_big
  have hI0 := hI
  obtain ⟨ρ, s, lv, hp, hρ, hx, hm, hl, hb, hn, hd, ht, hpl, hpa, hs, htl, hk⟩ := hI
  have hp' := hp
  unfold isPair at hp'
  have hL := hρ.1
  have hW := hρ.2.1
  have hd0 := hb.1.2.2.2.2.2
  by_cases hcell : 0 ≤ x1 ∧ x1 < aL ρ ∧ 0 ≤ x2 ∧ x2 < aW ρ
  · obtain ⟨x, rfl⟩ : ∃ x : Nat, x1 = (x : Int) := ⟨x1.toNat, by omega⟩
    obtain ⟨y, rfl⟩ : ∃ y : Nat, x2 = (y : Int) := ⟨x2.toNat, by omega⟩
    have hc9 : 12 * y + x < 96 := by omega
    have h72 := vok_72 hb.1 hc9
    -- all in one: what the class answers, what the model answers on any memory alike
    have ex0 : f_X_cell FU (x : Int) (y : Int) x3 rv I = (fun q5 => (if x3 = 0 then (if 0 ≤ q5 ∧ q5 < 96 then (some ((I (49 + 1) (q5).toNat), I)) else none) else (if x3 = 1 then (if 0 ≤ q5 ∧ q5 < 96 then (some ((I (rv + 1) (q5).toNat), I)) else none) else (if x3 = 2 then ((f_B_mossAt FU 49 q5 I).bind fun q15 => (some (q15, I))) else (if x3 = 3 then ((f_B_isStep FU 49 rv q5 I).bind fun q19 => (if q19 = 0 then (some (0, I)) else (some (1, I)))) else (if x3 = 4 then ((f_B_isStep FU 49 rv q5 I).bind fun q24 => (if q24 = 0 then (some ((-2), I)) else ((f_B_slippery FU 49 rv q5 I).bind fun q28 => (some (q28.1, q28.2))))) else (if x3 = 5 then (if 0 ≤ q5 ∧ q5 < 96 then (if (I (49 + 1) (q5).toNat) ≤ 0 then (some ((-2), I)) else ((f_B_ownerAt FU 49 q5 (w32 ((I (49 + 1) (q5).toNat) - 1)) I).bind fun q35 => (some (q35, I)))) else none) else (some ((-1), I)))))))) : Int → Option (Int × MI)) ((12 * y + x : Nat) : Int) := by
      unfold f_X_cell
      rw [has_t (by rw [hx.1, hx.2.1]; exact hcell), Option.bind_some, if_pos (by decide), cnum_eq (by omega) (by omega), Option.bind_some]
    dsimp only at ex0
    generalize hC : 12 * y + x = c at hc9 h72 ex0
    have em0 : ∀ M : MI, (∀ a, 240 ≤ a → M a = I a) → ∃ N, MSt N s ∧ (∀ a, a ≠ 332 → a ≠ 333 → N a = M a) ∧ f_M_cell FU (x : Int) (y : Int) x3 M J = (if x3 = 0 then some (s.2 c, N) else if x3 = 1 then some (dep ρ c, N) else if x3 = 2 then some (s.1 (144 + c), N) else if x3 = 3 then some (if s.2 c < dep ρ c then 0 else 1, N) else if x3 = 4 then (if s.2 c < dep ρ c then some (-2, N) else f_M_tellsBy FU 1 (c : Int) 0 100 N J) else if x3 = 5 then (if s.2 c = 0 then some (-2, N) else (f_M_ownerAt FU (c : Int) (s.2 c - 1) N J).bind fun q => some (q, N)) else some (-1, N)) := by
      intro M hM
      obtain ⟨N, c1, c2, c3⟩ := M_copyq (F := FU) (I := M) (J := J) hF hb.1 (fun k hk => by rw [hM 331 (by omega)]; exact hn k hk)
      have hmM : RivM M lv ρ := rivm_congr hm (fun a b1 b2 => hM a (by omega))
      have hlM : M 296 18 = (lv : Int) := by rw [hM 296 (by omega)]; exact hl
      have hmN : RivM N lv ρ := rivm_congr hmM (fun a b1 b2 => c3 a (by omega) (by omega))
      have hlN : N 296 18 = (lv : Int) := by rw [c3 296 (by decide) (by decide)]; exact hlM
      refine ⟨N, c2, c3, ?_⟩
      have ew : w32 (w32 (12 * (y : Int)) + (x : Int)) = (c : Int) := by
        rw [w32i (x := 12 * (y : Int)) (by omega) (by omega), w32i (by omega) (by omega)]; omega
      have ew2 : w32 (144 + (c : Int)) = ((144 + c : Nat) : Int) := by rw [w32i (by omega) (by omega)]; omega
      unfold f_M_cell
      rw [M_isCell hρ hmM hlM, Option.bind_some, if_pos hcell, if_pos (by decide), c1, Option.bind_some, ew, ew2, if_pos (show (0 : Int) ≤ (c : Int) ∧ (c : Int) < 96 by omega), if_pos (show (0 : Int) ≤ ((144 + c : Nat) : Int) ∧ ((144 + c : Nat) : Int) < 250 by omega), Int.toNat_natCast, Int.toNat_natCast, c2.2 c hc9, c2.1 (144 + c) (by omega), M_deep hmN hlN hc9, M_isStep hmN hlN (c2.2 c hc9) hc9]
      by_cases g0 : x3 = 0
      · rw [if_pos g0, if_pos g0]
      rw [if_neg g0, if_neg g0]
      by_cases g1 : x3 = 1
      · rw [if_pos g1, if_pos g1]; rfl
      rw [if_neg g1, if_neg g1]
      by_cases g2 : x3 = 2
      · rw [if_pos g2, if_pos g2]
      rw [if_neg g2, if_neg g2]
      by_cases g3 : x3 = 3
      · rw [if_pos g3, if_pos g3, Option.bind_some]
        by_cases g : s.2 c < dep ρ c
        · rw [if_pos g, if_pos rfl]
        · rw [if_neg g, if_neg (by decide)]
      rw [if_neg g3, if_neg g3]
      by_cases g4 : x3 = 4
      · rw [if_pos g4, if_pos g4, Option.bind_some]
        by_cases g : s.2 c < dep ρ c
        · rw [if_pos g, if_pos rfl, if_pos g]
        · rw [if_neg g, if_neg (by decide), if_neg g]
          cases f_M_tellsBy FU 1 (c : Int) 0 100 N J <;> rfl
      rw [if_neg g4, if_neg g4]
      by_cases g5 : x3 = 5
      · rw [if_pos g5, if_pos g5, w32i (by omega) (by omega)]
        by_cases g : s.2 c = 0
        · rw [if_pos (show (0 : Int) ≤ (c : Int) ∧ (c : Int) < 96 by omega), if_neg (fun h => h g), if_pos g]
        · rw [if_pos (show (0 : Int) ≤ (c : Int) ∧ (c : Int) < 96 by omega), if_pos g, if_neg g]
      · rw [if_neg g5, if_neg g5]
    have plain : ∀ r : Int, f_X_cell FU (x : Int) (y : Int) x3 rv I = some (r, I) → (∃ N, (∀ a, a ≠ 332 → a ≠ 333 → N a = I a) ∧ f_M_cell FU (x : Int) (y : Int) x3 I J = some (r, N)) → ∃ rx rm, f_X_cell FU (x : Int) (y : Int) x3 rv I = some rx ∧ f_M_cell FU (x : Int) (y : Int) x3 rx.2 J = some rm ∧ rx.1 = rm.1 ∧ InvQ (j + 1) rm.2 J rv sp ∧ isRiv rv ∧ isRiv sp := by
      intro r e1 ⟨N, fr, e2⟩
      exact ag_mk (fm := fun M => f_M_cell FU (x : Int) (y : Int) x3 M J) (V := fun M => InvQ (j + 1) M J rv sp) e1 e2 (invq_keep hI0 frX_refl (fr32_Q fr)) hrr hss
    obtain ⟨N, n1, n2, n3⟩ := em0 I (fun _ _ => rfl)
    have h50 : I (49 + 1) c = s.2 c := hb.2.1.1 c hc9
    rw [if_pos (show (0 : Int) ≤ (c : Int) ∧ (c : Int) < 96 by omega), if_pos (show (0 : Int) ≤ (c : Int) ∧ (c : Int) < 96 by omega), if_pos (show (0 : Int) ≤ (c : Int) ∧ (c : Int) < 96 by omega), Int.toNat_natCast, h50, hx.2.2.2.2.2.1 c hc9, isStep_eq hx h50 hc9] at ex0
    by_cases g0 : x3 = 0
    · rw [if_pos g0] at ex0 n3
      exact plain _ ex0 ⟨N, n2, n3⟩
    rw [if_neg g0] at ex0 n3
    by_cases g1 : x3 = 1
    · rw [if_pos g1] at ex0 n3
      exact plain _ ex0 ⟨N, n2, n3⟩
    rw [if_neg g1] at ex0 n3
    by_cases g2 : x3 = 2
    · rw [if_pos g2] at ex0 n3
      unfold f_B_mossAt at ex0
      rw [mossOn_eq hb.1 hb.2.1 hc9 hb.2.2 ⟨hd0, by omega⟩] at ex0
      exact plain _ ex0 ⟨N, n2, n3⟩
    rw [if_neg g2] at ex0 n3
    by_cases g3 : x3 = 3
    · rw [if_pos g3] at ex0 n3
      rw [Option.bind_some] at ex0
      by_cases g : s.2 c < dep ρ c
      · rw [if_pos g, if_pos rfl] at ex0
        rw [if_pos g] at n3
        exact plain _ ex0 ⟨N, n2, n3⟩
      · rw [if_neg g, if_neg (by decide)] at ex0
        rw [if_neg g] at n3
        exact plain _ ex0 ⟨N, n2, n3⟩
    rw [if_neg g3] at ex0 n3
    by_cases g4 : x3 = 4
    · rw [if_pos g4] at ex0 n3
      rw [Option.bind_some] at ex0
      by_cases g : s.2 c < dep ρ c
      · rw [if_pos g, if_pos rfl] at ex0
        rw [if_pos g] at n3
        exact plain _ ex0 ⟨N, n2, n3⟩
      · rw [if_neg g, if_neg (by decide)] at ex0
        obtain ⟨I1, e1, fr1⟩ := slip_eq (F := FU) hF hx hb (by omega) hc9
        rw [e1] at ex0
        have frx : FrX rv I I1 := fun a ha => fr1 a (by unfold scrX at ha; omega) (by unfold scrX at ha; omega)
        obtain ⟨N', m1, m2, m3⟩ := em0 I1 (fun a ha => fr1 a (by omega) (by omega))
        rw [if_neg g0, if_neg g1, if_neg g2, if_neg g3, if_pos g4, if_neg g] at m3
        have hmN : RivM N' lv ρ := rivm_congr hm (fun a b1 b2 => by rw [m2 a (by omega) (by omega), fr1 a (by omega) (by omega)])
        have hlN : N' 296 18 = (lv : Int) := by rw [m2 296 (by decide) (by decide), fr1 296 (by omega) (by omega)]; exact hl
        obtain ⟨N2, e2, _, fr2, _, _⟩ := M_tells (F := FU) (J := J) (k := 1) (c := c) (force := 0) (most := 100) hF hmN hlN m1 (Or.inr ⟨rfl, rfl⟩) hc9 (by omega)
        rw [show ((1 : Nat) : Int) = 1 from rfl] at e2
        rw [e2] at m3
        exact ag_mk (fm := fun M => f_M_cell FU (x : Int) (y : Int) x3 M J) (V := fun M => InvQ (j + 1) M J rv sp) ex0 m3 (invq_keep hI0 frx (frQ_trans (fr32_Q m2) (frM_Q fr2))) hrr hss
    rw [if_neg g4] at ex0 n3
    by_cases g5 : x3 = 5
    · rw [if_pos g5] at ex0 n3
      by_cases g : s.2 c = 0
      · rw [if_pos (by omega)] at ex0
        rw [if_pos g] at n3
        exact plain _ ex0 ⟨N, n2, n3⟩
      · rw [if_neg (by omega), w32i (by omega) (by omega)] at ex0
        rw [if_neg g] at n3
        obtain ⟨k, k1, k2, k3⟩ := stone_at hb.1 hc9 (i := s.2 c - 1) (by omega)
        rw [X_owner hF hb.1 hb.2.1 hc9 (by omega) k1 k2 k3, Option.bind_some] at ex0
        rw [M_owner hF hb.1 n1 hc9 k1 k2 k3, Option.bind_some] at n3
        exact plain _ ex0 ⟨N, n2, n3⟩
    · rw [if_neg g5] at ex0 n3
      exact plain _ ex0 ⟨N, n2, n3⟩
  · refine ag_mk (r := -1) (M := I) (N := I) (fm := fun M => f_M_cell FU x1 x2 x3 M J) (V := fun M => InvQ (j + 1) M J rv sp) ?_ ?_ (invq_more j I J rv sp hI0) hrr hss
    · unfold f_X_cell
      rw [has_f (by rw [hx.1, hx.2.1]; exact hcell), Option.bind_some, if_neg (by decide)]
    · show f_M_cell FU x1 x2 x3 I J = _
      unfold f_M_cell
      rw [M_isCell hρ hm hl, Option.bind_some, if_neg hcell, if_neg (by decide)]
theorem ag_mk2 {fx : Option Int} {fm : Option (Int × MI)} {V : MI → Prop} {A B : Prop} {r : Int} {N : MI} (h1 : fx = some r) (h2 : fm = some (r, N)) (h3 : V N) (a : A) (b : B) : ∃ rx rm, fx = some rx ∧ fm = some rm ∧ rx = rm.1 ∧ V rm.2 ∧ A ∧ B := ⟨r, (r, N), h1, h2, rfl, h3, a, b⟩
theorem ag_stone (j : Nat) (hj : j < 512) : ag_5 (InvQ j) (InvQ (j + 1)) := by
  intro I J rv sp x1 x2 x3 hrr hss hI _ _ _
  have hF := FU_big
  have hI0 := hI
  obtain ⟨ρ, s, lv, hp, hρ, hx, hm, hl, hb, hn, hd, ht, hpl, hpa, hs, htl, hk⟩ := hI
  have hL := hρ.1
  have hW := hρ.2.1
  by_cases hcell : 0 ≤ x1 ∧ x1 < aL ρ ∧ 0 ≤ x2 ∧ x2 < aW ρ
  · obtain ⟨x, rfl⟩ : ∃ x : Nat, x1 = (x : Int) := ⟨x1.toNat, by omega⟩
    obtain ⟨y, rfl⟩ : ∃ y : Nat, x2 = (y : Int) := ⟨x2.toNat, by omega⟩
    have hc9 : 12 * y + x < 96 := by omega
    have h72 := vok_72 hb.1 hc9
    have h50 : I (49 + 1) (12 * y + x) = s.2 (12 * y + x) := hb.2.1.1 _ hc9
    obtain ⟨N, c1, c2, c3⟩ := M_copyq (F := FU) (I := I) (J := J) hF hb.1 hn
    have ew : w32 (w32 (12 * (y : Int)) + (x : Int)) = ((12 * y + x : Nat) : Int) := by
      rw [w32i (x := 12 * (y : Int)) (by omega) (by omega), w32i (by omega) (by omega)]; omega
    by_cases hi : 0 ≤ x3 ∧ x3 < s.2 (12 * y + x)
    · obtain ⟨k, k1, k2, k3⟩ := stone_at hb.1 hc9 hi
      refine ag_mk2 (r := ((k / 9 : Nat) : Int)) (N := N) (V := fun M => InvQ (j + 1) M J rv sp) ?_ ?_ (invq_keep hI0 frX_refl (fr32_Q c3)) hrr hss
      · unfold f_X_stone
        rw [has_t (by rw [hx.1, hx.2.1]; exact hcell), Option.bind_some, if_pos (by decide), cnum_eq (by omega) (by omega), Option.bind_some, if_neg (by omega), if_pos (by omega), Int.toNat_natCast, h50, if_pos hi.2, X_owner hF hb.1 hb.2.1 hc9 hi k1 k2 k3]
        rfl
      · unfold f_M_stone
        rw [M_isCell hρ hm hl, Option.bind_some, if_pos hcell, if_pos (by decide), c1, Option.bind_some, ew, if_pos (by omega), Int.toNat_natCast, c2.2 _ hc9, M_in, w32i (by omega) (by omega), if_pos (by omega), Option.bind_some, if_neg (by decide), M_owner hF hb.1 c2 hc9 k1 k2 k3]
        rfl
    · refine ag_mk2 (r := -1) (N := N) (V := fun M => InvQ (j + 1) M J rv sp) ?_ ?_ (invq_keep hI0 frX_refl (fr32_Q c3)) hrr hss
      · unfold f_X_stone
        rw [has_t (by rw [hx.1, hx.2.1]; exact hcell), Option.bind_some, if_pos (by decide), cnum_eq (by omega) (by omega), Option.bind_some]
        by_cases h3 : x3 < 0
        · rw [if_pos h3]
        · rw [if_neg h3, if_pos (by omega), Int.toNat_natCast, h50, if_neg (by omega)]
      · unfold f_M_stone
        rw [M_isCell hρ hm hl, Option.bind_some, if_pos hcell, if_pos (by decide), c1, Option.bind_some, ew, if_pos (by omega), Int.toNat_natCast, c2.2 _ hc9, M_in, w32i (by omega) (by omega), if_neg (by omega), Option.bind_some, if_pos rfl]
  · refine ag_mk2 (r := -1) (N := I) (V := fun M => InvQ (j + 1) M J rv sp) ?_ ?_ (invq_more j I J rv sp hI0) hrr hss
    · unfold f_X_stone
      rw [has_f (by rw [hx.1, hx.2.1]; exact hcell), Option.bind_some, if_neg (by decide)]
    · unfold f_M_stone
      rw [M_isCell hρ hm hl, Option.bind_some, if_neg hcell, if_neg (by decide)]
theorem cnt_split {p q r : Nat → Bool} {n : Nat} (h : ∀ k, k < n → ((if p k then 1 else 0 : Int) = (if q k then 1 else 0) + (if r k then 1 else 0))) : cnt p n = cnt q n + cnt r n := by
  induction n with
  | zero => rfl
  | succ n ih => rw [cnt_s, cnt_s, cnt_s, ih (fun k hk => h k (by omega)), h n (by omega)]; omega
theorem thA_split {ρ : RIV} {s : BSt} (hv : VOK ρ s) {m : Nat} (hm : m < 8) : thA s m = cnt (fun j => decide (0 ≤ s.1 (9 * m + j))) 9 + cnt (fun j => decide (s.1 (9 * m + j) = -2)) 9 := by
  unfold thA
  refine cnt_split (fun k hk => ?_)
  simp only [decide_eq_true_eq]
  rcases hv.1 (9 * m + k) (by omega) with h | h | h
  · rw [if_neg (by omega), if_neg (by omega), if_neg (by omega)]; rfl
  · rw [if_pos (by omega), if_neg (by omega), if_pos (by omega)]; rfl
  · rw [if_pos (by omega), if_pos (by omega), if_neg (by omega)]; rfl
theorem ag_leaver (j : Nat) (hj : j < 512) : ag_6 (InvQ j) (InvQ (j + 1)) := by
  intro I J rv sp x1 x2 hrr hss hI _ _
  have hF := FU_big
  have hI0 := hI
  obtain ⟨ρ, s, lv, hp, hρ, hx, hm, hl, hb, hn, hd, ht, hpl, hpa, hs, htl, hk⟩ := hI
  have h8 := hρ.2.2.2.1
  have hlv2 := hm.1
  by_cases hlv : 0 ≤ x1 ∧ x1 < aN ρ
  · obtain ⟨m, rfl⟩ : ∃ m : Nat, x1 = (m : Int) := ⟨x1.toNat, by omega⟩
    obtain ⟨N, c1, c2, c3⟩ := M_copyq (F := FU) (I := I) (J := J) hF hb.1 hn
    have hmN : RivM N lv ρ := rivm_congr hm (fun a b1 b2 => c3 a (by omega) (by omega))
    have hlN : N 296 18 = (lv : Int) := by rw [c3 296 (by decide) (by decide)]; exact hl
    have hth := hb.2.1.2.2.2.2.2.2.1 m (by omega)
    have hlo := hb.2.1.2.2.2.2.2.2.2 m (by omega)
    have hsp := thA_split hb.1 (m := m) (by omega)
    have hA := cnt_nn (fun j => decide (0 ≤ s.1 (9 * m + j))) 9
    have hB := cnt_nn (fun j => decide (s.1 (9 * m + j) = -2)) 9
    have hloop : iter (fun q : Int × Int × Int => f_M_leaver_L22 FU (m : Int) x2 q.1 q.2.1 q.2.2 N J) FU (0, 0, 0) = some (cnt (fun j => decide (0 ≤ s.1 (9 * m + j))) 9, cnt (fun j => decide (s.1 (9 * m + j) = -2)) 9) := by
      refine iter_eq (fun q => ∃ i : Nat, i ≤ 9 ∧ q.2.2 = (i : Int) ∧ q.1 = cnt (fun j => decide (0 ≤ s.1 (9 * m + j))) i ∧ q.2.1 = cnt (fun j => decide (s.1 (9 * m + j) = -2)) i) (fun q => 9 - q.2.2.toNat) ?_ (by dsimp only; omega) ⟨0, by omega, rfl, rfl, rfl⟩
      rintro ⟨a, b, c⟩ ⟨i, h1, h2, h3, h4⟩
      dsimp only at h2 h3 h4 ⊢
      subst h2
      unfold f_M_leaver_L22
      refine wpo_i (fun hc => wpo_s ?_) (fun hc => ?_)
      · have : i = 9 := by omega
        subst this
        show (a, b) = _
        rw [h3, h4]
      have hi9 : i < 9 := by omega
      have nA := cnt_nn (fun j => decide (0 ≤ s.1 (9 * m + j))) i
      have nB := cnt_nn (fun j => decide (s.1 (9 * m + j) = -2)) i
      rw [w32i (x := 9 * (m : Int)) (by omega) (by omega), w32i (x := 9 * (m : Int) + (i : Int)) (by omega) (by omega)]
      refine wpo_g (by omega) ?_
      unfold f_M_leaver_b47in22
      rw [w32i (x := 9 * (m : Int)) (by omega) (by omega), w32i (x := 9 * (m : Int) + (i : Int)) (by omega) (by omega), show (9 * (m : Int) + (i : Int)).toNat = 9 * m + i by omega, c2.1 _ (by omega), w32i (x := a + 1) (by omega) (by omega), w32i (x := b + 1) (by omega) (by omega), w32i (x := (i : Int) + 1) (by omega) (by omega)]
      rcases hb.1.1 (9 * m + i) (by omega) with h | h | h
      · rw [if_pos (by omega), if_pos (by omega), if_pos (by omega)]
        refine wpo_s ⟨⟨i + 1, by omega, by dsimp only; omega, ?_, ?_⟩, by dsimp only; omega⟩ <;> dsimp only
        · rw [cnt_s, ← h3, if_neg (by simp; omega)]; omega
        · rw [cnt_s, ← h4, if_neg (by simp; omega)]; omega
      · rw [if_pos (by omega), if_pos (by omega), if_neg (by omega)]
        refine wpo_s ⟨⟨i + 1, by omega, by dsimp only; omega, ?_, ?_⟩, by dsimp only; omega⟩ <;> dsimp only
        · rw [cnt_s, ← h3, if_neg (by simp; omega)]; omega
        · rw [cnt_s, ← h4, if_pos (by simp; omega)]
      · rw [if_neg (by omega), if_pos (by omega), if_pos (by omega)]
        refine wpo_s ⟨⟨i + 1, by omega, by dsimp only; omega, ?_, ?_⟩, by dsimp only; omega⟩ <;> dsimp only
        · rw [cnt_s, ← h3, if_pos (by simp; omega)]
        · rw [cnt_s, ← h4, if_neg (by simp; omega)]; omega
    have em : f_M_leaver FU (m : Int) x2 I J = (if x2 = 0 then some (man ρ m - thA s m, N) else if x2 = 1 then some (cnt (fun j => decide (0 ≤ s.1 (9 * m + j))) 9, N) else if x2 = 2 then some (cnt (fun j => decide (s.1 (9 * m + j) = -2)) 9, N) else if x2 = 3 then some (siz ρ m, N) else if x2 = 4 then some (mayA ρ s m, N) else some (-1, N)) := by
      unfold f_M_leaver
      rw [M_isLeaver hρ hm hl, if_pos hlv, Option.bind_some, if_pos (by decide), c1, Option.bind_some, hloop, Option.bind_some, M_left hF hρ hmN hlN hb.1 c2 hlv.2, M_may hF hρ hmN hlN hb.1 c2 hlv.2, hlN, ix8 hlv2 (by omega), if_pos (show (0 : Int) ≤ ((8 * lv + m : Nat) : Int) ∧ ((8 * lv + m : Nat) : Int) < 16 by omega), Int.toNat_natCast, (hmN.2.2.2.2.2.2.2.2.1 m hlv.2).2.1]
      have e4 : ((some (mayA ρ s m)).bind fun q28 => if q28 = 0 then some ((0 : Int), N) else some (1, N)) = some (mayA ρ s m, N) := by
        rw [Option.bind_some]
        rcases mayA_01 (ρ := ρ) (s := s) (m := m) with h | ⟨h, _⟩ <;> rw [h] <;> rfl
      rw [e4]
      rfl
    have ex : f_X_leaver FU (m : Int) x2 rv I = (if x2 = 0 then some (man ρ m - thA s m) else if x2 = 1 then some (cnt (fun j => decide (0 ≤ s.1 (9 * m + j))) 9) else if x2 = 2 then some (cnt (fun j => decide (s.1 (9 * m + j) = -2)) 9) else if x2 = 3 then some (siz ρ m) else if x2 = 4 then some (mayA ρ s m) else some (-1)) := by
      unfold f_X_leaver
      rw [X_isLeaver, if_pos (by rw [hx.2.2.2.1]; exact hlv), Option.bind_some, if_pos (by decide), left_eq hρ hx hb.1 hth hlv.2, may_eq hρ hx hb.1 hth hb.2.2 hlv.2, if_pos (show (0 : Int) ≤ (m : Int) ∧ (m : Int) < 8 by omega), if_pos (show (0 : Int) ≤ (m : Int) ∧ (m : Int) < 8 by omega), if_pos (show (0 : Int) ≤ (m : Int) ∧ (m : Int) < 8 by omega), Int.toNat_natCast, hth, hlo, (hx.2.2.2.2.2.2.2.1 m hlv.2).2.1]
      have e1 : w32 (cnt (fun j => decide (s.1 (9 * m + j) ≠ -1)) 9 - cnt (fun j => decide (s.1 (9 * m + j) = -2)) 9) = cnt (fun j => decide (0 ≤ s.1 (9 * m + j))) 9 := by
        unfold thA at hsp
        rw [hsp, w32i (by omega) (by omega)]; omega
      rw [e1]
      have e4 : ((some (mayA ρ s m)).bind fun q28 => if q28 = 0 then some (0 : Int) else some 1) = some (mayA ρ s m) := by
        rw [Option.bind_some]
        rcases mayA_01 (ρ := ρ) (s := s) (m := m) with h | ⟨h, _⟩ <;> rw [h] <;> rfl
      rw [e4]
      rfl
    have fin : ∀ r, f_X_leaver FU (m : Int) x2 rv I = some r → f_M_leaver FU (m : Int) x2 I J = some (r, N) → ∃ rx rm, f_X_leaver FU (m : Int) x2 rv I = some rx ∧ f_M_leaver FU (m : Int) x2 I J = some rm ∧ rx = rm.1 ∧ InvQ (j + 1) rm.2 J rv sp ∧ isRiv rv ∧ isRiv sp := fun r e1 e2 => ag_mk2 (V := fun M => InvQ (j + 1) M J rv sp) e1 e2 (invq_keep hI0 frX_refl (fr32_Q c3)) hrr hss
    by_cases g0 : x2 = 0
    · rw [if_pos g0] at ex em
      exact fin _ ex em
    rw [if_neg g0] at ex em
    by_cases g1 : x2 = 1
    · rw [if_pos g1] at ex em
      exact fin _ ex em
    rw [if_neg g1] at ex em
    by_cases g2 : x2 = 2
    · rw [if_pos g2] at ex em
      exact fin _ ex em
    rw [if_neg g2] at ex em
    by_cases g3 : x2 = 3
    · rw [if_pos g3] at ex em
      exact fin _ ex em
    rw [if_neg g3] at ex em
    by_cases g4 : x2 = 4
    · rw [if_pos g4] at ex em
      exact fin _ ex em
    rw [if_neg g4] at ex em
    exact fin _ ex em
  · refine ag_mk2 (r := -1) (N := I) (V := fun M => InvQ (j + 1) M J rv sp) ?_ ?_ (invq_more j I J rv sp hI0) hrr hss
    · unfold f_X_leaver
      rw [X_isLeaver, if_neg (by rw [hx.2.2.2.1]; exact hlv), Option.bind_some, if_neg (by decide)]
    · unfold f_M_leaver
      rw [M_isLeaver hρ hm hl, if_neg hlv, Option.bind_some, if_neg (by decide)]
