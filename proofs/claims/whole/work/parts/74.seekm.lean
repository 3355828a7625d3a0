/-! fords: the model's search -/
theorem M_isOver2 {lv : Nat} {I J : MI} {ρ : RIV} {H : Nat → Int} (hρ : RivOK ρ) (hr : RivM I lv ρ) (hl : I 296 18 = (lv : Int)) (hH : ∀ c, c < 96 → I 333 c = H c) : ∃ I', f_M_isOver FU I J = some (ovr ρ H, I') ∧ (∀ a, a ≠ 335 → a ≠ 336 → a ≠ 337 → I' a = I a) ∧ (∃ D, Sol ρ (wSt ρ H) 1 (fun _ => 0) 2000000000 D) ∧ ∀ c, c < 96 → (I' 335 c ≠ 0 ↔ 0 ≤ wSt ρ H c) := by
  obtain ⟨I1, e1, v1, f1⟩ := M_prepSt (F := FU) (J := J) FU_big hρ hr hl hH
  obtain ⟨I2, e2, s2, f2⟩ := M_ways (F := FU) (e := 1) (I := I1) (J := J) (w := wSt ρ H) (c := fun _ => 0) FU_huge hρ (rivm_congr hr (fun a b1 b2 => f1 a (by omega) (by omega))) (by rw [f1 296 (by decide) (by decide)]; exact hl) (fun k hk => (v1 k hk).1) (fun k hk _ => (v1 k hk).2) (by omega) (fun k hk _ => by omega)
  refine ⟨I2, ?_, fun a b1 b2 b3 => by rw [f2 a b3, f1 a b1 b2], ⟨_, s2⟩, fun c hc => by rw [f2 335 (by decide)]; exact (v1 c hc).1⟩
  unfold f_M_isOver
  rw [e1, Option.bind_some, e2, Option.bind_some, ovr_eq s2]
  by_cases g : I2 337 96 < 2000000000
  · rw [if_neg (by omega), if_pos g]
  · rw [if_pos (by omega), if_neg g]
theorem M_isOverBy2 {lv : Nat} {set : Int} {bt : Nat → Bool} (hset : ∀ j : Nat, j < 8 → (and32 (shr32 set (j : Int)) 1 = 1 ↔ bt j = true)) {I J : MI} {ρ : RIV} {s : BSt} (hρ : RivOK ρ) (hr : RivM I lv ρ) (hl : I 296 18 = (lv : Int)) (hv : VOK ρ s) (hn : ∀ k, k < 250 → I 331 k = s.1 k) : ∃ I', f_M_isOverBy FU set I J = some (ovr ρ (hBy s bt), I') ∧ FrQ I I' ∧ ∀ c, c < 96 → (I' 335 c ≠ 0 ↔ 0 ≤ wSt ρ (hBy s bt) c) := by
  have hF := FU_big
  obtain ⟨N, c1, c2, c3⟩ := M_copyq (F := FU) (I := I) (J := J) hF hv hn
  unfold f_M_isOverBy
  rw [c1, Option.bind_some]
  rw [fill_loop 333 0 96 (fun _ => 0) (by omega) (fun M => by dsimp only; unfold f_M_isOverBy_L6; rw [if_pos (by omega)]) (fun j hj => by
    dsimp only
    unfold f_M_isOverBy_L6
    rw [if_neg (by omega), if_pos (by omega), w32i (by omega) (by omega)]
    simp)]
  rw [Option.bind_some]
  have key := wpo_iter (step := fun q : Int × MI => f_M_isOverBy_L27 FU set q.1 q.2 J) (Q := fun M => (∀ c, c < 96 → M 333 c = hBy s bt c) ∧ ∀ a, a ≠ 333 → M a = N a) (fun q => ∃ j : Nat, j ≤ 72 ∧ q.1 = (j : Int) ∧ (∀ c, c < 96 → q.2 333 c = cnt (fun k => decide (s.1 k = (c : Int)) && bt (k / 9)) j) ∧ ∀ a, a ≠ 333 → q.2 a = N a) (fun q => 72 - q.1.toNat) ?_ (F := FU) (s := ((0 : Int), fillR N 333 0 96 fun _ => 0)) (by dsimp only; omega) ⟨0, by omega, rfl, fun c hc => by dsimp only; rw [fillR_in0 hc]; rfl, fun a ha => by dsimp only; rw [fillR_r ha]⟩
  · obtain ⟨M, e1, q1, q2⟩ := key
    rw [e1, Option.bind_some]
    obtain ⟨M2, e2, f2, _, v2⟩ := M_isOver2 (I := M) (J := J) (H := hBy s bt) hρ (rivm_congr hr (fun a b1 b2 => by rw [q2 a (by omega), c3 a (by omega) (by omega)])) (by rw [q2 296 (by decide), c3 296 (by decide) (by decide)]; exact hl) q1
    rw [e2, Option.bind_some]
    refine ⟨M2, rfl, ⟨fun a b1 b2 => ?_, fun k b1 b2 => ?_⟩, v2⟩
    · unfold scrM at b1
      rw [f2 a (by omega) (by omega) (by omega), q2 a (by omega), c3 a (by omega) (by omega)]
    · rw [f2 296 (by decide) (by decide) (by decide), q2 296 (by decide), c3 296 (by decide) (by decide)]
  rintro ⟨i, M⟩ ⟨j, hj, h1, h2, h3⟩
  dsimp only at h1 h2 h3 ⊢
  subst h1
  unfold f_M_isOverBy_L27
  refine wpo_i (fun hc => wpo_s ?_) (fun hc => ?_)
  · have : j = 72 := by omega
    subst this
    exact ⟨h2, h3⟩
  have hj2 : j < 72 := by omega
  refine wpo_g (by omega) ?_
  rw [h3 332 (by decide), Int.toNat_natCast, c2.1 j (by omega), w32i (x := (j : Int) + 1) (by omega) (by omega)]
  have hvj := hv.1 j hj2
  have ed : div32 (j : Int) 9 = ((j / 9 : Nat) : Int) := by rw [div32_eq (by omega) (by omega) (by omega) (by omega)]; omega
  have hs9 := hset (j / 9) (by omega)
  have keep : (∀ c : Nat, c < 96 → (decide (s.1 j = (c : Int)) && bt (j / 9)) = false) → ((∃ j' : Nat, j' ≤ 72 ∧ (j : Int) + 1 = (j' : Int) ∧ (∀ c, c < 96 → M 333 c = cnt (fun k => decide (s.1 k = (c : Int)) && bt (k / 9)) j') ∧ ∀ a, a ≠ 333 → M a = N a) ∧ 72 - ((j : Int) + 1).toNat < 72 - ((j : Int)).toNat) := by
    intro hno
    refine ⟨⟨j + 1, by omega, by omega, fun c hc2 => ?_, h3⟩, by omega⟩
    rw [cnt_s, ← h2 c hc2, hno c hc2]
    simp
  refine wpo_i (fun hc2 => wpo_s (keep (fun c hc3 => ?_))) (fun hc2 => ?_)
  · have : ¬ (s.1 j = (c : Int)) := by omega
    simp [this]
  rw [ed]
  refine wpo_i (fun hc3 => wpo_s (keep (fun c hc4 => ?_))) (fun hc3 => ?_)
  · cases h : bt (j / 9) with
    | false => simp
    | true => exact absurd (hs9.mpr h) hc3
  clear keep
  have hbt := hs9.mp (by omega)
  refine wpo_g (by omega) (wpo_s ?_)
  refine ⟨⟨j + 1, by omega, by dsimp only; omega, fun c hc4 => ?_, fun a ha => ?_⟩, by dsimp only; omega⟩ <;> dsimp only
  · rw [cnt_s, ← h2 c hc4, hbt, Bool.and_true]
    have hcc := cnt_nn (fun k => decide (s.1 k = (c : Int)) && bt (k / 9)) j
    rw [← h2 c hc4] at hcc
    by_cases e : c = (s.1 j).toNat
    · subst e
      rw [up2_same, if_pos (by simp; omega), w32i (by omega) (by omega)]
    · rw [up2_k e, if_neg (by simp; omega)]
      simp
  · rw [up2_off ha, h3 a ha]
theorem ovr0_max {ρ : RIV} {w D : Nat → Int} (hS : Sol ρ w 1 (fun _ => 0) 2000000000 D) (h : ¬ D 96 < 2000000000) : FMax ρ w 0 := by
  have hbd : ∀ k, gok w k → D k < 2000000000 → D k ≤ 97 := fun k hk hlt => by
    have := sol1_bd hS (D k).toNat k hk (by have := (hS k hk).1; omega) hlt
    have := rkD_nn (w := w) (D := D) (k := k)
    omega
  have hz : FVal ρ w (fun _ => 0) (fun _ => 0) (fun _ => 0) (fun _ _ => 0) := by
    refine ⟨fun c hc => ?_, fun c hc => ⟨Or.inl rfl, Or.inl rfl, Or.inl rfl⟩, fun d c hd hc => Or.inl rfl⟩
    dsimp only
    rw [sumN_zero]; exact ⟨rfl, rfl⟩
  refine ⟨⟨_, _, _, _, hz, sumN_zero⟩, fun gs gv gt ga hg => ?_⟩
  have key := cut_max hz (fun x => decide (x < 192) && decide (0 ≤ w (x % 96)) && decide (¬ D (x % 96) < 2000000000)) (fun y hy => ?_) (fun x y hx hr => ?_) (fun x hx => ?_) hg
  · rw [sumN_zero] at key; exact key
  · obtain ⟨y1, y2, y3, _⟩ := hy
    have e : y % 96 = y := Nat.mod_eq_of_lt y1
    simp only [Bool.and_eq_true, decide_eq_true_eq, e]
    refine ⟨⟨by omega, y3⟩, fun hlt => h ?_⟩
    have a := (hS 96 (Or.inl rfl)).2.2.2.1 y y1 y3 y2 hlt
    have b := hbd y (Or.inr ⟨y1, y3⟩) hlt
    dsimp only at a
    omega
  · simp only [Bool.and_eq_true, decide_eq_true_eq] at hx ⊢
    rcases hr with ⟨c, b1, b2, b3, b4⟩ | ⟨c, d, b1, b2, b3, b4, b5⟩ | ⟨d, c, b1, b2, b3, b4, b5, b6, b7⟩ | ⟨c, b1, b2, b3, b4⟩
    · have e : y % 96 = x % 96 := by omega
      rw [e]; exact ⟨⟨by omega, hx.1.2⟩, hx.2⟩
    · dsimp only at b5; omega
    · have e : y % 96 = c := by omega
      have e2 : x % 96 = d := by omega
      rw [e]
      rw [e2] at hx
      refine ⟨⟨by omega, b6⟩, fun hlt => hx.2 ?_⟩
      have a := (hS d (Or.inr ⟨b2, hx.1.2⟩)).2.2.2.1 c b1 b6 b5 hlt
      have b := hbd c (Or.inr ⟨b1, b6⟩) hlt
      dsimp only at a
      omega
    · dsimp only at b4; omega
  · simp only [Bool.and_eq_true, decide_eq_true_eq] at hx
    intro c hc e1 e2
    have e : x % 96 = c := by omega
    rw [e] at hx
    have := (hS c (Or.inr ⟨hc, hx.1.2⟩)).2.2.1 e2
    exact absurd (show D c < 2000000000 by omega) hx.2
abbrev BM (ρ : RIV) (w fs fv : Nat → Int) (fa : Nat → Nat → Int) (I : MI) (tail : Nat) : Prop := BQ 348 349 296 75 (-1) (-2) (SrG ρ w fs) (RsG ρ w fv fa) I tail
abbrev GM (t t' : Nat) (I I' : MI) : Prop := Gro 348 349 296 75 (-1) t t' I I'
abbrev DM (ρ : RIV) (w fv ft : Nat → Int) (fa : Nat → Nat → Int) (I : MI) (head : Nat) : Prop := Dn 348 349 (-1) (RsG ρ w fv fa) (SkG ρ ft) I head
def fzA (fz : Nat → Int) (d c : Nat) : Int := fz (96 * d + c)
theorem findsIn_eq {F c tail : Nat} (hF : 1000000 ≤ F) {ρ : RIV} {w fs fv ft fz : Nat → Int} {I J : MI} (hf : FVal ρ w fs fv ft (fzA fz)) (h1 : I 345 = fv) (h2 : I 346 = fz) (hq : BM ρ w fs fv (fzA fz) I tail) (hc : c < 96) (hp : I 348 c ≠ -1) : ∃ I' tail', f_M_findsIn F (c : Int) I J = some I' ∧ BM ρ w fs fv (fzA fz) I' tail' ∧ GM tail tail' I I' ∧ ∀ y, y < 192 → RsG ρ w fv (fzA fz) c y → I' 348 y ≠ -1 := by
  have from_in : ∀ y, RsG ρ w fv (fzA fz) c y → (y = 96 + c ∧ fv c = 0) ∨ ∃ d, d < 96 ∧ y = 96 + d ∧ fzA fz d c = 1 := by
    intro y hr
    rcases hr with ⟨c', b1, b2, b3, b4⟩ | ⟨c', d, b1, b2, b3, b4, b5⟩ | ⟨d, c', b1, b2, b3, b4, _⟩ | ⟨c', b1, b2, b3, _⟩
    · subst b2
      exact Or.inl ⟨b3, b4⟩
    · subst b3
      exact Or.inr ⟨d, b2, b4, b5⟩
    · omega
    · omega
  have loop : ∀ (I1 : MI) (t1 : Nat), BM ρ w fs fv (fzA fz) I1 t1 → GM tail t1 I I1 → ∃ I' tail', f_M_findsIn_b18 F (c : Int) I1 J = some I' ∧ BM ρ w fs fv (fzA fz) I' tail' ∧ GM t1 tail' I1 I' ∧ ∀ d, d < 96 → fzA fz d c = 1 → I' 348 (96 + d) ≠ -1 := by
    intro I1 t1 hb hg
    unfold f_M_findsIn_b18
    have k := wpo_iter (step := fun q : Int × MI => f_M_findsIn_L20 F (c : Int) q.1 q.2 J) (Q := fun I' => ∃ tail', BM ρ w fs fv (fzA fz) I' tail' ∧ GM t1 tail' I1 I' ∧ ∀ d, d < 96 → fzA fz d c = 1 → I' 348 (96 + d) ≠ -1) (fun q => ∃ n tail' : Nat, n ≤ 96 ∧ q.1 = (n : Int) ∧ BM ρ w fs fv (fzA fz) q.2 tail' ∧ GM t1 tail' I1 q.2 ∧ ∀ d, d < n → fzA fz d c = 1 → q.2 348 (96 + d) ≠ -1) (fun q => 96 - q.1.toNat) ?_ (F := F) (s := ((0 : Int), I1)) (by dsimp only; omega) ⟨0, t1, by omega, rfl, hb, gro_refl, fun v hv => absurd hv (by omega)⟩
    · obtain ⟨I', e, t', q1, q2, q3⟩ := k
      rw [e, Option.bind_some]
      exact ⟨I', t', rfl, q1, q2, q3⟩
    rintro ⟨x, N⟩ ⟨n, t', p1, p2, p3, p4, p5⟩
    dsimp only at p2 p3 p4 p5 ⊢
    subst p2
    unfold f_M_findsIn_L20
    refine wpo_i (fun hc2 => wpo_s ?_) (fun hc2 => ?_)
    · have : n = 96 := by omega
      subst this
      exact ⟨t', p3, p4, p5⟩
    have hi : n < 96 := by omega
    have ei : w32 (w32 (96 * (n : Int)) + (c : Int)) = ((96 * n + c : Nat) : Int) := by rw [w32i (x := 96 * (n : Int)) (by omega) (by omega), w32i (by omega) (by omega)]; omega
    have e46 : N 346 = fz := by rw [gro_off p4 (by decide) (by decide) (by decide), gro_off hg (by decide) (by decide) (by decide)]; exact h2
    have ew : w32 ((n : Int) + 1) = (n : Int) + 1 := w32i (by omega) (by omega)
    rw [ei, e46, ew, Int.toNat_natCast]
    refine wpo_g (by omega) (wpo_i (fun hc3 => wpo_s ?_) (fun hc3 => ?_))
    · refine ⟨⟨n + 1, t', by omega, by dsimp only; omega, p3, p4, fun d hd h => ?_⟩, by dsimp only; omega⟩
      by_cases e : d = n
      · rw [e] at h
        have : fz (96 * n + c) = 1 := h
        omega
      · exact p5 d (by omega) h
    · have h1' : fzA fz n c = 1 := by
        rcases hf.2.2 n c hi hc with a | a
        · exact absurd a hc3
        · exact a.1
      rw [w32i (by omega) (by omega), show (96 : Int) + (n : Int) = ((96 + n : Nat) : Int) by omega, finds_g]
      obtain ⟨I', t2, e1, e2, e3, e4⟩ := reach_q (by decide) p3 (y := 96 + n) (v := (c : Int)) (by omega) (by omega) (Or.inr ⟨c, by omega, rfl, p4.2.1 c (by omega) (hg.2.1 c (by omega) hp), Or.inr (Or.inl ⟨c, n, hc, hi, rfl, rfl, h1'⟩)⟩)
      rw [e1, Option.bind_some]
      refine wpo_s ⟨⟨n + 1, t2, by omega, by dsimp only; omega, e2, gro_trans p4 e3, fun d hd h => ?_⟩, by dsimp only; omega⟩
      by_cases e : d = n
      · rw [e]; exact e4
      · exact e3.2.1 _ (by omega) (p5 d (by omega) h)
  unfold f_M_findsIn
  rw [if_pos (by omega), Int.toNat_natCast, h1]
  by_cases g : fv c = 0
  · rw [if_neg (fun h => h g), w32i (by omega) (by omega), show (96 : Int) + (c : Int) = ((96 + c : Nat) : Int) by omega, finds_g]
    obtain ⟨I1, t1, e1, e2, e3, e4⟩ := reach_q (by decide) hq (y := 96 + c) (v := (c : Int)) (by omega) (by omega) (Or.inr ⟨c, by omega, rfl, hp, Or.inl ⟨c, hc, rfl, rfl, g⟩⟩)
    rw [e1, Option.bind_some]
    obtain ⟨I', t', q1, q2, q3, q4⟩ := loop I1 t1 e2 e3
    refine ⟨I', t', q1, q2, gro_trans e3 q3, fun y hy hr => ?_⟩
    rcases from_in y hr with ⟨b, _⟩ | ⟨d, b1, b2, b3⟩
    · rw [b]; exact q3.2.1 _ (by omega) e4
    · rw [b2]; exact q4 d b1 b3
  · rw [if_pos g]
    obtain ⟨I', t', q1, q2, q3, q4⟩ := loop I tail hq gro_refl
    refine ⟨I', t', q1, q2, q3, fun y hy hr => ?_⟩
    rcases from_in y hr with ⟨_, b⟩ | ⟨d, b1, b2, b3⟩
    · exact absurd b g
    · rw [b2]; exact q4 d b1 b3
theorem findsOut_eq {F c tail lv : Nat} (hF : 1000000 ≤ F) {ρ : RIV} {w fs fv ft fz : Nat → Int} {I J : MI} (hρ : RivOK ρ) (hr : RivM I lv ρ) (hl : I 296 18 = (lv : Int)) (hmay : ∀ c, c < 96 → (I 335 c ≠ 0 ↔ 0 ≤ w c)) (hf : FVal ρ w fs fv ft (fzA fz)) (h1 : I 345 = fv) (h2 : I 346 = fz) (hq : BM ρ w fs fv (fzA fz) I tail) (hc : c < 96) (hp : I 348 (96 + c) ≠ -1) : ∃ I' tail', f_M_findsOut F (c : Int) I J = some I' ∧ BM ρ w fs fv (fzA fz) I' tail' ∧ GM tail tail' I I' ∧ ∀ y, y < 192 → RsG ρ w fv (fzA fz) (96 + c) y → I' 348 y ≠ -1 := by
  have from_out : ∀ y, RsG ρ w fv (fzA fz) (96 + c) y → (y < 96 ∧ 0 ≤ w y ∧ lpB ρ c y = true ∧ fzA fz c y = 0) ∨ (y = c ∧ fv c = 1) := by
    intro y hr
    rcases hr with ⟨c', b1, b2, b3, b4⟩ | ⟨c', d, b1, b2, b3, b4, b5⟩ | ⟨d, c', b1, b2, b3, b4, b5, b6, b7⟩ | ⟨c', b1, b2, b3, b4⟩
    · omega
    · omega
    · have : d = c := by omega
      subst this
      subst b4
      exact Or.inl ⟨b1, b6, b5, b7⟩
    · have : c' = c := by omega
      subst this
      exact Or.inr ⟨b3, b4⟩
  unfold f_M_findsOut
  have k := wpo_iter (step := fun q : Int × MI => f_M_findsOut_L2 F (c : Int) q.1 q.2 J) (Q := fun I' => ∃ tail', BM ρ w fs fv (fzA fz) I' tail' ∧ GM tail tail' I I' ∧ ∀ v, v < 96 → 0 ≤ w v → lpB ρ c v = true → fzA fz c v = 0 → I' 348 v ≠ -1) (fun q => ∃ n tail' : Nat, n ≤ 96 ∧ q.1 = (n : Int) ∧ BM ρ w fs fv (fzA fz) q.2 tail' ∧ GM tail tail' I q.2 ∧ ∀ v, v < n → 0 ≤ w v → lpB ρ c v = true → fzA fz c v = 0 → q.2 348 v ≠ -1) (fun q => 96 - q.1.toNat) ?_ (F := F) (s := ((0 : Int), I)) (by dsimp only; omega) ⟨0, tail, by omega, rfl, hq, gro_refl, fun v hv => absurd hv (by omega)⟩
  · obtain ⟨I1, e, t1, q1, q2, q3⟩ := k
    rw [e, Option.bind_some, if_pos (by omega), Int.toNat_natCast, gro_off q2 (by decide) (by decide) (by decide), h1]
    by_cases g : fv c = 0
    · rw [if_pos g]
      refine ⟨I1, t1, rfl, q1, q2, fun y hy hr => ?_⟩
      rcases from_out y hr with ⟨b1, b2, b3, b4⟩ | ⟨_, b⟩
      · exact q3 y b1 b2 b3 b4
      · omega
    · rw [if_neg g, w32i (by omega) (by omega), show (96 : Int) + (c : Int) = ((96 + c : Nat) : Int) by omega, finds_g]
      have g1 : fv c = 1 := by rcases (hf.2.1 c hc).2.1 with a | a <;> omega
      obtain ⟨I', t', e1, e2, e3, e4⟩ := reach_q (by decide) q1 (y := c) (v := ((96 + c : Nat) : Int)) (by omega) (by omega) (Or.inr ⟨96 + c, by omega, rfl, q2.2.1 _ (by omega) hp, Or.inr (Or.inr (Or.inr ⟨c, hc, rfl, rfl, g1⟩))⟩)
      rw [e1, Option.bind_some]
      refine ⟨I', t', rfl, e2, gro_trans q2 e3, fun y hy hr => ?_⟩
      rcases from_out y hr with ⟨b1, b2, b3, b4⟩ | ⟨b, _⟩
      · exact e3.2.1 y hy (q3 y b1 b2 b3 b4)
      · rw [b]; exact e4
  rintro ⟨x, N⟩ ⟨n, t', p1, p2, p3, p4, p5⟩
  dsimp only at p2 p3 p4 p5 ⊢
  subst p2
  have fr : ∀ a, a ≠ 296 → a ≠ 348 → a ≠ 349 → N a = I a := fun a b1 b2 b3 => gro_off p4 b1 b2 b3
  unfold f_M_findsOut_L2
  refine wpo_i (fun hc2 => wpo_s ?_) (fun hc2 => ?_)
  · have : n = 96 := by omega
    subst this
    exact ⟨t', p3, p4, p5⟩
  have hi : n < 96 := by omega
  have ei : w32 (w32 (96 * (c : Int)) + (n : Int)) = ((96 * c + n : Nat) : Int) := by rw [w32i (x := 96 * (c : Int)) (by omega) (by omega), w32i (by omega) (by omega)]; omega
  have ew : w32 ((n : Int) + 1) = (n : Int) + 1 := w32i (by omega) (by omega)
  rw [M_leaps (lv := lv) hρ (rivm_congr hr (fun a b1 b2 => fr a (by omega) (by omega) (by omega))) (by rw [p4.2.2.2 296 18 (by decide) (by decide) (by decide)]; exact hl) (by omega) hi, Option.bind_some, ei, ew, fr 335 (by decide) (by decide) (by decide), fr 346 (by decide) (by decide) (by decide), h2, Int.toNat_natCast]
  have keep : ¬ (0 ≤ w n ∧ lpB ρ c n = true ∧ fzA fz c n = 0) → ((∃ n' tail' : Nat, n' ≤ 96 ∧ (n : Int) + 1 = (n' : Int) ∧ BM ρ w fs fv (fzA fz) N tail' ∧ GM tail tail' I N ∧ ∀ v, v < n' → 0 ≤ w v → lpB ρ c v = true → fzA fz c v = 0 → N 348 v ≠ -1) ∧ 96 - ((n : Int) + 1).toNat < 96 - ((n : Int)).toNat) := by
    intro hno
    refine ⟨⟨n + 1, t', by omega, by omega, p3, p4, fun v hv h1 h2 h3 => ?_⟩, by omega⟩
    by_cases e : v = n
    · rw [e] at h1 h2 h3; exact absurd ⟨h1, h2, h3⟩ hno
    · exact p5 v (by omega) h1 h2 h3
  by_cases g : I 335 n ≠ 0 ∧ lpB ρ c n = true
  · rw [if_pos g]
    refine wpo_n (by decide) (wpo_g (by clear keep; omega) ?_)
    refine wpo_i (fun hc3 => wpo_s (keep (fun h => hc3 h.2.2))) (fun hc3 => ?_)
    clear keep
    have h0' : fzA fz c n = 0 := by
      by_cases e : fz (96 * c + n) = 0
      · exact e
      · exact absurd e hc3
    rw [w32i (by omega) (by omega), show (96 : Int) + (c : Int) = ((96 + c : Nat) : Int) by omega, finds_g]
    obtain ⟨I', t2, e1, e2, e3, e4⟩ := reach_q (by decide) p3 (y := n) (v := ((96 + c : Nat) : Int)) (by omega) (by omega) (Or.inr ⟨96 + c, by omega, rfl, p4.2.1 _ (by omega) hp, Or.inr (Or.inr (Or.inl ⟨c, n, hi, hc, rfl, rfl, g.2, (hmay n hi).mp g.1, h0'⟩))⟩)
    rw [e1, Option.bind_some]
    refine wpo_s ⟨⟨n + 1, t2, by omega, by dsimp only; omega, e2, gro_trans p4 e3, fun v hv h1 h2 h3 => ?_⟩, by dsimp only; omega⟩
    by_cases e : v = n
    · rw [e]; exact e4
    · exact e3.2.1 v (by omega) (p5 v (by omega) h1 h2 h3)
  · rw [if_neg g]
    exact wpo_g rfl (wpo_s (keep (fun h => g ⟨(hmay n hi).mpr h.1, h.2.1⟩)))
