/-! fords: the model's walk back -/
def WkM (ρ : RIV) (w fs fv0 : Nat → Int) (fa0 : Nat → Nat → Int) (rk : Nat → Nat) (t : Nat) (fv ft : Nat → Int) (fa : Nat → Nat → Int) : Prop :=
  (∀ c, c < 96 → (t ≠ c → fs c + sumN (fun d => fa d c) 96 = fv c) ∧ (t = c → fs c + sumN (fun d => fa d c) 96 + 1 = fv c) ∧ (t ≠ 96 + c → ft c + sumN (fun d => fa c d) 96 = fv c) ∧ (t = 96 + c → ft c + sumN (fun d => fa c d) 96 = fv c + 1)) ∧
  (∀ c, c < 96 → (fv c = 0 ∨ fv c = 1) ∧ (ft c = 0 ∨ ft c = 1 ∧ enB ρ c = true)) ∧ (∀ d c, d < 96 → c < 96 → fa d c = 0 ∨ fa d c = 1 ∧ lpB ρ d c = true ∧ 0 ≤ w c) ∧
  (∀ c, c < 96 → rk c ≤ rk t → rk (96 + c) ≤ rk t → fv c = fv0 c) ∧ (∀ d c, d < 96 → c < 96 → rk (96 + d) ≤ rk t → rk c ≤ rk t → fa d c = fa0 d c)
theorem wkm_v {ρ : RIV} {w fs fv0 fv fv' ft : Nat → Int} {fa0 fa : Nat → Nat → Int} {rk : Nat → Nat} {t x c : Nat} {v : Int} (h : WkM ρ w fs fv0 fa0 rk t fv ft fa) (hc : c < 96) (hx : (t = 96 + c ∧ x = c ∧ fv0 c = 0 ∧ v = 1) ∨ (t = c ∧ x = 96 + c ∧ fv0 c = 1 ∧ v = 0)) (hr : rk x < rk t) (hfv : ∀ e, fv' e = if e = c then v else fv e) : WkM ρ w fs fv0 fa0 rk x fv' ft fa := by
  obtain ⟨a1, a2, a3, a4, a5⟩ := h
  have gv : fv c = fv0 c := by
    rcases hx with ⟨h1, h2, _⟩ | ⟨h1, h2, _⟩
    · subst h2; subst h1; exact a4 x hc (by omega) (by omega)
    · subst h2; subst h1; exact a4 t hc (by omega) (by omega)
  refine ⟨fun e he => ?_, fun e he => ⟨?_, (a2 e he).2⟩, a3, fun e he h1 h2 => ?_, fun d e hd he h1 h2 => a5 d e hd he (by omega) (by omega)⟩
  · obtain ⟨b1, b2, b3, b4⟩ := a1 e he
    rw [hfv]
    generalize sumN (fun d => fa d e) 96 = S1 at *
    generalize sumN (fun d => fa e d) 96 = S2 at *
    by_cases ec : e = c
    · subst ec
      rw [if_pos rfl]
      rcases hx with ⟨h1, h2, h3, h4⟩ | ⟨h1, h2, h3, h4⟩
      · have := b1 (by omega)
        have := b4 h1
        exact ⟨fun h => absurd h2 h, fun _ => by omega, fun _ => by omega, fun h => by omega⟩
      · have := b2 h1
        have := b3 (by omega)
        exact ⟨fun _ => by omega, fun h => by omega, fun h => absurd h2 h, fun h => by omega⟩
    · rw [if_neg ec]
      have := b1 (by omega)
      have := b3 (by omega)
      exact ⟨fun _ => by omega, fun h => by omega, fun _ => by omega, fun h => by omega⟩
  · rw [hfv]
    by_cases ec : e = c
    · rw [if_pos ec]
      rcases hx with ⟨_, _, _, h⟩ | ⟨_, _, _, h⟩
      · exact Or.inr h
      · exact Or.inl h
    · rw [if_neg ec]; exact (a2 e he).1
  · have ec : e ≠ c := by
      intro ec
      subst ec
      rcases hx with ⟨h3, h4, _⟩ | ⟨h3, h4, _⟩
      · rw [← h3] at h2; omega
      · rw [← h3] at h1; omega
    rw [hfv, if_neg ec]
    exact a4 e he (by omega) (by omega)
theorem wkm_a {ρ : RIV} {w fs fv0 fv ft : Nat → Int} {fa0 fa fa' : Nat → Nat → Int} {rk : Nat → Nat} {t x c d : Nat} {v : Int} (h : WkM ρ w fs fv0 fa0 rk t fv ft fa) (hc : c < 96) (hd : d < 96) (hx : (t = 96 + d ∧ x = c ∧ fa0 d c = 1 ∧ v = 0) ∨ (t = c ∧ x = 96 + d ∧ fa0 d c = 0 ∧ v = 1 ∧ lpB ρ d c = true ∧ 0 ≤ w c)) (hr : rk x < rk t) (hfa : ∀ d' c', d' < 96 → c' < 96 → fa' d' c' = if d' = d ∧ c' = c then v else fa d' c') : WkM ρ w fs fv0 fa0 rk x fv ft fa' := by
  obtain ⟨a1, a2, a3, a4, a5⟩ := h
  have ga : fa d c = fa0 d c := by
    rcases hx with ⟨h1, h2, _⟩ | ⟨h1, h2, _⟩
    · subst h2; subst h1; exact a5 d x hd hc (by omega) (by omega)
    · subst h2; subst h1; exact a5 d t hd hc (by omega) (by omega)
  have col : ∀ e, e < 96 → sumN (fun j => fa' j e) 96 = sumN (fun j => fa j e) 96 + (if e = c then v - fa d c else 0) := fun e he => by
    by_cases ec : e = c
    · subst ec
      rw [if_pos rfl, sumN_upd (f := fun j => fa j e) (g := fun j => fa' j e) hd (fun j hj hne => by rw [hfa j e hj he, if_neg (fun z => hne z.1)])]
      rw [hfa d e hd he, if_pos ⟨rfl, rfl⟩]
    · rw [if_neg ec, Int.add_zero]
      exact sumN_congr (fun j hj => by rw [hfa j e hj he, if_neg (fun z => ec z.2)])
  have row : ∀ e, e < 96 → sumN (fun j => fa' e j) 96 = sumN (fun j => fa e j) 96 + (if e = d then v - fa d c else 0) := fun e he => by
    by_cases ec : e = d
    · subst ec
      rw [if_pos rfl, sumN_upd (f := fun j => fa e j) (g := fun j => fa' e j) hc (fun j hj hne => by rw [hfa e j he hj, if_neg (fun z => hne z.2)])]
      rw [hfa e c he hc, if_pos ⟨rfl, rfl⟩]
    · rw [if_neg ec, Int.add_zero]
      exact sumN_congr (fun j hj => by rw [hfa e j he hj, if_neg (fun z => ec z.1)])
  refine ⟨fun e he => ?_, a2, fun d' c' hd' hc' => ?_, fun e he h1 h2 => a4 e he (by omega) (by omega), fun d' e hd' he h1 h2 => ?_⟩
  · obtain ⟨b1, b2, b3, b4⟩ := a1 e he
    rw [col e he, row e he]
    generalize sumN (fun j => fa j e) 96 = S1 at *
    generalize sumN (fun j => fa e j) 96 = S2 at *
    refine ⟨?_, ?_, ?_, ?_⟩
    · intro h1
      by_cases ec : e = c
      · rw [if_pos ec]
        rcases hx with ⟨h3, h4, h5, h6⟩ | ⟨h3, h4, h5, h6, _⟩
        · omega
        · have := b2 (by omega); omega
      · rw [if_neg ec]
        have := b1 (by rcases hx with ⟨h3, h4, _⟩ | ⟨h3, h4, _⟩ <;> omega)
        omega
    · intro h1
      rcases hx with ⟨h3, h4, h5, h6⟩ | ⟨h3, h4, h5, h6, _⟩
      · rw [if_pos (by omega)]
        have := b1 (by omega)
        omega
      · omega
    · intro h1
      by_cases ec : e = d
      · rw [if_pos ec]
        rcases hx with ⟨h3, h4, h5, h6⟩ | ⟨h3, h4, h5, h6, _⟩
        · have := b4 (by omega); omega
        · omega
      · rw [if_neg ec]
        have := b3 (by rcases hx with ⟨h3, h4, _⟩ | ⟨h3, h4, _⟩ <;> omega)
        omega
    · intro h1
      rcases hx with ⟨h3, h4, h5, h6⟩ | ⟨h3, h4, h5, h6, _⟩
      · omega
      · rw [if_pos (by omega)]
        have := b3 (by omega)
        omega
  · rw [hfa d' c' hd' hc']
    by_cases e : d' = d ∧ c' = c
    · rw [if_pos e]
      rcases hx with ⟨_, _, _, h⟩ | ⟨_, _, _, h, h2, h3⟩
      · exact Or.inl h
      · rw [e.1, e.2]; exact Or.inr ⟨h, h2, h3⟩
    · rw [if_neg e]; exact a3 d' c' hd' hc'
  · have ec : ¬ (d' = d ∧ e = c) := by
      rintro ⟨e1, e2⟩
      subst e1
      subst e2
      rcases hx with ⟨h3, h4, _⟩ | ⟨h3, h4, _⟩
      · rw [← h3] at h1; omega
      · rw [← h3] at h2; omega
    rw [hfa d' e hd' he, if_neg ec]
    exact a5 d' e hd' he (by omega) (by omega)
theorem wkm_start {ρ : RIV} {w fs fv ft ft' : Nat → Int} {fa : Nat → Nat → Int} {rk : Nat → Nat} {k : Nat} (h : FVal ρ w fs fv ft fa) (hk : k < 96) (he : enB ρ k = true) (h0 : ft k = 0) (hft : ∀ e, ft' e = if e = k then 1 else ft e) : WkM ρ w fs fv fa rk (96 + k) fv ft' fa := by
  obtain ⟨a1, a2, a3⟩ := h
  refine ⟨fun e he2 => ?_, fun e he2 => ⟨(a2 e he2).2.1, ?_⟩, a3, fun _ _ _ _ => rfl, fun _ _ _ _ _ _ => rfl⟩
  · obtain ⟨b1, b2⟩ := a1 e he2
    rw [hft]
    refine ⟨fun _ => b1, fun h => by omega, fun h => ?_, fun h => ?_⟩
    · rw [if_neg (by omega)]; exact b2
    · have : e = k := by omega
      subst this
      rw [if_pos rfl]; omega
  · rw [hft]
    by_cases e2 : e = k
    · rw [if_pos e2, e2]; exact Or.inr ⟨rfl, he⟩
    · rw [if_neg e2]; exact (a2 e he2).2.2
theorem wkm_end {ρ : RIV} {w fs fv0 fv ft fs' : Nat → Int} {fa0 fa : Nat → Nat → Int} {rk : Nat → Nat} {c : Nat} (h : WkM ρ w fs fv0 fa0 rk c fv ft fa) (hfs : ∀ e, e < 96 → fs e = 0 ∨ fs e = 1 ∧ lpB ρ 96 e = true ∧ 0 ≤ w e) (hs : SrG ρ w fs c) (hf : ∀ e, fs' e = if e = c then 1 else fs e) : FVal ρ w fs' fv ft fa ∧ sumN fs' 96 = sumN fs 96 + 1 := by
  obtain ⟨a1, a2, a3, a4, a5⟩ := h
  obtain ⟨s1, s2, s3, s4⟩ := hs
  refine ⟨⟨fun e he => ?_, fun e he => ⟨?_, a2 e he⟩, a3⟩, ?_⟩
  · obtain ⟨b1, b2, b3, b4⟩ := a1 e he
    rw [hf]
    refine ⟨?_, b3 (by omega)⟩
    by_cases ec : e = c
    · have := b2 ec.symm
      rw [if_pos ec]
      subst ec
      omega
    · rw [if_neg ec]; exact b1 (fun z => ec z.symm)
  · rw [hf]
    by_cases ec : e = c
    · rw [if_pos ec, ec]; exact Or.inr ⟨rfl, s2, s3⟩
    · rw [if_neg ec]; exact hfs e he
  · rw [sumN_upd (f := fs) (g := fs') s1 (fun e he hne => by rw [hf, if_neg hne]), hf, if_pos rfl, s4]; rfl
theorem turns_eq {F k tail : Nat} (hF : 1000000 ≤ F) {ρ : RIV} {w fs fv ft fz : Nat → Int} {I J : MI} (hf : FVal ρ w fs fv ft (fzA fz)) (hq : BM ρ w fs fv (fzA fz) I tail) (h1 : I 344 = fs) (h2 : I 345 = fv) (h3 : I 346 = fz) (h4 : ∀ e, I 347 e = if e = k then 1 else ft e) (hk : k < 96) (he : enB ρ k = true) (h0 : ft k = 0) (hp : I 348 (96 + k) ≠ -1) : ∃ I', f_M_turns F ((96 + k : Nat) : Int) I J = some I' ∧ FVal ρ w (I' 344) (I' 345) (I' 347) (fzA (I' 346)) ∧ sumN (I' 344) 96 = sumN fs 96 + 1 ∧ ∀ a, a ≠ 344 → a ≠ 345 → a ≠ 346 → I' a = I a := by
  have hle := (bq_le hq).2
  obtain ⟨rk, q1, q2, q3, q4⟩ := hq
  unfold f_M_turns
  have kk := wpo_iter (step := fun s : Int × MI => f_M_turns_L2 F s.1 s.2 J) (Q := fun e => ∃ (c : Nat) (N : MI), e = ((c : Int), N) ∧ SrG ρ w fs c ∧ WkM ρ w fs fv (fzA fz) rk c (N 345) (I 347) (fzA (N 346)) ∧ ∀ a, a ≠ 345 → a ≠ 346 → N a = I a) (fun s => ∃ t : Nat, s.1 = (t : Int) ∧ t < 192 ∧ I 348 t ≠ -1 ∧ WkM ρ w fs fv (fzA fz) rk t (s.2 345) (I 347) (fzA (s.2 346)) ∧ ∀ a, a ≠ 345 → a ≠ 346 → s.2 a = I a) (fun s => rk s.1.toNat) ?_ (F := F) (s := (((96 + k : Nat) : Int), I)) ?_ ?_
  · obtain ⟨e, e1, c, N, e2, hs, hw, hfr⟩ := kk
    have hc := hs.1
    rw [e1, Option.bind_some, e2]
    dsimp only
    rw [if_pos (by omega), Int.toNat_natCast]
    refine ⟨_, rfl, ?_⟩
    rw [up2_off (show (345 : Nat) ≠ 344 by decide), up2_off (show (346 : Nat) ≠ 344 by decide), up2_off (show (347 : Nat) ≠ 344 by decide), hfr 347 (by decide) (by decide)]
    obtain ⟨w1, w2⟩ := wkm_end (fs' := up2 N 344 c 1 344) hw (fun e he => (hf.2.1 e he).1) hs (fun y => by
      by_cases e : y = c
      · rw [e, up2_same, if_pos rfl]
      · rw [up2_k e, if_neg e, hfr 344 (by decide) (by decide), h1])
    exact ⟨w1, w2, fun a b1 b2 b3 => by rw [up2_off b1]; exact hfr a b2 b3⟩
  · rintro ⟨sp, N⟩ ⟨t, p1, p2, p3, p4, p5⟩
    dsimp only at p1 p4 p5 ⊢
    subst p1
    have f48 : N 348 = I 348 := p5 348 (by decide) (by decide)
    obtain ⟨r1, r2, r3⟩ := q4 t p2 p3
    unfold f_M_turns_L2
    refine wpo_g (by omega) ?_
    rw [Int.toNat_natCast, f48]
    rcases r3 with ⟨r4, r5⟩ | ⟨x, x1, x2, x3, x4, x5⟩
    · exact wpo_g r4 (wpo_s ⟨t, N, rfl, r5, p4, p5⟩)
    · rw [x2, rem32_eq (x := (x : Int)) (by omega) (by omega) (by omega) (by omega), rem32_eq (x := (t : Int)) (by omega) (by omega) (by omega) (by omega)]
      refine wpo_n (by omega) ?_
      have fin : ∀ M : MI, WkM ρ w fs fv (fzA fz) rk x (M 345) (I 347) (fzA (M 346)) → (∀ a, a ≠ 345 → a ≠ 346 → M a = I a) → (∃ t' : Nat, (x : Int) = (t' : Int) ∧ t' < 192 ∧ I 348 t' ≠ -1 ∧ WkM ρ w fs fv (fzA fz) rk t' (M 345) (I 347) (fzA (M 346)) ∧ ∀ a, a ≠ 345 → a ≠ 346 → M a = I a) ∧ rk ((x : Int)).toNat < rk ((t : Int)).toNat := fun M hM hfr => by
        rw [Int.toNat_natCast, Int.toNat_natCast]
        exact ⟨⟨x, rfl, x1, x3, hM, hfr⟩, x4⟩
      have setv : ∀ (c : Nat) (v : Int), c < 96 → ((t = 96 + c ∧ x = c ∧ fv c = 0 ∧ v = 1) ∨ (t = c ∧ x = 96 + c ∧ fv c = 1 ∧ v = 0)) → WkM ρ w fs fv (fzA fz) rk x (up2 N 345 c v 345) (I 347) (fzA (up2 N 345 c v 346)) ∧ ∀ a, a ≠ 345 → a ≠ 346 → up2 N 345 c v a = I a := fun c v hc hx => by
        rw [up2_off (show (346 : Nat) ≠ 345 by decide)]
        refine ⟨wkm_v p4 hc hx x4 (fun e => ?_), fun a b1 b2 => by rw [up2_off b1]; exact p5 a b1 b2⟩
        by_cases e2 : e = c
        · rw [e2, up2_same, if_pos rfl]
        · rw [up2_k e2, if_neg e2]
      have seta : ∀ (d c : Nat) (v : Int), d < 96 → c < 96 → ((t = 96 + d ∧ x = c ∧ fzA fz d c = 1 ∧ v = 0) ∨ (t = c ∧ x = 96 + d ∧ fzA fz d c = 0 ∧ v = 1 ∧ lpB ρ d c = true ∧ 0 ≤ w c)) → WkM ρ w fs fv (fzA fz) rk x (up2 N 346 (96 * d + c) v 345) (I 347) (fzA (up2 N 346 (96 * d + c) v 346)) ∧ ∀ a, a ≠ 345 → a ≠ 346 → up2 N 346 (96 * d + c) v a = I a := fun d c v hd hc hx => by
        rw [up2_off (show (345 : Nat) ≠ 346 by decide)]
        refine ⟨wkm_a p4 hc hd hx x4 (fun d' c' hd' hc' => ?_), fun a b1 b2 => by rw [up2_off b2]; exact p5 a b1 b2⟩
        unfold fzA
        by_cases e2 : d' = d ∧ c' = c
        · rw [if_pos e2, e2.1, e2.2, up2_same]
        · rw [if_neg e2, up2_k (by omega)]
      rcases x5 with ⟨c, b1, b2, b3, b4⟩ | ⟨c, d, b1, b2, b3, b4, b5⟩ | ⟨d, c, b1, b2, b3, b4, b5, b6, b7⟩ | ⟨c, b1, b2, b3, b4⟩
      · refine wpo_n (by omega) (wpo_n (by omega) ?_)
        unfold f_M_turns_b50in2
        refine wpo_g (by omega) (wpo_s ?_)
        have e : ((t : Int) % 96).toNat = c := by omega
        rw [e]
        obtain ⟨m1, m2⟩ := setv c 1 b1 (Or.inl ⟨b3, b2, b4, rfl⟩)
        exact fin _ m1 m2
      · have hdc : d ≠ c := lpB_ne b2 (by rcases hf.2.2 d c b2 b1 with a | a
                                          · omega
                                          · exact a.2.1)
        have ei : w32 (w32 (96 * w32 ((t : Int) - 96)) + (x : Int)) = ((96 * d + c : Nat) : Int) := by
          rw [w32i (x := (t : Int) - 96) (by omega) (by omega), w32i (x := 96 * ((t : Int) - 96)) (by omega) (by omega), w32i (by omega) (by omega)]; omega
        refine wpo_g (by omega) (wpo_g (by omega) ?_)
        rw [ei, Int.toNat_natCast]
        obtain ⟨m1, m2⟩ := seta d c 0 b2 b1 (Or.inl ⟨b4, b3, b5, rfl⟩)
        exact wpo_g (by omega) (wpo_s (fin _ m1 m2))
      · have hdc : d ≠ c := lpB_ne b2 b5
        have ei : w32 (w32 (96 * w32 ((x : Int) - 96)) + (t : Int)) = ((96 * d + c : Nat) : Int) := by
          rw [w32i (x := (x : Int) - 96) (by omega) (by omega), w32i (x := 96 * ((x : Int) - 96)) (by omega) (by omega), w32i (by omega) (by omega)]; omega
        refine wpo_g (by omega) (wpo_n (by omega) ?_)
        rw [ei, Int.toNat_natCast]
        obtain ⟨m1, m2⟩ := seta d c 1 b2 b1 (Or.inr ⟨b4, b3, b7, rfl, b5, b6⟩)
        exact wpo_g (by omega) (wpo_s (fin _ m1 m2))
      · refine wpo_n (by omega) (wpo_g (by omega) ?_)
        unfold f_M_turns_b50in2
        refine wpo_g (by omega) (wpo_s ?_)
        have e : ((t : Int) % 96).toNat = c := by omega
        rw [e]
        obtain ⟨m1, m2⟩ := setv c 0 b1 (Or.inr ⟨b3, b2, b4, rfl⟩)
        exact fin _ m1 m2
  · dsimp only
    have := (q4 (96 + k) (by omega) hp).1
    rw [Int.toNat_natCast]; omega
  · refine ⟨96 + k, rfl, by omega, hp, ?_, fun a b1 b2 => rfl⟩
    dsimp only
    rw [h2, h3]
    exact wkm_start hf hk he h0 h4
theorem oneMore_eq {F lv : Nat} (hF : 1000000 ≤ F) {ρ : RIV} {w : Nat → Int} {I J : MI} (hρ : RivOK ρ) (hr : RivM I lv ρ) (hl : I 296 18 = (lv : Int)) (hmay : ∀ c, c < 96 → (I 335 c ≠ 0 ↔ 0 ≤ w c)) (hf : FVal ρ w (I 344) (I 345) (I 347) (fzA (I 346))) : ∃ (r : Int) (I' : MI), f_M_oneMore F I J = some (r, I') ∧ (∀ a, a ≠ 296 → (a < 344 ∨ 349 < a) → I' a = I a) ∧ (∀ k, k ≠ 75 → I' 296 k = I 296 k) ∧ ((r = 1 ∧ FVal ρ w (I' 344) (I' 345) (I' 347) (fzA (I' 346)) ∧ sumN (I' 344) 96 = sumN (I 344) 96 + 1) ∨ (r = 0 ∧ FMax ρ w (sumN (I 344) 96))) := by
  unfold f_M_oneMore
  rw [fill_loop 348 0 192 (fun _ => -1) (by omega) (fun M => by dsimp only; unfold f_M_oneMore_L2; rw [if_pos (by omega)]) (fun j hj => by
    dsimp only
    unfold f_M_oneMore_L2
    rw [if_neg (by omega), if_pos (by omega), w32i (by omega) (by omega)]
    simp)]
  rw [Option.bind_some]
  have z0 : ∀ a, a ≠ 296 → a ≠ 348 → up2 (fillR I 348 0 192 fun _ => -1) 296 75 0 a = I a := fun a b1 b2 => by
    rw [up2_off b1, fillR_r b2]
  have z1 : ∀ y, y < 192 → up2 (fillR I 348 0 192 fun _ => -1) 296 75 0 348 y = -1 := fun y hy => by
    rw [up2_r (by decide), fillR_in0 hy]
  have z2 : up2 (fillR I 348 0 192 fun _ => -1) 296 75 0 296 75 = 0 := up2_same
  have z3 : ∀ k, k ≠ 75 → up2 (fillR I 348 0 192 fun _ => -1) 296 75 0 296 k = I 296 k := fun k hk => by
    rw [up2_k hk, fillR_r (by decide)]
  revert z0 z1 z2 z3
  generalize up2 (fillR I 348 0 192 fun _ => -1) 296 75 0 = Z
  intro z0 z1 z2 z3
  have bz : BM ρ w (I 344) (I 345) (fzA (I 346)) Z 0 := ⟨fun _ => 0, z2, cnt_none (fun y hy => by simp [z1 y hy]), fun i hi => absurd hi (by omega), fun y hy h => absurd (z1 y hy) h⟩
  have rivZ : ∀ (N : MI) (t : Nat), GM 0 t Z N → RivM N lv ρ ∧ N 296 18 = (lv : Int) ∧ (∀ c, c < 96 → (N 335 c ≠ 0 ↔ 0 ≤ w c)) ∧ (∀ a, a ≠ 296 → a ≠ 348 → a ≠ 349 → N a = I a) ∧ ∀ k, k ≠ 75 → N 296 k = I 296 k := fun N t hg => by
    have fr : ∀ a, a ≠ 296 → a ≠ 348 → a ≠ 349 → N a = I a := fun a c1 c2 c3 => by rw [gro_off hg c1 c2 c3, z0 a c1 c2]
    have fr2 : ∀ k, k ≠ 75 → N 296 k = I 296 k := fun k hk => by rw [hg.2.2.2 296 k (fun z => hk z.2) (by decide) (by decide), z3 k hk]
    exact ⟨rivm_congr hr (fun a b1 b2 => fr a (by omega) (by omega) (by omega)), by rw [fr2 18 (by decide)]; exact hl, fun c hc => by rw [fr 335 (by decide) (by decide) (by decide)]; exact hmay c hc, fr, fr2⟩
  have k1 := wpo_iter (step := fun q : Int × MI => f_M_oneMore_L29 F q.1 q.2 J) (Q := fun N => ∃ t, BM ρ w (I 344) (I 345) (fzA (I 346)) N t ∧ GM 0 t Z N ∧ ∀ y, SrG ρ w (I 344) y → N 348 y ≠ -1) (fun q => ∃ n t : Nat, n ≤ 96 ∧ q.1 = (n : Int) ∧ BM ρ w (I 344) (I 345) (fzA (I 346)) q.2 t ∧ GM 0 t Z q.2 ∧ ∀ y, y < n → SrG ρ w (I 344) y → q.2 348 y ≠ -1) (fun q => 96 - q.1.toNat) ?_ (F := F) (s := ((0 : Int), Z)) (by dsimp only; omega) ⟨0, 0, by omega, rfl, bz, gro_refl, fun y hy => absurd hy (by omega)⟩
  · obtain ⟨I1, e1, t1, b1, g1, s1⟩ := k1
    rw [e1, Option.bind_some]
    have k2 := wpo_iter (step := fun q : Int × MI => f_M_oneMore_L69 F q.1 q.2 J) (Q := fun e => ∃ (N : MI) (tail : Nat), BM ρ w (I 344) (I 345) (fzA (I 346)) N tail ∧ GM 0 tail Z N ∧ GM t1 tail I1 N ∧ ((∃ i c : Nat, i < 192 ∧ c < 96 ∧ e = .inl ((i : Int), (c : Int), N) ∧ N 349 i = ((96 + c : Nat) : Int) ∧ N 348 (96 + c) ≠ -1 ∧ enB ρ c = true ∧ I 347 c = 0) ∨ (e = .inr N ∧ DM ρ w (I 345) (I 347) (fzA (I 346)) N tail))) (fun q => ∃ head tail : Nat, head ≤ tail ∧ q.1 = (head : Int) ∧ BM ρ w (I 344) (I 345) (fzA (I 346)) q.2 tail ∧ GM 0 tail Z q.2 ∧ GM t1 tail I1 q.2 ∧ DM ρ w (I 345) (I 347) (fzA (I 346)) q.2 head) (fun q => 192 - q.1.toNat) ?_ (F := F) (s := ((0 : Int), I1)) (by dsimp only; omega) ⟨0, t1, by omega, rfl, b1, g1, gro_refl, fun i x hi => absurd hi (by omega)⟩
    · obtain ⟨e, e2, N, tail, q1, q2, q2', q3⟩ := k2
      obtain ⟨_, _, _, frN, frN2⟩ := rivZ N tail q2
      rw [e2, Option.bind_some]
      rcases q3 with ⟨i, c, c0, c1, c2, c3, c4, c5, c6⟩ | ⟨c2, c3⟩
      · rw [c2]
        dsimp only
        rw [if_pos (by omega), if_pos (by omega), Int.toNat_natCast, Int.toNat_natCast, up2_r (show (349 : Nat) ≠ 347 by decide), c3]
        have fr47 : ∀ a, a ≠ 347 → up2 N 347 c 1 a = N a := fun a ha => up2_off ha
        have v47 : ∀ e, up2 N 347 c 1 347 e = if e = c then 1 else I 347 e := fun e => by
          by_cases e2 : e = c
          · rw [e2, up2_same, if_pos rfl]
          · rw [up2_k e2, if_neg e2, frN 347 (by decide) (by decide) (by decide)]
        revert fr47 v47
        generalize up2 N 347 c 1 = N'
        intro fr47 v47
        have q1' : BM ρ w (I 344) (I 345) (fzA (I 346)) N' tail := by
          obtain ⟨rk, w1, w2, w3, w4⟩ := q1
          unfold BM BQ
          rw [fr47 348 (by decide), fr47 349 (by decide), fr47 296 (by decide)]
          exact ⟨rk, w1, w2, w3, w4⟩
        obtain ⟨I', t1, t2, t3, t4⟩ := turns_eq (F := F) (J := J) hF hf q1' (by rw [fr47 344 (by decide), frN 344 (by decide) (by decide) (by decide)]) (by rw [fr47 345 (by decide), frN 345 (by decide) (by decide) (by decide)]) (by rw [fr47 346 (by decide), frN 346 (by decide) (by decide) (by decide)]) v47 c1 c5 c6 (by rw [fr47 348 (by decide)]; exact c4)
        rw [t1, Option.bind_some]
        refine ⟨1, I', rfl, fun a b1 b2 => ?_, fun k hk => ?_, Or.inl ⟨rfl, t2, t3⟩⟩
        · rw [t4 a (by omega) (by omega) (by omega), fr47 a (by omega), frN a b1 (by omega) (by omega)]
        · rw [t4 296 (by decide) (by decide) (by decide), fr47 296 (by decide), frN2 k hk]
      · rw [c2]
        refine ⟨0, N, rfl, fun a b1 b2 => frN a b1 (by omega) (by omega), frN2, Or.inr ⟨rfl, none_max hf q1 c3 (fun y hy => q2'.2.1 y (by have := hy.1; omega) (s1 y hy))⟩⟩
    · rintro ⟨x, N⟩ ⟨head, tail, p1, p2, p3, p4, p4', p5⟩
      dsimp only at p2 p3 p4 p4' p5 ⊢
      subst p2
      obtain ⟨hrN, hlN, hmN, fr, fr2⟩ := rivZ N tail p4
      obtain ⟨l1, l2⟩ := bq_le p3
      unfold f_M_oneMore_L69
      rw [l1]
      refine wpo_i (fun hc => wpo_s ?_) (fun hc => wpo_g (by omega) ?_)
      · have : head = tail := by omega
        subst this
        exact ⟨N, head, p3, p4, p4', Or.inr ⟨rfl, p5⟩⟩
      rw [Int.toNat_natCast]
      obtain ⟨y, y1, y2, y3⟩ : ∃ y : Nat, y < 192 ∧ N 349 head = (y : Int) ∧ N 348 y ≠ -1 := by
        obtain ⟨_, _, _, q, _⟩ := p3
        exact q head (by omega)
      rw [y2, rem32_eq (by omega) (by omega) (by omega) (by omega)]
      refine wpo_i (fun hc2 => ?_) (fun hc2 => ?_)
      · obtain ⟨c, hc3⟩ : ∃ c, y = 96 + c := ⟨y - 96, by omega⟩
        subst hc3
        have hcl : c < 96 := by omega
        have ew : ((96 + c : Nat) : Int) % 96 = (c : Int) := by omega
        rw [ew, M_ends (lv := lv) hρ hrN hlN (by omega), Option.bind_some]
        have go : (enB ρ c = true → I 347 c = 1) → wpo (f_M_oneMore_b142in69 F (head : Int) (c : Int) N J) (fun r => Sum.elim (fun e : (Int × Int × MI) ⊕ MI => ∃ (N : MI) (tail : Nat), BM ρ w (I 344) (I 345) (fzA (I 346)) N tail ∧ GM 0 tail Z N ∧ GM t1 tail I1 N ∧ ((∃ i c : Nat, i < 192 ∧ c < 96 ∧ e = .inl ((i : Int), (c : Int), N) ∧ N 349 i = ((96 + c : Nat) : Int) ∧ N 348 (96 + c) ≠ -1 ∧ enB ρ c = true ∧ I 347 c = 0) ∨ (e = .inr N ∧ DM ρ w (I 345) (I 347) (fzA (I 346)) N tail))) (fun s' : Int × MI => (∃ head tail : Nat, head ≤ tail ∧ s'.1 = (head : Int) ∧ BM ρ w (I 344) (I 345) (fzA (I 346)) s'.2 tail ∧ GM 0 tail Z s'.2 ∧ GM t1 tail I1 s'.2 ∧ DM ρ w (I 345) (I 347) (fzA (I 346)) s'.2 head) ∧ 192 - s'.1.toNat < 192 - ((head : Int)).toNat) r) := by
          intro hk
          unfold f_M_oneMore_b142in69
          obtain ⟨I', t', q1, q2, q3, q4⟩ := findsOut_eq (F := F) (J := J) hF hρ hrN hlN hmN hf (fr 345 (by decide) (by decide) (by decide)) (fr 346 (by decide) (by decide) (by decide)) p3 hcl y3
          rw [q1, Option.bind_some, w32i (by omega) (by omega)]
          refine wpo_s ⟨⟨head + 1, t', by have := q3.1; omega, by dsimp only; omega, q2, gro_trans p4 q3, gro_trans p4' q3, dn_s p5 (by omega) q3 y2 (fun c' hc' e he => ?_) q4⟩, by dsimp only; omega⟩
          have : c' = c := by omega
          rw [this] at he ⊢
          exact hk he
        by_cases gf : enB ρ c = true
        · rw [if_pos gf]
          refine wpo_n (by decide) (wpo_g (by omega) ?_)
          rw [Int.toNat_natCast, fr 347 (by decide) (by decide) (by decide)]
          refine wpo_i (fun hc3 => go (fun _ => ?_)) (fun hc3 => wpo_s ?_)
          · rcases (hf.2.1 c hcl).2.2 with a | a
            · exact absurd a hc3
            · exact a.1
          · have h0 : I 347 c = 0 := by
              by_cases e : I 347 c = 0
              · exact e
              · exact absurd e hc3
            exact ⟨N, tail, p3, p4, p4', Or.inl ⟨head, c, by omega, hcl, rfl, y2, y3, gf, h0⟩⟩
        · rw [if_neg gf]
          exact wpo_g rfl (go (fun h => absurd h gf))
      · have ew : ((y : Nat) : Int) % 96 = (y : Int) := by omega
        rw [ew]
        obtain ⟨I', t', q1, q2, q3, q4⟩ := findsIn_eq (F := F) (c := y) (J := J) hF hf (fr 345 (by decide) (by decide) (by decide)) (fr 346 (by decide) (by decide) (by decide)) p3 (by omega) y3
        rw [q1, Option.bind_some, w32i (by omega) (by omega)]
        exact wpo_s ⟨⟨head + 1, t', by have := q3.1; omega, by dsimp only; omega, q2, gro_trans p4 q3, gro_trans p4' q3, dn_s p5 (by omega) q3 y2 (fun c' hc' e he => by omega) q4⟩, by dsimp only; omega⟩
  · rintro ⟨x, N⟩ ⟨n, t, p1, p2, p3, p4, p5⟩
    dsimp only at p2 p3 p4 p5 ⊢
    subst p2
    obtain ⟨hrN, hlN, hmN, fr, fr2⟩ := rivZ N t p4
    unfold f_M_oneMore_L29
    refine wpo_i (fun hc => wpo_s ?_) (fun hc => ?_)
    · have : n = 96 := by omega
      subst this
      exact ⟨t, p3, p4, fun y hy => p5 y hy.1 hy⟩
    have hi : n < 96 := by omega
    have e96 := M_leaps (F := F) (lv := lv) (k := 96) (to := n) (J := J) hρ hrN hlN (by omega) hi
    rw [show (((96 : Nat)) : Int) = 96 from rfl] at e96
    rw [e96, Option.bind_some, w32i (x := (n : Int) + 1) (by omega) (by omega)]
    have no : ¬ SrG ρ w (I 344) n → ((∃ n' t : Nat, n' ≤ 96 ∧ (n : Int) + 1 = (n' : Int) ∧ BM ρ w (I 344) (I 345) (fzA (I 346)) N t ∧ GM 0 t Z N ∧ ∀ y, y < n' → SrG ρ w (I 344) y → N 348 y ≠ -1) ∧ 96 - ((n : Int) + 1).toNat < 96 - ((n : Int)).toNat) := by
      intro hno
      refine ⟨⟨n + 1, t, by omega, by omega, p3, p4, fun y hy hs => ?_⟩, by omega⟩
      by_cases e : y = n
      · rw [e] at hs; exact absurd hs hno
      · exact p5 y (by omega) hs
    by_cases g : N 335 n ≠ 0 ∧ lpB ρ 96 n = true
    · rw [if_pos g]
      refine wpo_n (by decide) (wpo_g (by clear no; omega) ?_)
      rw [Int.toNat_natCast, fr 344 (by decide) (by decide) (by decide)]
      refine wpo_i (fun hc3 => wpo_s (no (fun h => hc3 h.2.2.2))) (fun hc3 => ?_)
      clear no
      have h0 : I 344 n = 0 := by
        by_cases e : I 344 n = 0
        · exact e
        · exact absurd e hc3
      rw [finds_g]
      obtain ⟨I', t2, e1, e2, e3, e4⟩ := reach_q (by decide) p3 (y := n) (v := -2) (by omega) (by decide) (Or.inl ⟨rfl, hi, g.2, (hmN n hi).mp g.1, h0⟩)
      rw [e1, Option.bind_some]
      refine wpo_s ⟨⟨n + 1, t2, by omega, by dsimp only; omega, e2, gro_trans p4 e3, fun y hy hs => ?_⟩, by dsimp only; omega⟩
      by_cases e : y = n
      · rw [e]; exact e4
      · exact e3.2.1 y (by omega) (p5 y (by omega) hs)
    · rw [if_neg g]
      exact wpo_g rfl (wpo_s (no (fun h => g ⟨(hmN n hi).mpr h.2.2.1, h.2.1⟩)))
