/-! fords: what is left over a flow, the most, the search -/
def RsG (ρ : RIV) (w fv : Nat → Int) (fa : Nat → Nat → Int) (x y : Nat) : Prop :=
  (∃ c, c < 96 ∧ x = c ∧ y = 96 + c ∧ fv c = 0) ∨ (∃ c d, c < 96 ∧ d < 96 ∧ x = c ∧ y = 96 + d ∧ fa d c = 1) ∨ (∃ d c, c < 96 ∧ d < 96 ∧ x = 96 + d ∧ y = c ∧ lpB ρ d c = true ∧ 0 ≤ w c ∧ fa d c = 0) ∨ (∃ c, c < 96 ∧ x = 96 + c ∧ y = c ∧ fv c = 1)
def SrG (ρ : RIV) (w fs : Nat → Int) (y : Nat) : Prop := y < 96 ∧ lpB ρ 96 y = true ∧ 0 ≤ w y ∧ fs y = 0
def SkG (ρ : RIV) (ft : Nat → Int) (x : Nat) : Prop := ∀ c, c < 96 → x = 96 + c → enB ρ c = true → ft c = 1
def FVal (ρ : RIV) (w fs fv ft : Nat → Int) (fa : Nat → Nat → Int) : Prop :=
  Flo fs fv ft fa ∧ (∀ c, c < 96 → (fs c = 0 ∨ fs c = 1 ∧ lpB ρ 96 c = true ∧ 0 ≤ w c) ∧ (fv c = 0 ∨ fv c = 1) ∧ (ft c = 0 ∨ ft c = 1 ∧ enB ρ c = true)) ∧ ∀ d c, d < 96 → c < 96 → fa d c = 0 ∨ fa d c = 1 ∧ lpB ρ d c = true ∧ 0 ≤ w c
theorem cut_max {ρ : RIV} {w fs fv ft : Nat → Int} {fa : Nat → Nat → Int} (h : FVal ρ w fs fv ft fa) (R : Nat → Bool) (hS : ∀ y, SrG ρ w fs y → R y = true) (hR : ∀ x y, R x = true → RsG ρ w fv fa x y → R y = true) (hT : ∀ x, R x = true → SkG ρ ft x) {gs gv gt : Nat → Int} {ga : Nat → Nat → Int} (hg : FVal ρ w gs gv gt ga) : sumN gs 96 ≤ sumN fs 96 := by
  refine flo_le hg.1 h.1 (fun c => if R c = true then 1 else 0) (fun c => if R (96 + c) = true then 1 else 0) (fun c hc => ?_) (fun d c hd hc => ?_)
  · obtain ⟨a1, a2, a3⟩ := h.2.1 c hc
    obtain ⟨b1, b2, b3⟩ := hg.2.1 c hc
    have k1 : R c ≠ true → gs c ≤ fs c := fun r => by
      rcases b1 with b | ⟨b, e1, e2⟩
      · rcases a1 with a | a <;> omega
      · rcases a1 with a | a
        · exact absurd (hS c ⟨hc, e1, e2, a⟩) r
        · omega
    have k2 : R (96 + c) = true → gt c ≤ ft c := fun r => by
      rcases b3 with b | ⟨b, e⟩
      · rcases a3 with a | a <;> omega
      · have := hT _ r c hc rfl e; omega
    have k3 : R c = true → R (96 + c) ≠ true → fv c = 1 := fun r1 r2 => by
      rcases a2 with a | a
      · exact absurd (hR c (96 + c) r1 (Or.inl ⟨c, hc, rfl, rfl, a⟩)) r2
      · exact a
    have k4 : R c ≠ true → R (96 + c) = true → fv c = 0 := fun r1 r2 => by
      rcases a2 with a | a
      · exact a
      · exact absurd (hR (96 + c) c r2 (Or.inr (Or.inr (Or.inr ⟨c, hc, rfl, rfl, a⟩)))) r1
    by_cases r1 : R c = true
    · by_cases r2 : R (96 + c) = true
      · rw [if_pos r1, if_pos r2]
        have := k2 r2
        exact ⟨by omega, by omega, by omega⟩
      · rw [if_pos r1, if_neg r2]
        have := k3 r1 r2
        exact ⟨by omega, by omega, by omega⟩
    · by_cases r2 : R (96 + c) = true
      · rw [if_neg r1, if_pos r2]
        have := k2 r2
        have := k1 r1
        have := k4 r1 r2
        exact ⟨by omega, by omega, by omega⟩
      · rw [if_neg r1, if_neg r2]
        have := k1 r1
        exact ⟨by omega, by omega, by omega⟩
  · have a := h.2.2 d c hd hc
    have b := hg.2.2 d c hd hc
    have k1 : R (96 + d) = true → R c ≠ true → ga d c ≤ fa d c := fun r1 r2 => by
      rcases b with b | ⟨b, e1, e2⟩
      · rcases a with a | a <;> omega
      · rcases a with a | a
        · exact absurd (hR (96 + d) c r1 (Or.inr (Or.inr (Or.inl ⟨d, c, hc, hd, rfl, rfl, e1, e2, a⟩)))) r2
        · omega
    have k2 : R (96 + d) ≠ true → R c = true → fa d c = 0 := fun r1 r2 => by
      rcases a with a | a
      · exact a
      · exact absurd (hR c (96 + d) r2 (Or.inr (Or.inl ⟨c, d, hc, hd, rfl, rfl, a.1⟩))) r1
    have b0 : 0 ≤ ga d c := by rcases b with b | b <;> omega
    by_cases r1 : R (96 + d) = true
    · by_cases r2 : R c = true
      · rw [if_pos r1, if_pos r2]; omega
      · rw [if_pos r1, if_neg r2]
        have := k1 r1 r2
        omega
    · by_cases r2 : R c = true
      · rw [if_neg r1, if_pos r2]
        have := k2 r1 r2
        omega
      · rw [if_neg r1, if_neg r2]; omega
def FMax (ρ : RIV) (w : Nat → Int) (n : Int) : Prop := (∃ fs fv ft fa, FVal ρ w fs fv ft fa ∧ sumN fs 96 = n) ∧ ∀ gs gv gt ga, FVal ρ w gs gv gt ga → sumN gs 96 ≤ n
theorem fmax_uniq {ρ : RIV} {w : Nat → Int} {n m : Int} (h : FMax ρ w n) (h' : FMax ρ w m) : n = m := by
  obtain ⟨⟨fs, fv, ft, fa, h1, h2⟩, h3⟩ := h
  obtain ⟨⟨gs, gv, gt, ga, h1', h2'⟩, h3'⟩ := h'
  have := h3' _ _ _ _ h1
  have := h3 _ _ _ _ h1'
  omega
/-! the search: pr: found by whom, qr: the queue, (tr, tk): its length -/
def gReach (pr qr tr tk : Nat) (nn : Int) (x1 x2 : Int) (I : MI) : Option MI := (if 0 ≤ x1 ∧ x1 < 192 then (if (I pr (x1).toNat) = nn then (if 0 ≤ ((up2 I pr (x1).toNat x2) tr tk) ∧ ((up2 I pr (x1).toNat x2) tr tk) < 192 then (some (up2 (up2 (up2 I pr (x1).toNat x2) qr (((up2 I pr (x1).toNat x2) tr tk)).toNat x1) tr tk (w32 (((up2 (up2 I pr (x1).toNat x2) qr (((up2 I pr (x1).toNat x2) tr tk)).toNat x1) tr tk) + 1)))) else none) else (some I)) else none)
theorem reach_g {F : Nat} {x1 x2 : Int} {I : MI} : f_F_reach F x1 x2 I = gReach 253 254 250 4 (-3) x1 x2 I := rfl
theorem finds_g {F : Nat} {x1 x2 : Int} {I J : MI} : f_M_finds F x1 x2 I J = gReach 348 349 296 75 (-1) x1 x2 I := rfl
def BQ (pr qr tr tk : Nat) (nn sr : Int) (S : Nat → Prop) (R : Nat → Nat → Prop) (I : MI) (tail : Nat) : Prop := ∃ rk : Nat → Nat, I tr tk = (tail : Int) ∧ cnt (fun y => decide (I pr y ≠ nn)) 192 = (tail : Int) ∧ (∀ i, i < tail → ∃ y : Nat, y < 192 ∧ I qr i = (y : Int) ∧ I pr y ≠ nn) ∧ ∀ y, y < 192 → I pr y ≠ nn → rk y < tail ∧ I qr (rk y) = (y : Int) ∧ ((I pr y = sr ∧ S y) ∨ ∃ x : Nat, x < 192 ∧ I pr y = (x : Int) ∧ I pr x ≠ nn ∧ rk x < rk y ∧ R x y)
def Gro (pr qr tr tk : Nat) (nn : Int) (tail tail' : Nat) (I I' : MI) : Prop := tail ≤ tail' ∧ (∀ y, y < 192 → I pr y ≠ nn → I' pr y ≠ nn) ∧ (∀ i, i < tail → I' qr i = I qr i) ∧ ∀ a k, ¬ (a = tr ∧ k = tk) → a ≠ pr → a ≠ qr → I' a k = I a k
theorem gro_refl {pr qr tr tk tail : Nat} {nn : Int} {I : MI} : Gro pr qr tr tk nn tail tail I I := ⟨Nat.le_refl _, fun _ _ h => h, fun _ _ => rfl, fun _ _ _ _ _ => rfl⟩
theorem gro_trans {pr qr tr tk t1 t2 t3 : Nat} {nn : Int} {I1 I2 I3 : MI} (h : Gro pr qr tr tk nn t1 t2 I1 I2) (h' : Gro pr qr tr tk nn t2 t3 I2 I3) : Gro pr qr tr tk nn t1 t3 I1 I3 :=
  ⟨Nat.le_trans h.1 h'.1, fun y hy g => h'.2.1 y hy (h.2.1 y hy g), fun i hi => (h'.2.2.1 i (Nat.lt_of_lt_of_le hi h.1)).trans (h.2.2.1 i hi), fun a k b1 b2 b3 => (h'.2.2.2 a k b1 b2 b3).trans (h.2.2.2 a k b1 b2 b3)⟩
theorem gro_off {pr qr tr tk t1 t2 a : Nat} {nn : Int} {I1 I2 : MI} (h : Gro pr qr tr tk nn t1 t2 I1 I2) (h1 : a ≠ tr) (h2 : a ≠ pr) (h3 : a ≠ qr) : I2 a = I1 a := by
  funext k
  exact h.2.2.2 a k (fun z => h1 z.1) h2 h3
theorem bq_le {pr qr tr tk : Nat} {nn sr : Int} {S : Nat → Prop} {R : Nat → Nat → Prop} {I : MI} {tail : Nat} (h : BQ pr qr tr tk nn sr S R I tail) : I tr tk = (tail : Int) ∧ tail ≤ 192 := by
  obtain ⟨rk, h1, h2, _⟩ := h
  have := cnt_nn (fun y => decide (I pr y ≠ nn)) 192
  exact ⟨h1, by omega⟩
theorem reach_q {pr qr tr tk : Nat} {nn sr : Int} {S : Nat → Prop} {R : Nat → Nat → Prop} (hd : pr ≠ qr ∧ pr ≠ tr ∧ qr ≠ tr) {I : MI} {tail : Nat} (h : BQ pr qr tr tk nn sr S R I tail) {y : Nat} {v : Int} (hy : y < 192) (hv : v ≠ nn) (hp : (v = sr ∧ S y) ∨ ∃ x : Nat, x < 192 ∧ v = (x : Int) ∧ I pr x ≠ nn ∧ R x y) : ∃ I' tail', gReach pr qr tr tk nn (y : Int) v I = some I' ∧ BQ pr qr tr tk nn sr S R I' tail' ∧ Gro pr qr tr tk nn tail tail' I I' ∧ I' pr y ≠ nn := by
  have hq := h
  obtain ⟨rk, h1, h2, h3, h4⟩ := h
  unfold gReach
  rw [if_pos (by omega), Int.toNat_natCast]
  by_cases g : I pr y = nn
  · have ht : tail < 192 := by
      have := cnt_lt (p := fun z => decide (I pr z ≠ nn)) (q := fun _ => true) (n := 192) (k := y) (fun _ _ _ => rfl) hy (by simp [g]) rfl
      have := cnt_nn (fun _ => true) 192
      omega
    have e1 : up2 I pr y v tr tk = (tail : Int) := by rw [up2_r hd.2.1.symm]; exact h1
    have e2 : up2 (up2 I pr y v) qr tail (y : Int) tr tk = (tail : Int) := by rw [up2_r hd.2.2.symm]; exact e1
    rw [if_pos g, e1, if_pos (by omega), Int.toNat_natCast, e2, w32i (by omega) (by omega)]
    have mp : ∀ z, up2 (up2 (up2 I pr y v) qr tail (y : Int)) tr tk ((tail : Int) + 1) pr z = if z = y then v else I pr z := fun z => by
      rw [up2_r hd.2.1, up2_r hd.1]
      by_cases e : z = y
      · rw [e, up2_same, if_pos rfl]
      · rw [up2_k e, if_neg e]
    have mq : ∀ i, up2 (up2 (up2 I pr y v) qr tail (y : Int)) tr tk ((tail : Int) + 1) qr i = if i = tail then (y : Int) else I qr i := fun i => by
      rw [up2_r hd.2.2]
      by_cases e : i = tail
      · rw [e, up2_same, if_pos rfl]
      · rw [up2_k e, up2_r hd.1.symm, if_neg e]
    have mt : up2 (up2 (up2 I pr y v) qr tail (y : Int)) tr tk ((tail : Int) + 1) tr tk = (tail : Int) + 1 := up2_same
    have mf : ∀ a k, ¬ (a = tr ∧ k = tk) → a ≠ pr → a ≠ qr → up2 (up2 (up2 I pr y v) qr tail (y : Int)) tr tk ((tail : Int) + 1) a k = I a k := fun a k b1 b2 b3 => by
      by_cases e : a = tr
      · rw [up2_ne (Or.inr (fun z => b1 ⟨e, z⟩)), up2_r b3, up2_r b2]
      · rw [up2_r e, up2_r b3, up2_r b2]
    revert mp mq mt mf
    generalize up2 (up2 (up2 I pr y v) qr tail (y : Int)) tr tk ((tail : Int) + 1) = M
    intro mp mq mt mf
    have fnd : ∀ z, I pr z ≠ nn → M pr z = I pr z := fun z hz => by
      rw [mp, if_neg (fun e => hz (by rw [e]; exact g))]
    refine ⟨M, tail + 1, rfl, ⟨fun z => if z = y then tail else rk z, by rw [mt]; omega, ?_, fun i hi => ?_, fun z hz hf => ?_⟩, ⟨by omega, fun z hz hf => by rw [fnd z hf]; exact hf, fun i hi => by rw [mq, if_neg (by omega)], mf⟩, by rw [mp, if_pos rfl]; exact hv⟩
    · have := cnt_add (p := fun z => decide (I pr z ≠ nn)) (q := fun z => decide (M pr z ≠ nn)) hy (by simp [g]) (by rw [mp, if_pos rfl]; simp [hv]) (fun z hz hne => by rw [mp, if_neg hne])
      rw [this, h2]; omega
    · by_cases e : i = tail
      · exact ⟨y, hy, by rw [mq, if_pos e], by rw [mp, if_pos rfl]; exact hv⟩
      · obtain ⟨z, z1, z2, z3⟩ := h3 i (by omega)
        exact ⟨z, z1, by rw [mq, if_neg e]; exact z2, by rw [fnd z z3]; exact z3⟩
    · by_cases e : z = y
      · subst e
        dsimp only
        rw [if_pos rfl, mq, if_pos rfl, mp, if_pos rfl]
        refine ⟨by omega, rfl, ?_⟩
        rcases hp with p | ⟨x, x1, x2, x3, x4⟩
        · exact Or.inl p
        · refine Or.inr ⟨x, x1, x2, by rw [fnd x x3]; exact x3, ?_, x4⟩
          rw [if_neg (fun e => x3 (by rw [e]; exact g))]
          exact (h4 x x1 x3).1
      · rw [mp, if_neg e] at hf
        obtain ⟨a1, a2, a3⟩ := h4 z hz hf
        dsimp only
        rw [if_neg e, mq, if_neg (by omega), mp, if_neg e]
        refine ⟨by omega, a2, ?_⟩
        rcases a3 with p | ⟨x, x1, x2, x3, x4, x5⟩
        · exact Or.inl p
        · refine Or.inr ⟨x, x1, x2, by rw [fnd x x3]; exact x3, ?_, x5⟩
          rw [if_neg (fun e => x3 (by rw [e]; exact g))]
          exact x4
  · rw [if_neg g]
    exact ⟨I, tail, rfl, hq, gro_refl, g⟩
/-- those ahead of the head are done -/
def Dn (pr qr : Nat) (nn : Int) (R : Nat → Nat → Prop) (T : Nat → Prop) (I : MI) (head : Nat) : Prop := ∀ i x : Nat, i < head → x < 192 → I qr i = (x : Int) → T x ∧ ∀ y, y < 192 → R x y → I pr y ≠ nn
theorem dn_gro {pr qr tr tk t1 t2 head : Nat} {nn : Int} {R : Nat → Nat → Prop} {T : Nat → Prop} {I1 I2 : MI} (h : Dn pr qr nn R T I1 head) (hh : head ≤ t1) (hg : Gro pr qr tr tk nn t1 t2 I1 I2) : Dn pr qr nn R T I2 head := fun i x hi hx hq => by
  rw [hg.2.2.1 i (by omega)] at hq
  obtain ⟨a, b⟩ := h i x hi hx hq
  exact ⟨a, fun y hy hr => hg.2.1 y hy (b y hy hr)⟩
theorem dn_s {pr qr tr tk t1 t2 head : Nat} {nn : Int} {R : Nat → Nat → Prop} {T : Nat → Prop} {I1 I2 : MI} (h : Dn pr qr nn R T I1 head) (hh : head < t1) (hg : Gro pr qr tr tk nn t1 t2 I1 I2) {x : Nat} (hx : I1 qr head = (x : Int)) (hT : T x) (hR : ∀ y, y < 192 → R x y → I2 pr y ≠ nn) : Dn pr qr nn R T I2 (head + 1) := fun i z hi hz hq => by
  by_cases e : i = head
  · subst e
    rw [hg.2.2.1 i hh, hx] at hq
    have : x = z := by omega
    subst this
    exact ⟨hT, hR⟩
  · exact dn_gro h (by omega) hg i z (by omega) hz hq
theorem dn_all {pr qr tr tk tail : Nat} {nn sr : Int} {S : Nat → Prop} {R : Nat → Nat → Prop} {T : Nat → Prop} {I : MI} (h : BQ pr qr tr tk nn sr S R I tail) (hd : Dn pr qr nn R T I tail) : ∀ x, x < 192 → I pr x ≠ nn → T x ∧ ∀ y, y < 192 → R x y → I pr y ≠ nn := fun x hx hf => by
  obtain ⟨rk, h1, h2, h3, h4⟩ := h
  obtain ⟨a, b, _⟩ := h4 x hx hf
  exact hd (rk x) x a hx b
theorem rsg_lt {ρ : RIV} {w fv : Nat → Int} {fa : Nat → Nat → Int} {x y : Nat} (h : RsG ρ w fv fa x y) : x < 192 ∧ y < 192 := by
  rcases h with ⟨c, h1, h2, h3, _⟩ | ⟨c, d, h1, h2, h3, h4, _⟩ | ⟨d, c, h1, h2, h3, h4, _⟩ | ⟨c, h1, h2, h3, _⟩ <;> omega
/-- a search that found no end shows that there is no more -/
theorem none_max {pr qr tr tk tail : Nat} {nn sr : Int} {ρ : RIV} {w fs fv ft : Nat → Int} {fa : Nat → Nat → Int} {I : MI} (h : FVal ρ w fs fv ft fa) (hq : BQ pr qr tr tk nn sr (SrG ρ w fs) (RsG ρ w fv fa) I tail) (hd : Dn pr qr nn (RsG ρ w fv fa) (SkG ρ ft) I tail) (hs : ∀ y, SrG ρ w fs y → I pr y ≠ nn) : FMax ρ w (sumN fs 96) := by
  refine ⟨⟨fs, fv, ft, fa, h, rfl⟩, fun gs gv gt ga hg => cut_max h (fun x => decide (x < 192) && decide (I pr x ≠ nn)) (fun y hy => ?_) (fun x y hx hr => ?_) (fun x hx => ?_) hg⟩
  · have := hs y hy
    simp [this, show y < 192 by have := hy.1; omega]
  · simp only [Bool.and_eq_true, decide_eq_true_eq] at hx ⊢
    have hy := (rsg_lt hr).2
    exact ⟨hy, (dn_all hq hd x hx.1 hx.2).2 y hy hr⟩
  · simp only [Bool.and_eq_true, decide_eq_true_eq] at hx
    exact (dn_all hq hd x hx.1 hx.2).1
