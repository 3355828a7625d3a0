/-! givers: the model finds them -/
/-- the model knows: n stones of sizes wt, the river -/
def KM (I : MI) (lv n : Nat) (ρ : RIV) (wt : Nat → Int) : Prop := RivM I lv ρ ∧ I 296 18 = (lv : Int) ∧ I 296 63 = (n : Int) ∧ ∀ i, i < n → I 339 i = wt i
theorem km_congr {I I' : MI} {lv n : Nat} {ρ : RIV} {wt : Nat → Int} (h : KM I lv n ρ wt) (h1 : ∀ a, 305 ≤ a → a ≤ 327 → I' a = I a) (h2 : I' 296 18 = I 296 18) (h3 : I' 296 63 = I 296 63) (h4 : I' 339 = I 339) : KM I' lv n ρ wt :=
  ⟨rivm_congr h.1 h1, by rw [h2]; exact h.2.1, by rw [h3]; exact h.2.2.1, fun i hi => by rw [h4]; exact h.2.2.2 i hi⟩
/-- one stone: the first whom it costs no more -/
theorem find_one {F lv n k : Nat} (hF : 1000000 ≤ F) {I J : MI} {ρ : RIV} {wt has : Nat → Int} {rest : Int} {aa : Nat → Nat} (hρ : RivOK ρ) (hk : k < n) (hn : n ≤ 72) (hK : KM I lv n ρ wt) (hwt : ∀ i, i < n → 1 ≤ wt i ∧ wt i ≤ 10) (hcap : ∀ m : Nat, (m : Int) < aN ρ → I 340 m = has m ∧ 0 ≤ has m ∧ has m ≤ 9) (ho : OptA (aN ρ).toNat has (gri ρ) (fun i m => wt i ≤ siz ρ m) n (fT k) aa) (hrest : rest = cost (gri ρ) (fT k) n aa) (hrb : rest ≤ 8000) : ∃ e, iter (fun q : Int × MI => f_M_findsGivers_L71 F rest (k : Int) q.1 q.2 J) F (0, I) = some e ∧ ∃ (m : Nat) (I' : MI) (a1 : Nat → Nat), e = .inl ((m : Int), gri ρ m, I') ∧ (m : Int) < aN ρ ∧ wt k ≤ siz ρ m ∧ 0 < has m ∧ (∀ a, a ≠ 340 → a ≠ 341 → I' a = I a) ∧ (∀ q : Nat, (q : Int) < aN ρ → I' 340 q = has q - dl m q) ∧ OptA (aN ρ).toNat (fun q => has q - dl m q) (gri ρ) (fun i m => wt i ≤ siz ρ m) n (fT (k + 1)) a1 ∧ cost (gri ρ) (fT (k + 1)) n a1 = rest - gri ρ m ∧ ∀ b, OptA (aN ρ).toNat has (gri ρ) (fun i m => wt i ≤ siz ρ m) n (fT k) b → m ≤ b k := by
  have h8 := hρ.2.2.2.1
  have hgr : ∀ m, m < (aN ρ).toNat → 0 ≤ gri ρ m ∧ gri ρ m ≤ 99 := fun m hm => (hρ.2.2.2.2.2.2.2.1 m (by omega)).2.2.2
  have hr0 : 0 ≤ rest := by rw [hrest]; exact cost_nn (fun m hm => (hgr m hm).1) (fun i hi ht => (ho.1.1 i hi ht).1)
  have hlv := hK.1.1
  refine wpo_iter (step := fun q : Int × MI => f_M_findsGivers_L71 F rest (k : Int) q.1 q.2 J) (Q := fun e => ∃ (m : Nat) (I' : MI) (a1 : Nat → Nat), e = .inl ((m : Int), gri ρ m, I') ∧ (m : Int) < aN ρ ∧ wt k ≤ siz ρ m ∧ 0 < has m ∧ (∀ a, a ≠ 340 → a ≠ 341 → I' a = I a) ∧ (∀ q : Nat, (q : Int) < aN ρ → I' 340 q = has q - dl m q) ∧ OptA (aN ρ).toNat (fun q => has q - dl m q) (gri ρ) (fun i m => wt i ≤ siz ρ m) n (fT (k + 1)) a1 ∧ cost (gri ρ) (fT (k + 1)) n a1 = rest - gri ρ m ∧ ∀ b, OptA (aN ρ).toNat has (gri ρ) (fun i m => wt i ≤ siz ρ m) n (fT k) b → m ≤ b k) (fun q => ∃ m : Nat, (m : Int) ≤ aN ρ ∧ q.1 = (m : Int) ∧ (∀ a, a ≠ 340 → a ≠ 341 → q.2 a = I a) ∧ (∀ z : Nat, (z : Int) < aN ρ → q.2 340 z = has z) ∧ ∀ b, OptA (aN ρ).toNat has (gri ρ) (fun i m => wt i ≤ siz ρ m) n (fT k) b → m ≤ b k) (fun q => (aN ρ).toNat - q.1.toNat) ?_ (F := F) (s := ((0 : Int), I)) (by dsimp only; omega) ⟨0, by omega, rfl, fun _ _ _ => rfl, fun z hz => (hcap z hz).1, fun b _ => Nat.zero_le _⟩
  rintro ⟨x, M⟩ ⟨m, p1, p2, p3, p4, p5⟩
  dsimp only at p2 p3 p4 ⊢
  subst p2
  have hKM : KM M lv n ρ wt := km_congr hK (fun a b1 b2 => p3 a (by clear p5; omega) (by clear p5; omega)) (by rw [p3 296 (by decide) (by decide)]) (by rw [p3 296 (by decide) (by decide)]) (p3 339 (by decide) (by decide))
  unfold f_M_findsGivers_L71
  rw [hKM.2.1, Int.toNat_natCast, hKM.1.2.2.2.2.1]
  refine wpo_g (by clear p5; omega) (wpo_i (fun hc => ?_) (fun hc => ?_))
  · have h1 := p5 aa ho
    have h2 := (ho.1.1 k hk (by simp [fT])).1
    clear p5
    omega
  have hm : (m : Int) < aN ρ := by clear p5; omega
  have hmN : m < (aN ρ).toNat := by clear p5; omega
  obtain ⟨c1, c2, c3⟩ := hcap m hm
  have ew : w32 ((m : Int) + 1) = (m : Int) + 1 := by clear p5; exact w32i (by omega) (by omega)
  -- this one is passed over
  have skip : ∀ L : MI, (∀ a, a ≠ 340 → a ≠ 341 → L a = I a) → (∀ z : Nat, (z : Int) < aN ρ → L 340 z = has z) → (∀ b, OptA (aN ρ).toNat has (gri ρ) (fun i m => wt i ≤ siz ρ m) n (fT k) b → b k ≠ m) → (∃ m' : Nat, (m' : Int) ≤ aN ρ ∧ (m : Int) + 1 = (m' : Int) ∧ (∀ a, a ≠ 340 → a ≠ 341 → L a = I a) ∧ (∀ z : Nat, (z : Int) < aN ρ → L 340 z = has z) ∧ ∀ b, OptA (aN ρ).toNat has (gri ρ) (fun i m => wt i ≤ siz ρ m) n (fT k) b → m' ≤ b k) ∧ (aN ρ).toNat - ((m : Int) + 1).toNat < (aN ρ).toNat - ((m : Int)).toNat := fun L h1 h2 h3 =>
    ⟨⟨m + 1, by clear p5; omega, by clear p5; omega, h1, h2, fun b hb => by
      have e1 := p5 b hb
      have e2 := h3 b hb
      clear p5
      omega⟩, by clear p5; omega⟩
  refine wpo_g (by clear p5; omega) ?_
  rw [Int.toNat_natCast, p4 m hm, ix8 hlv (by clear p5; omega), ew]
  refine wpo_i (fun hc2 => wpo_s (skip M p3 p4 (fun b hb e => ?_))) (fun hc2 => ?_)
  · have := va_caG hb.1 hk (by simp [fT])
    rw [e] at this
    have := this.1
    clear p5
    omega
  have hpos : 0 < has m := by clear p5; omega
  refine wpo_g (by clear p5; omega) (wpo_g (by clear p5; omega) ?_)
  rw [Int.toNat_natCast, Int.toNat_natCast, hKM.2.2.2 k hk, (hKM.1.2.2.2.2.2.2.2.2.1 m hm).2.1]
  refine wpo_i (fun hc3 => ?_) (fun hc3 => wpo_s (skip M p3 p4 (fun b hb e => ?_)))
  · have ed : w32 (has m - 1) = has m - 1 := by clear p5; exact w32i (by omega) (by omega)
    rw [ed]
    have uo : ∀ a, a ≠ 340 → up2 M 340 m (has m - 1) a = M a := fun a ha => up2_off ha
    have u40 : ∀ q : Nat, (q : Int) < aN ρ → up2 M 340 m (has m - 1) 340 q = has q - dl m q := fun q hq => by
      by_cases e : q = m
      · rw [e, up2_same, dl_same]
      · rw [up2_k e, dl_ne e, p4 q hq, Int.sub_zero]
    revert uo u40
    generalize up2 M 340 m (has m - 1) = L
    intro uo u40
    have hKL : KM L lv n ρ wt := km_congr hKM (fun a b1 b2 => uo a (by clear p5; omega)) (by rw [uo 296 (by decide)]) (by rw [uo 296 (by decide)]) (uo 339 (by decide))
    rw [hKL.2.1, ix8 hlv (by clear p5; omega), Int.toNat_natCast, (hKL.1.2.2.2.2.2.2.2.2.1 m hm).2.2.2]
    refine wpo_g (by clear p5; omega) ?_
    have hgm := hgr m hmN
    rw [w32i (x := (k : Int) + 1) (by clear p5; omega) (by clear p5; omega), w32i (x := rest - gri ρ m) (by clear p5; omega) (by clear p5; omega)]
    obtain ⟨r, L', l1, l2, l3⟩ := LG_eq (F := F) (J := J) (lv := lv) (n := n) (fr := k + 1) (I := L) (wt := wt) (has := fun q => has q - dl m q) hF hρ hKL.1 hKL.2.1 hKL.2.2.1 (by clear p5; omega) (by clear p5; omega) (fun i hi => ⟨hKL.2.2.2 i hi, hwt i hi⟩) (fun q hq => ⟨u40 q hq, by
      have e1 := hcap q hq
      have e2 := dl_b (x := m) (q := q)
      try dsimp only
      by_cases e : q = m
      · subst e; rw [dl_same]; clear p5; omega
      · rw [dl_ne e]; clear p5; omega⟩)
    rw [show ((k + 1 : Nat) : Int) = (k : Int) + 1 by clear p5; omega] at l1
    rw [l1, Option.bind_some]
    try dsimp only
    have back : ∀ z : Nat, (z : Int) < aN ρ → up2 L' 340 m (w32 (L' 340 m + 1)) 340 z = has z := fun z hz => by
      by_cases e : z = m
      · rw [e, up2_same, l2 340 (by decide), u40 m hm, dl_same, w32i (by clear p5; omega) (by clear p5; omega)]
        clear p5
        omega
      · rw [up2_k e, l2 340 (by decide), u40 z hz, dl_ne e, Int.sub_zero]
    have backo : ∀ a, a ≠ 340 → a ≠ 341 → up2 L' 340 m (w32 (L' 340 m + 1)) a = I a := fun a h1 h2 => by rw [up2_off h1, l2 a h2, uo a h1]; exact p3 a h1 h2
    refine wpo_i (fun hc4 => wpo_s (skip _ backo back (fun b hb e => hc4 ?_))) (fun hc4 => wpo_s ?_)
    · -- one that is best and gives by this one: it would have passed
      have hbk : OptA (aN ρ).toNat (fun q => has q - dl (b k) q) (gri ρ) (fun i m => wt i ≤ siz ρ m) n (fT (k + 1)) b → False ∨ True := fun _ => Or.inr trivial
      clear hbk
      have hcb : cost (gri ρ) (fT k) n b = rest := by rw [hrest]; exact opt_cost hb ho
      rcases l3 with ⟨l3, l4⟩ | ⟨a1, l3, l4⟩
      · have := rest_va hk hb.1
        rw [e] at this
        exact absurd this (l4 b)
      · have := first_pass hk hb (by rw [e]; exact l3)
        rw [e] at this
        rw [l4, this, hcb]
    · have hc5 : r = rest - gri ρ m := by
        by_cases e : r = rest - gri ρ m
        · exact e
        · exact absurd e hc4
      rcases l3 with ⟨l3, l4⟩ | ⟨a1, l3, l4⟩
      · have := first_none hk (fun q hq => (hgr q hq).1) ho.1 hmN hpos l4
        clear p5
        omega
      · refine ⟨m, L', a1, rfl, hm, hc3, hpos, fun a h1 h2 => by rw [l2 a h2, uo a h1]; exact p3 a h1 h2, fun q hq => by rw [l2 340 (by decide)]; exact u40 q hq, l3, by rw [← l4]; exact hc5, p5⟩
  · have := (hb.1.1 k hk (by simp [fT])).2
    rw [e] at this
    exact hc3 this
/-- all stones -/
theorem find_all {F lv n : Nat} (hF : 1000000 ≤ F) {I J : MI} {ρ : RIV} {wt cap : Nat → Int} {rest : Int} {a0 : Nat → Nat} (hρ : RivOK ρ) (hn : n ≤ 72) (hK : KM I lv n ρ wt) (hwt : ∀ i, i < n → 1 ≤ wt i ∧ wt i ≤ 10) (hcap : ∀ m : Nat, (m : Int) < aN ρ → I 340 m = cap m ∧ 0 ≤ cap m ∧ cap m ≤ 9) (h43 : ∀ m : Nat, (m : Int) < aN ρ → I 343 m = 0) (ho : OptA (aN ρ).toNat cap (gri ρ) (fun i m => wt i ≤ siz ρ m) n (uT n) a0) (hrest : rest = cost (gri ρ) (uT n) n a0) : ∃ (I' : MI) (a : Nat → Nat), iter (fun q : Int × Int × MI => f_M_findsGivers_L61 F q.1 q.2.1 q.2.2 J) F (rest, 0, I) = some I' ∧ OptA (aN ρ).toNat cap (gri ρ) (fun i m => wt i ≤ siz ρ m) n (uT n) a ∧ LexA (aN ρ).toNat cap (gri ρ) (fun i m => wt i ≤ siz ρ m) n n a ∧ (∀ m : Nat, (m : Int) < aN ρ → I' 343 m = cT (uT n) n a m) ∧ ∀ b, b ≠ 340 → b ≠ 341 → b ≠ 343 → I' b = I b := by
  have h8 := hρ.2.2.2.1
  have hgr : ∀ m, m < (aN ρ).toNat → 0 ≤ gri ρ m ∧ gri ρ m ≤ 99 := fun m hm => (hρ.2.2.2.2.2.2.2.1 m (by omega)).2.2.2
  have huf : ∀ i, i < n → fT 0 i = uT n i := fun i hi => by rw [uT_n hi]; simp [fT]
  have hcb : ∀ (T : Nat → Bool) (L : Nat → Nat), (∀ i, i < n → T i = true → L i < (aN ρ).toNat) → 0 ≤ cost (gri ρ) T n L ∧ cost (gri ρ) T n L ≤ 99 * n := fun T L hL => sumN_bd (b := 99) (fun i hi => by
    by_cases t : T i = true
    · rw [if_pos t]; exact hgr _ (hL i hi t)
    · rw [if_neg t]; omega)
  have k1 := wpo_iter (step := fun q : Int × Int × MI => f_M_findsGivers_L61 F q.1 q.2.1 q.2.2 J) (Q := fun I' => ∃ a : Nat → Nat, OptA (aN ρ).toNat cap (gri ρ) (fun i m => wt i ≤ siz ρ m) n (uT n) a ∧ LexA (aN ρ).toNat cap (gri ρ) (fun i m => wt i ≤ siz ρ m) n n a ∧ (∀ m : Nat, (m : Int) < aN ρ → I' 343 m = cT (uT n) n a m) ∧ ∀ b, b ≠ 340 → b ≠ 341 → b ≠ 343 → I' b = I b) (fun q => ∃ (k : Nat) (L aa : Nat → Nat), k ≤ n ∧ q.2.1 = (k : Int) ∧ (∀ i, i < k → L i < (aN ρ).toNat ∧ wt i ≤ siz ρ (L i)) ∧ (∀ m : Nat, (m : Int) < aN ρ → q.2.2 340 m = cap m - cT (uT k) n L m ∧ 0 ≤ cap m - cT (uT k) n L m) ∧ (∀ m : Nat, (m : Int) < aN ρ → q.2.2 343 m = cT (uT k) n L m) ∧ OptA (aN ρ).toNat (fun m => cap m - cT (uT k) n L m) (gri ρ) (fun i m => wt i ≤ siz ρ m) n (fT k) aa ∧ q.1 = cost (gri ρ) (fT k) n aa ∧ cost (gri ρ) (uT n) n a0 = cost (gri ρ) (uT k) n L + cost (gri ρ) (fT k) n aa ∧ LexA (aN ρ).toNat cap (gri ρ) (fun i m => wt i ≤ siz ρ m) n k L ∧ ∀ b, b ≠ 340 → b ≠ 341 → b ≠ 343 → q.2.2 b = I b) (fun q => n - q.2.1.toNat) ?_ (F := F) (s := (rest, (0 : Int), I)) (by dsimp only; omega) ?_
  · obtain ⟨I', e, a, q⟩ := k1
    exact ⟨I', a, e, q⟩
  · rintro ⟨x, y, M⟩ ⟨k, L, aa, p1, p2, p3, p4, p5, p6, p7, p8, p9, p10⟩
    dsimp only at p2 p4 p5 p7 p10 ⊢
    subst p2
    have hKM : KM M lv n ρ wt := km_congr hK (fun a b1 b2 => p10 a (by clear p9; omega) (by clear p9; omega) (by clear p9; omega)) (by rw [p10 296 (by decide) (by decide) (by decide)]) (by rw [p10 296 (by decide) (by decide) (by decide)]) (p10 339 (by decide) (by decide) (by decide))
    unfold f_M_findsGivers_L61
    rw [hKM.2.2.1]
    refine wpo_i (fun hc => wpo_s ?_) (fun hc => ?_)
    · have : k = n := by clear p9; omega
      subst this
      have hz : cost (gri ρ) (fT k) k aa = 0 := sumN_none (fun i hi => by rw [if_neg (by simp [fT]; omega)])
      have hva : VA (aN ρ).toNat cap (fun i m => wt i ≤ siz ρ m) k (uT k) L := ⟨fun i hi _ => p3 i hi, fun m hm => by
        have := (p4 m (by clear p9; omega)).2
        clear p9
        omega⟩
      refine ⟨L, ⟨hva, fun b hb => ?_⟩, p9, p5, p10⟩
      have := ho.2 b hb
      clear p9
      omega
    · have hk : k < n := by clear p9; omega
      have hb1 := hcb (fT k) aa (fun i hi ht => (p6.1.1 i hi ht).1)
      obtain ⟨e, e1, m, I', a1, e2, m1, m2, m3, f1, f2, o1, o2, lx⟩ := find_one (F := F) (J := J) (k := k) (has := fun m => cap m - cT (uT k) n L m) hF hρ hk hn hKM hwt (fun m hm => ⟨(p4 m hm).1, (p4 m hm).2, by
        have := hcap m hm
        have := cT_nn (T := uT k) (n := n) (a := L) (m := m)
        clear p9
        try dsimp only
        omega⟩) p6 p7 (by clear p9; omega)
      rw [e1, Option.bind_some, e2]
      dsimp only at f2 m3 o2 ⊢
      have hmN : m < (aN ρ).toNat := by clear p9 lx; omega
      have hgm := hgr m hmN
      have cm := hcap m m1
      have hcm := cT_nn (T := uT k) (n := n) (a := L) (m := m)
      have v43 : I' 343 m = cT (uT k) n L m := by rw [f1 343 (by decide) (by decide)]; exact p5 m m1
      refine wpo_g (by clear p9 lx; omega) (wpo_s ?_)
      rw [show ((m : Int)).toNat = m from Int.toNat_natCast m, v43, w32i (x := x - gri ρ m) (by clear p9 lx; omega) (by clear p9 lx; omega), w32i (x := (k : Int) + 1) (by clear p9 lx; omega) (by clear p9 lx; omega), w32i (x := cT (uT k) n L m + 1) (by clear p9 lx; omega) (by clear p9 lx; omega)]
      have cs : ∀ q, cT (uT (k + 1)) n (fun i => if i = k then m else L i) q = cT (uT k) n L q + dl m q := fun q => by
        rw [cT_uT_s hk, if_pos rfl, cT_congr (b := L) (fun i _ ht => if_neg (fun e => by rw [e] at ht; simp [uT] at ht))]
      have hcost : cost (gri ρ) (uT (k + 1)) n (fun i => if i = k then m else L i) = cost (gri ρ) (uT k) n L + gri ρ m := by
        rw [cost_uT_s hk, if_pos rfl, cost_congr (b := L) (fun i _ ht => if_neg (fun e => by rw [e] at ht; simp [uT] at ht))]
      refine ⟨⟨k + 1, fun i => if i = k then m else L i, a1, by clear p9 lx; omega, by dsimp only; clear p9 lx; omega, fun i hi => ?_, fun q hq => ?_, fun q hq => ?_, opt_cap o1 (fun q hq => ?_), ?_, ?_, fun b hb i hi hpre => ?_, fun b b1 b2 b3 => ?_⟩, by dsimp only; clear p9 lx; omega⟩
      · dsimp only
        by_cases e : i = k
        · rw [if_pos e, e]; exact ⟨hmN, m2⟩
        · rw [if_neg e]; exact p3 i (by clear p9 lx; omega)
      · dsimp only
        rw [cs q, up2_r (by decide), f2 q hq]
        refine ⟨by clear p9 lx; omega, ?_⟩
        have h1 := (p4 q hq).2
        by_cases e : q = m
        · subst e
          rw [dl_same]; clear p9 lx; omega
        · rw [dl_ne e]; clear p9 lx; omega
      · dsimp only
        rw [cs q]
        by_cases e : q = m
        · subst e
          rw [up2_same, dl_same]
        · rw [up2_k e, dl_ne e, f1 343 (by decide) (by decide), p5 q hq]; clear p9 lx; omega
      · try dsimp only
        rw [cs q]; clear p9 lx; omega
      · dsimp only
        rw [o2]
      · rw [hcost, o2]
        clear p9 lx
        omega
      · by_cases e : i = k
        · subst e
          try dsimp only
          rw [if_pos rfl]
          refine lx b (suffix_opt hb (fun j hj => ?_) p6 (by rw [opt_cost hb ho]; exact p8))
          have := hpre j hj
          try dsimp only at this
          rw [if_neg (by clear p9 lx; omega)] at this
          exact this
        · dsimp only
          rw [if_neg e]
          refine p9 b hb i (by clear p9 lx; omega) (fun j hj => ?_)
          have := hpre j hj
          try dsimp only at this
          rw [if_neg (by clear p9 lx; omega)] at this
          exact this
      · dsimp only
        rw [up2_off b3, f1 b b1 b2]; exact p10 b b1 b2 b3
  · have e0 : ∀ q, cT (uT 0) n (fun _ => 0) q = 0 := fun q => cT_none
    refine ⟨0, fun _ => 0, a0, by omega, rfl, fun i hi => absurd hi (by omega), fun m hm => ?_, fun m hm => ?_, ?_, ?_, ?_, fun b _ i hi => absurd hi (by omega), fun _ _ _ _ => rfl⟩
    · dsimp only
      rw [e0, (hcap m hm).1]
      have := (hcap m hm).2.1
      omega
    · dsimp only
      rw [e0]; exact h43 m hm
    · refine opt_cap (optT_of ho huf) (fun m hm => ?_)
      try dsimp only
      rw [e0]; omega
    · dsimp only
      rw [hrest, costT_of huf]
    · rw [cost_none, costT_of huf]; omega
