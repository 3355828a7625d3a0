/-! lack, lackAt -/
/-- what a cell lacks, -1 beyond the river -/
def wLk (ρ : RIV) (s : BSt) (c : Nat) : Int := if inRv ρ c = true then max 0 (dep ρ c - s.2 c) else -1
theorem wLk_bd {ρ : RIV} {s : BSt} {c : Nat} (hρ : RivOK ρ) (hv : VOK ρ s) (hc : c < 96) : (0 ≤ wLk ρ s c ↔ inRv ρ c = true) ∧ wLk ρ s c ≤ 9 := by
  have h1 := hρ.2.2.2.2.2.1 c hc
  have h2 := vok_72 hv hc
  unfold wLk
  by_cases g : inRv ρ c = true
  · rw [if_pos g]; exact ⟨⟨fun _ => g, fun _ => by omega⟩, by omega⟩
  · rw [if_neg g]; exact ⟨⟨fun h => by omega, fun h => absurd h g⟩, by omega⟩
theorem weighLk_eq {F rv : Nat} (hF : 1000000 ≤ F) (hrv : rv = 11 ∨ rv = 30) {I : MI} {ρ : RIV} {s : BSt} (hρ : RivOK ρ) (hr : RivX I rv ρ) (hq : BedQ I 49 ρ s) : ∃ I', f_B_weighLack F 49 rv I = some I' ∧ (∀ c, c < 96 → I' 245 c = wLk ρ s c) ∧ ∀ a, a ≠ 245 → I' a = I a := by
  unfold f_B_weighLack
  have key := wpo_iter (step := fun q : Int × MI => f_B_weighLack_L2 F 49 rv q.1 q.2) (Q := fun I' => (∀ c, c < 96 → I' 245 c = wLk ρ s c) ∧ ∀ a, a ≠ 245 → I' a = I a) (fun q => ∃ i : Nat, i ≤ 96 ∧ q.1 = (i : Int) ∧ (∀ c, c < i → q.2 245 c = wLk ρ s c) ∧ ∀ a, a ≠ 245 → q.2 a = I a) (fun q => 96 - q.1.toNat) ?_ (F := F) (s := ((0 : Int), I)) (by dsimp only; omega) ⟨0, by omega, rfl, fun c hc => absurd hc (by omega), fun _ _ => rfl⟩
  · obtain ⟨I', e, q⟩ := key
    exact ⟨I', by rw [e]; rfl, q⟩
  rintro ⟨x, N⟩ ⟨i, h1, h2, h3, h4⟩
  dsimp only at h2 h3 h4 ⊢
  subst h2
  unfold f_B_weighLack_L2
  refine wpo_i (fun hc => wpo_s ?_) (fun hc => ?_)
  · have : i = 96 := by omega
    subst this
    exact ⟨h3, h4⟩
  have hi : i < 96 := by omega
  have hrN : RivX N rv ρ := rivx_congr hr (fun a b1 b2 b3 b4 => h4 a (by omega))
  have hd := hρ.2.2.2.2.2.1 i hi
  have h72 := vok_72 hq.1 hi
  have set : ∀ v : Int, v = wLk ρ s i → wpo (f_B_weighLack_b50in2 F 49 rv (i : Int) (i : Int) v N) (fun r => Sum.elim (fun I' : MI => (∀ c, c < 96 → I' 245 c = wLk ρ s c) ∧ ∀ a, a ≠ 245 → I' a = I a) (fun s' : Int × MI => (∃ i : Nat, i ≤ 96 ∧ s'.1 = (i : Int) ∧ (∀ c, c < i → s'.2 245 c = wLk ρ s c) ∧ ∀ a, a ≠ 245 → s'.2 a = I a) ∧ 96 - s'.1.toNat < 96 - ((i : Int)).toNat) r) := by
    intro v hv
    unfold f_B_weighLack_b50in2
    refine wpo_g (by omega) (wpo_s ?_)
    rw [w32i (by omega) (by omega), Int.toNat_natCast]
    refine ⟨⟨i + 1, by omega, by dsimp only; omega, fun c hc2 => ?_, fun a b1 => ?_⟩, by dsimp only; omega⟩ <;> dsimp only
    · by_cases e : c = i
      · rw [e, up2_same]; exact hv
      · rw [up2_k e]; exact h3 c (by omega)
    · rw [up2_off b1]; exact h4 a b1
  rw [has_c hrN hi, Option.bind_some]
  by_cases g : inRv ρ i = true
  · rw [if_pos g]
    refine wpo_n (by decide) (wpo_g (by omega) ?_)
    rw [Int.toNat_natCast, hrN.2.2.2.2.2.1 i hi, h4 (49 + 1) (by decide), hq.2.1.1 i hi, w32i (by omega) (by omega)]
    refine set _ ?_
    unfold wLk
    rw [if_pos g]
  · rw [if_neg g]
    refine wpo_g rfl (set _ ?_)
    unfold wLk
    rw [if_neg g]
theorem M_prepLk {F lv : Nat} (hF : 1000000 ≤ F) {I J : MI} {ρ : RIV} {s : BSt} (hρ : RivOK ρ) (hr : RivM I lv ρ) (hl : I 296 18 = (lv : Int)) (hv : VOK ρ s) (hs : MSt I s) : ∃ I', iter (fun q : Int × MI => f_M_findsLack_L6 F q.1 q.2 J) F (0, I) = some I' ∧ (∀ c, c < 96 → (I' 335 c ≠ 0 ↔ 0 ≤ wLk ρ s c) ∧ (0 ≤ wLk ρ s c → I' 336 c = wLk ρ s c * 100000)) ∧ ∀ a, a ≠ 335 → a ≠ 336 → I' a = I a := by
  have key := wpo_iter (step := fun q : Int × MI => f_M_findsLack_L6 F q.1 q.2 J) (Q := fun I' => (∀ c, c < 96 → (I' 335 c ≠ 0 ↔ 0 ≤ wLk ρ s c) ∧ (0 ≤ wLk ρ s c → I' 336 c = wLk ρ s c * 100000)) ∧ ∀ a, a ≠ 335 → a ≠ 336 → I' a = I a) (fun q => ∃ i : Nat, i ≤ 96 ∧ q.1 = (i : Int) ∧ (∀ c, c < i → (q.2 335 c ≠ 0 ↔ 0 ≤ wLk ρ s c) ∧ (0 ≤ wLk ρ s c → q.2 336 c = wLk ρ s c * 100000)) ∧ ∀ a, a ≠ 335 → a ≠ 336 → q.2 a = I a) (fun q => 96 - q.1.toNat) ?_ (F := F) (s := ((0 : Int), I)) (by dsimp only; omega) ⟨0, by omega, rfl, fun c hc => absurd hc (by omega), fun _ _ _ => rfl⟩
  · exact key
  rintro ⟨x, N⟩ ⟨i, h1, h2, h3, h4⟩
  dsimp only at h2 h3 h4 ⊢
  subst h2
  unfold f_M_findsLack_L6
  refine wpo_i (fun hc => wpo_s ?_) (fun hc => ?_)
  · have : i = 96 := by omega
    subst this
    exact ⟨h3, h4⟩
  have hi : i < 96 := by omega
  have hrN : RivM N lv ρ := rivm_congr hr (fun a b1 b2 => h4 a (by omega) (by omega))
  have hlN : N 296 18 = (lv : Int) := by rw [h4 296 (by decide) (by decide)]; exact hl
  have hd := hρ.2.2.2.2.2.1 i hi
  have h72 := vok_72 hv hi
  have hw := wLk_bd hρ hv hi
  have set : ∀ (m v : Int), (m ≠ 0 ↔ 0 ≤ wLk ρ s i) → (0 ≤ wLk ρ s i → v = wLk ρ s i * 100000) → wpo (some (Sum.inr (w32 ((i : Int) + 1), up2 (up2 N 335 i m) 336 i v)) : Option (MI ⊕ (Int × MI))) (fun r => Sum.elim (fun I' : MI => (∀ c, c < 96 → (I' 335 c ≠ 0 ↔ 0 ≤ wLk ρ s c) ∧ (0 ≤ wLk ρ s c → I' 336 c = wLk ρ s c * 100000)) ∧ ∀ a, a ≠ 335 → a ≠ 336 → I' a = I a) (fun s' : Int × MI => (∃ i : Nat, i ≤ 96 ∧ s'.1 = (i : Int) ∧ (∀ c, c < i → (s'.2 335 c ≠ 0 ↔ 0 ≤ wLk ρ s c) ∧ (0 ≤ wLk ρ s c → s'.2 336 c = wLk ρ s c * 100000)) ∧ ∀ a, a ≠ 335 → a ≠ 336 → s'.2 a = I a) ∧ 96 - s'.1.toNat < 96 - ((i : Int)).toNat) r) := by
    intro m v hm hv'
    rw [w32i (by omega) (by omega)]
    refine wpo_s ⟨⟨i + 1, by omega, by dsimp only; omega, fun c hc2 => ?_, fun a b1 b2 => ?_⟩, by dsimp only; omega⟩ <;> dsimp only
    · by_cases e : c = i
      · rw [e, up2_same, up2_r (by decide), up2_same]; exact ⟨hm, hv'⟩
      · rw [up2_k e, up2_r (by decide), up2_k e, up2_r (by decide)]; exact h3 c (by omega)
    · rw [up2_off b2, up2_off b1]; exact h4 a b1 b2
  have o1 : ∀ m a, a ≠ 335 → up2 N 335 i m a = N a := fun m a ha => up2_off ha
  rw [M_isCellc hρ hrN hlN hi, Option.bind_some]
  refine wpo_g (by omega) ?_
  rw [Int.toNat_natCast, up2_same]
  by_cases g : inRv ρ i = true
  · rw [if_pos g]
    refine wpo_n (by decide) ?_
    have hwv : wLk ρ s i = max 0 (dep ρ i - s.2 i) := by unfold wLk; rw [if_pos g]
    rw [M_isStep (ρ := ρ) (s := s) (lv := lv) (rivm_congr hrN (fun a b1 b2 => o1 1 a (by omega))) (by rw [o1 1 296 (by decide)]; exact hlN) (by rw [o1 1 333 (by decide), h4 333 (by decide) (by decide)]; exact hs.2 i hi) hi, Option.bind_some]
    by_cases g2 : s.2 i < dep ρ i
    · rw [if_pos g2]
      refine wpo_n (by decide) ?_
      rw [M_deep (lv := lv) (rivm_congr hrN (fun a b1 b2 => o1 1 a (by omega))) (by rw [o1 1 296 (by decide)]; exact hlN) hi, Option.bind_some]
      unfold f_M_findsLack_b71in6
      refine wpo_g (by omega) ?_
      rw [o1 1 333 (by decide), h4 333 (by decide) (by decide), hs.2 i hi, w32i (x := dep ρ i - s.2 i) (by omega) (by omega), w32i (x := 100000 * (dep ρ i - s.2 i)) (by omega) (by omega), Int.toNat_natCast]
      exact set 1 _ ⟨fun _ => by omega, fun _ => by decide⟩ (fun _ => by omega)
    · rw [if_neg g2]
      refine wpo_g (by decide) ?_
      unfold f_M_findsLack_b70in6 f_M_findsLack_b71in6
      refine wpo_g (by omega) ?_
      rw [w32i (x := 100000 * 0) (by omega) (by omega), Int.toNat_natCast]
      exact set 1 _ ⟨fun _ => by omega, fun _ => by decide⟩ (fun _ => by omega)
  · rw [if_neg g]
    refine wpo_g rfl ?_
    unfold f_M_findsLack_b70in6 f_M_findsLack_b71in6
    refine wpo_g (by omega) ?_
    rw [w32i (x := 100000 * 0) (by omega) (by omega), Int.toNat_natCast]
    exact set 0 _ ⟨fun h => absurd rfl h, fun h => absurd (hw.1.mp h) g⟩ (fun h => absurd (hw.1.mp h) g)
/-- over all cells there always is a way -/
theorem lack_fin {ρ : RIV} {s : BSt} {c D h l : Nat → Int} {he le e : Int} (hρ : RivOK ρ) (hv : VOK ρ s) (hs : Sol ρ (wLk ρ s) e c 1073741824 D) (e1 : e = 1000 * he + le) (e2 : 0 ≤ he ∧ he ≤ 1) (e3 : 0 ≤ le ∧ le ≤ 1 ∧ 1 ≤ he + le) (hc : ∀ k, k < 96 → 0 ≤ wLk ρ s k → c k = 1000 * h k + l k ∧ 0 ≤ h k ∧ h k ≤ 100 ∧ 0 ≤ l k ∧ he + h k ≤ 101 ∧ le + l k ≤ 1) (hm : le ≤ 1) : D 96 < 1073741824 := by
  have hL := hρ.1
  have hW := hρ.2.1
  have hJ := hρ.2.2.1
  have hbd : ∀ k, gok (wLk ρ s) k → D k < 1073741824 → D k ≤ 100000000 := fun k hk hlt => by
    obtain ⟨H, L, q1, q2, q3, q4, q5⟩ := form1 hs e1 e2 e3 hc hm (D k).toNat k hk (by have := (hs k hk).1; omega) hlt
    have hr := rkD_nn (w := wLk ρ s) (D := D) (k := k)
    omega
  have hcell : ∀ y : Nat, (y : Int) < aW ρ → 0 ≤ wLk ρ s (12 * y) := fun y hy => (wLk_bd hρ hv (by omega)).1.mpr (by unfold inRv; rw [decide_eq_true_eq]; omega)
  have col : ∀ d y : Nat, (y : Int) + d + 1 = aW ρ → D (12 * y) < 1073741824 := by
    intro d
    induction d with
    | zero =>
      intro y hy
      have := (hs (12 * y) (Or.inr ⟨by omega, hcell y (by omega)⟩)).2.2.1 (by unfold enB; rw [if_neg (by omega), decide_eq_true_eq]; omega)
      omega
    | succ d ih =>
      intro y hy
      have ihy := ih (y + 1) (by omega)
      have hwy := hcell (y + 1) (by omega)
      have hb := hbd (12 * (y + 1)) (Or.inr ⟨by omega, hwy⟩) ihy
      have hcc := hc (12 * (y + 1)) (by omega) hwy
      have := (hs (12 * y) (Or.inr ⟨by omega, hcell y (by omega)⟩)).2.2.2.1 (12 * (y + 1)) (by omega) hwy (by
        unfold lpB dst adx
        rw [if_neg (by omega), decide_eq_true_eq]
        refine ⟨by omega, ?_⟩
        split <;> split <;> omega) ihy
      omega
  have h0 := col (aW ρ - 1).toNat 0 (by omega)
  have hw0 := hcell 0 (by omega)
  have hb := hbd 0 (Or.inr ⟨by omega, hw0⟩) h0
  have hcc := hc 0 (by omega) hw0
  have := (hs 96 (Or.inl rfl)).2.2.2.1 0 (by omega) hw0 (by unfold lpB; rw [if_pos rfl, decide_eq_true_eq]; omega) h0
  omega
theorem lack_both {lv rv sp : Nat} {I J : MI} {ρ : RIV} {s : BSt} (hp : isPair rv sp) (hρ : RivOK ρ) (hx : RivX I rv ρ) (hm : RivM I lv ρ) (hl : I 296 18 = (lv : Int)) (hb : BedQ I 49 ρ s) (hn : ∀ k, k < 250 → I 331 k = s.1 k) : ∃ (I1 : MI) (n : Nat) (S : Int) (g : Nat → Nat), f_X_findLack FU rv I = some I1 ∧ FrX rv I I1 ∧ n ≤ 96 ∧ 0 ≤ S ∧ S ≤ 9 * n ∧ S = sumN (fun k => wLk ρ s (g k)) n ∧ (∀ k, k < n → g k < 96 ∧ 0 ≤ wLk ρ s (g k)) ∧ I1 244 2 = (n : Int) ∧ (∀ k, k < n → I1 246 k = ((g k : Nat) : Int)) ∧ (∀ c, c < 96 → I1 245 c = wLk ρ s c) ∧ f_Y_sum FU I1 = some S ∧
    ∀ I2 : MI, (∀ a, 275 ≤ a → I2 a = I a) → ∃ N, f_M_findsLack FU I2 J = some N ∧ FrQ I2 N ∧ MSt N s ∧ N 296 60 = (n : Int) ∧ (∀ k, k < n → N 338 k = ((g k : Nat) : Int)) ∧ N 337 96 = 100000 * S + ((n : Int) + 1) := by
  have hF := FU_big
  have hp' := hp
  unfold isPair at hp'
  have hv := hb.1
  obtain ⟨I0, w1, w2, w3⟩ := weighLk_eq (F := FU) (rv := rv) hF (by omega) hρ hx hb
  have hx0 : RivX I0 rv ρ := rivx_congr hx (fun a b1 b2 b3 b4 => w3 a (by omega))
  have hwr : ∀ c, c < 96 → 0 ≤ wLk ρ s c → inRv ρ c = true := fun c hc h => (wLk_bd hρ hv hc).1.mp h
  have hw9 : ∀ c, c < 96 → wLk ρ s c ≤ 9 := fun c hc => (wLk_bd hρ hv hc).2
  obtain ⟨D, I1, d1, d2, d3, d4⟩ := X_find (F := FU) (rv := rv) (x2 := 1000) (pl := 1) (I := I0) (w := wLk ρ s) (cc := fun c => 1000 * wLk ρ s c) hF hρ hx0 (by omega) w2 (fun c hc h => by have := hw9 c hc; exact ⟨rfl, by first | omega | (dsimp only; omega), by first | omega | (dsimp only; omega)⟩) (by omega) hwr
  have hfinD : D 96 < 1073741824 := lack_fin (he := 0) (le := 1) (h := fun k => wLk ρ s k) (l := fun _ => 0) hρ hv d1 (by decide) (by decide) (by decide) (fun k hk h => by have := hw9 k hk; first | omega | (dsimp only; omega)) (by decide)
  obtain ⟨n, n1, n2, n3, n4⟩ := d4 hfinD
  clear d4
  have ex : f_X_findLack FU rv I = some I1 := by
    unfold f_X_findLack
    rw [w1, Option.bind_some, d2, Option.bind_some]
  have fr1 : FrX rv I I1 := fun a ha => by
    unfold scrX at ha
    rw [d3 a (by omega) (by omega) (by omega) (by omega), w3 a (by omega)]
  have hok := fun i (hi : i ≤ n) => itn_ok d1 (by decide) (fun k hk h => by first | omega | (dsimp only; omega)) hfinD i (fun j' hj' => n2.1 j' (by omega))
  have hgk : ∀ k, k < n → itn ρ (wLk ρ s) 1 (fun c => 1000 * wLk ρ s c) D 1073741824 (k + 1) < 96 ∧ 0 ≤ wLk ρ s (itn ρ (wLk ρ s) 1 (fun c => 1000 * wLk ρ s c) D 1073741824 (k + 1)) := fun k hk => by
    obtain ⟨a1, a2, a3, a4⟩ := hok (k + 1) (by omega)
    have := a4 (by omega)
    rcases a1 with h | h
    · omega
    · exact h
  have hw245 : ∀ c, c < 96 → I1 245 c = wLk ρ s c := fun c hc => by rw [d3 245 (by decide) (by decide) (by decide) (by decide)]; exact w2 c hc
  have hsum := Y_sum (F := FU) (n := n) (I := I1) (w := wLk ρ s) (g := fun k => itn ρ (wLk ρ s) 1 (fun c => 1000 * wLk ρ s c) D 1073741824 (k + 1)) hF hw245 n1 n3 (fun k hk => ⟨n4 k hk, (hgk k hk).1, (hgk k hk).2, by have := hw9 _ (hgk k hk).1; omega⟩)
  have hS := sumN_bd (f := fun k => wLk ρ s (itn ρ (wLk ρ s) 1 (fun c => 1000 * wLk ρ s c) D 1073741824 (k + 1))) (n := n) (b := 9) (fun k hk => ⟨(hgk k hk).2, hw9 _ (hgk k hk).1⟩)
  refine ⟨I1, n, _, fun k => itn ρ (wLk ρ s) 1 (fun c => 1000 * wLk ρ s c) D 1073741824 (k + 1), ex, fr1, n1, hS.1, hS.2, rfl, hgk, n3, n4, hw245, hsum, fun I2 hI2 => ?_⟩
  obtain ⟨N1, c1, c2, c3⟩ := M_copyq (F := FU) (I := I2) (J := J) hF hb.1 (fun k hk => by rw [hI2 331 (by omega)]; exact hn k hk)
  have hm1 : RivM N1 lv ρ := rivm_congr hm (fun a b1 b2 => by rw [c3 a (by omega) (by omega), hI2 a (by omega)])
  have hl1 : N1 296 18 = (lv : Int) := by rw [c3 296 (by decide) (by decide), hI2 296 (by omega)]; exact hl
  obtain ⟨N2, e2, v2, f2⟩ := M_prepLk (F := FU) (J := J) hF hρ hm1 hl1 hv c2
  have hm2 : RivM N2 lv ρ := rivm_congr hm1 (fun a b1 b2 => f2 a (by omega) (by omega))
  have hl2 : N2 296 18 = (lv : Int) := by rw [f2 296 (by decide) (by decide)]; exact hl1
  have hcst : ∀ k, k < 96 → 0 ≤ wLk ρ s k → N2 336 k = (fun k => 100000 * (wLk ρ s k) + 0) k := fun k hk h => by rw [(v2 k hk).2 h]; first | omega | (dsimp only; omega)
  obtain ⟨N3, e3, s3, f3⟩ := M_ways (F := FU) (e := 100000 * 0 + 1) (I := N2) (J := J) (w := wLk ρ s) (c := fun k => 100000 * (wLk ρ s k) + 0) FU_huge hρ hm2 hl2 (fun k hk => (v2 k hk).1) hcst (by omega) (fun k hk h => by have := hw9 k hk; first | omega | (dsimp only; omega))
  have hfin := fin1 (he := 0) (le := 1) (h := fun k => wLk ρ s k) (l := fun k => 0) d1 (by decide) (by decide) (by decide) (fun k hk h => by have := hw9 k hk; first | omega | (dsimp only; omega)) (by decide) rfl s3
  have g2 := hfin.1.mp hfinD
  obtain ⟨N4, m, q1, q2, q3, q4, q5, q6, q7⟩ := M_line (F := FU) (e := 100000 * 0 + 1) (I := N3) (J := J) (w := wLk ρ s) (c := fun k => 100000 * (wLk ρ s k) + 0) hF hρ (rivm_congr hm2 (fun a b1 b2 => f3 a (by omega))) (by rw [f3 296 (by decide)]; exact hl2) (fun k hk => by rw [f3 335 (by decide)]; exact (v2 k hk).1) (fun k hk h => by rw [f3 336 (by decide)]; exact hcst k hk h) (by omega) (fun k hk h => by have := hw9 k hk; first | omega | (dsimp only; omega)) s3 (fun k hk h h2 => hfin.2 k (Or.inr ⟨hk, h⟩) h2) g2
  obtain ⟨hnm, hit⟩ := both1 (he := 0) (le := 1) (h := fun k => wLk ρ s k) (l := fun k => 0) d1 (by decide) (by decide) (by decide) (fun k hk h => by have := hw9 k hk; first | omega | (dsimp only; omega)) (by decide) rfl s3 hfinD n2 q3
  subst hnm
  have em : f_M_findsLack FU I2 J = some N4 := by
    unfold f_M_findsLack
    have e3' : f_M_fillsWays FU 1 N2 J = some N3 := e3
    have q1' : f_M_fillsLine FU 1 N3 J = some N4 := q1
    rw [c1, Option.bind_some, e2, Option.bind_some, e3', Option.bind_some, q1', Option.bind_some]
  have hch := chain_sum s3 (by omega) (fun k hk h => by first | omega | (dsimp only; omega)) g2 n q3.1
  rw [q3.2] at hch
  have hlin : sumN (fun k => (fun k => 100000 * (wLk ρ s k) + 0) (itn ρ (wLk ρ s) (100000 * 0 + 1) (fun k => 100000 * (wLk ρ s k) + 0) (N3 337) 2000000000 (k + 1))) n = 100000 * sumN (fun k => wLk ρ s (itn ρ (wLk ρ s) 1 (fun c => 1000 * wLk ρ s c) D 1073741824 (k + 1))) n + sumN (fun _ => 0) n := sumN_lin (fun k hk => by rw [← hit (k + 1) (by omega)])
  have hz0 := sumN_bd (f := fun _ => 0) (n := n) (b := 0) (fun k hk => by omega)
  rw [hlin] at hch
  refine ⟨N4, em, frQ_trans (fr32_Q c3) ⟨fun a b1 b2 => ?_, fun k b1 b2 => ?_⟩, ⟨fun k hk => ?_, fun c hc => ?_⟩, q4, fun k hk => ?_, ?_⟩
  · unfold scrM at b1
    rw [q6 a b2 (by omega), f3 a (by omega), f2 a (by omega) (by omega)]
  · rw [q7 k (by omega), f3 296 (by decide), f2 296 (by decide) (by decide)]
  · rw [q6 332 (by decide) (by decide), f3 332 (by decide), f2 332 (by decide) (by decide)]; exact c2.1 k hk
  · rw [q6 333 (by decide) (by decide), f3 333 (by decide), f2 333 (by decide) (by decide)]; exact c2.2 c hc
  · rw [q5 k hk, ← hit (k + 1) (by omega)]
  · rw [q6 337 (by decide) (by decide)]
    generalize sumN (fun k => wLk ρ s (itn ρ (wLk ρ s) 1 (fun c => 1000 * wLk ρ s c) D 1073741824 (k + 1))) n = S at hch ⊢
    omega
theorem ag_lack (j : Nat) (hj : j < 512) : ag_12 (InvQ j) (InvQ (j + 1)) := by
  intro I J rv sp x1 hrr hss hI _
  have hI0 := hI
  obtain ⟨ρ, s, lv, hp, hρ, hx, hm, hl, hb, hn, hd, ht, hpl, hpa, hs, htl, hk⟩ := hI
  by_cases hok : 0 ≤ x1 ∧ x1 ≤ 1
  · obtain ⟨I1, n, S, g, e1, fr1, n1, s1, s2, s3, g1, n2, n3, w1, y1, hM⟩ := lack_both (J := J) hp hρ hx hm hl hb hn
    obtain ⟨N, e2, fr2, _, n4, n5, n6⟩ := hM I1 (fun a ha => fr1 a (by unfold scrX; unfold isPair at hp; omega))
    have hlp : f_Y_leaps FU I1 = some ((n : Int) + 1) := by unfold f_Y_leaps; rw [n2, w32i (by omega) (by omega)]
    have ex : f_X_lack FU x1 rv I = some ((if ¬ x1 = 0 then (n : Int) + 1 else S), I1) := by
      unfold f_X_lack
      rw [if_neg (by omega), if_pos (by omega), e1, Option.bind_some, hlp, y1, Option.bind_some, Option.bind_some]
      split <;> rfl
    have em : f_M_lack FU x1 I1 J = some ((if ¬ x1 = 0 then (n : Int) + 1 else S), N) := by
      unfold f_M_lack
      rw [M_in, if_pos hok, Option.bind_some, if_pos (by decide), e2, Option.bind_some, n6, rem32_eq (by omega) (by omega) (by omega) (by omega), div32_eq (by omega) (by omega) (by omega) (by omega)]
      have v1 : (100000 * S + ((n : Int) + 1)) / 100000 = S := by omega
      have v2 : (100000 * S + ((n : Int) + 1)) % 100000 = (n : Int) + 1 := by omega
      rw [v1, v2]
      split <;> rfl
    exact ag_mk (fm := fun M => f_M_lack FU x1 M J) (V := fun M => InvQ (j + 1) M J rv sp) ex em (invq_keep hI0 fr1 fr2) hrr hss
  · refine ag_mk (r := -1) (M := I) (N := I) (fm := fun M => f_M_lack FU x1 M J) (V := fun M => InvQ (j + 1) M J rv sp) ?_ ?_ (invq_more j I J rv sp hI0) hrr hss
    · unfold f_X_lack
      by_cases h1 : x1 < 0
      · rw [if_pos h1]
      · rw [if_neg h1, if_neg (by omega)]
    · show f_M_lack FU x1 I J = _
      unfold f_M_lack
      rw [M_in, if_neg hok, Option.bind_some, if_neg (by decide)]
theorem ag_lackAt (j : Nat) (hj : j < 512) : ag_13 (InvQ j) (InvQ (j + 1)) := by
  intro I J rv sp x1 hrr hss hI _
  have hI0 := hI
  obtain ⟨ρ, s, lv, hp, hρ, hx, hm, hl, hb, hn, hd, ht, hpl, hpa, hs, htl, hk⟩ := hI
  obtain ⟨I1, n, S, g, e1, fr1, n1, s1, s2, s3, g1, n2, n3, w1, y1, hM⟩ := lack_both (J := J) hp hρ hx hm hl hb hn
  by_cases hok : 0 ≤ x1
  · obtain ⟨N, e2, fr2, _, n4, n5, n6⟩ := hM I1 (fun a ha => fr1 a (by unfold scrX; unfold isPair at hp; omega))
    have ex : f_X_lackAt FU x1 rv I = (if (n : Int) ≤ x1 then (some ((-1), I1)) else (if 0 ≤ x1 ∧ x1 < 96 then ((f_X_cellName FU (I1 246 (x1).toNat) I1).bind fun q8 => (some (q8, I1))) else none)) := by
      unfold f_X_lackAt
      rw [if_pos hok, e1, Option.bind_some, n2]
    have em : f_M_lackAt FU x1 I1 J = (if x1 ≤ (n : Int) - 1 then (if 0 ≤ x1 ∧ x1 < 96 then (some ((w32 ((w32 (100 * (div32 (N 338 (x1).toNat) 12))) + (rem32 (N 338 (x1).toNat) 12))), N)) else none) else (some ((-1), N))) := by
      unfold f_M_lackAt
      rw [e2, Option.bind_some, n4, w32i (x := (n : Int) - 1) (by omega) (by omega), M_in, Option.bind_some]
      by_cases h : x1 ≤ (n : Int) - 1
      · rw [if_pos (c := 0 ≤ x1 ∧ x1 ≤ (n : Int) - 1) ⟨hok, h⟩, if_neg (show ¬ (1 : Int) = 0 by decide), if_pos h]
      · rw [if_neg (c := 0 ≤ x1 ∧ x1 ≤ (n : Int) - 1) (fun h' => h h'.2), if_pos (rfl : (0 : Int) = 0), if_neg h]
    by_cases hlt : (n : Int) ≤ x1
    · rw [if_pos hlt] at ex
      rw [if_neg (by omega)] at em
      exact ag_mk (fm := fun M => f_M_lackAt FU x1 M J) (V := fun M => InvQ (j + 1) M J rv sp) ex em (invq_keep hI0 fr1 fr2) hrr hss
    · obtain ⟨g2, _⟩ := g1 x1.toNat (by omega)
      rw [if_neg hlt, if_pos (by omega), n3 x1.toNat (by omega), cname_eq g2, Option.bind_some] at ex
      rw [if_pos (by omega), if_pos (by omega), n5 x1.toNat (by omega), div32_eq (by omega) (by omega) (by omega) (by omega), rem32_eq (by omega) (by omega) (by omega) (by omega), w32i (x := 100 * (((g x1.toNat : Nat) : Int) / 12)) (by omega) (by omega), w32i (by omega) (by omega)] at em
      have ev : 100 * (((g x1.toNat : Nat) : Int) / 12) + ((g x1.toNat : Nat) : Int) % 12 = ((100 * (g x1.toNat / 12) + g x1.toNat % 12 : Nat) : Int) := by omega
      rw [ev] at em
      exact ag_mk (fm := fun M => f_M_lackAt FU x1 M J) (V := fun M => InvQ (j + 1) M J rv sp) ex em (invq_keep hI0 fr1 fr2) hrr hss
  · obtain ⟨N, e2, fr2, _, n4, n5, n6⟩ := hM I (fun a ha => rfl)
    refine ag_mk (r := -1) (M := I) (N := N) (fm := fun M => f_M_lackAt FU x1 M J) (V := fun M => InvQ (j + 1) M J rv sp) ?_ ?_ (invq_keep hI0 frX_refl fr2) hrr hss
    · unfold f_X_lackAt
      rw [if_neg hok]
    · show f_M_lackAt FU x1 I J = _
      unfold f_M_lackAt
      rw [e2, Option.bind_some, n4, w32i (x := (n : Int) - 1) (by omega) (by omega), M_in, if_neg (by omega), Option.bind_some, if_pos rfl]
