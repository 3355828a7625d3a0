/-! givers: the least grief, by taking the dearest last -/
def fT (k : Nat) : Nat → Bool := fun i => decide (k ≤ i)
def Wc (wt : Nat → Int) (n fr : Nat) (s : Int) : Int := sumN (fun i => if fr ≤ i ∧ wt i ≤ s then 1 else 0) n
def Us (sz t : Nat → Int) (N : Nat) (s : Int) : Int := sumN (fun m => if sz m ≤ s then t m else 0) N
def Ug (gr t : Nat → Int) (N : Nat) (γ : Int) : Int := sumN (fun m => if gr m ≤ γ then t m else 0) N
def FitS (N : Nat) (sz wt : Nat → Int) (n fr : Nat) (t : Nat → Int) : Prop := ∀ s : Nat, 1 ≤ s → s ≤ 9 → Us sz t N s ≤ Wc wt n fr s
def ad1 (t : Nat → Int) (m : Nat) : Nat → Int := fun q => t q + dl m q
theorem us_le {sz t u : Nat → Int} {N : Nat} {s : Int} (h : ∀ m, m < N → t m ≤ u m) : Us sz t N s ≤ Us sz u N s := sumN_le (fun m hm => by
  have := h m hm
  split <;> omega)
theorem fit_mono {N : Nat} {sz wt : Nat → Int} {n fr : Nat} {t u : Nat → Int} (h : ∀ m, m < N → t m ≤ u m) (hf : FitS N sz wt n fr u) : FitS N sz wt n fr t := fun s h1 h2 => by
  have := hf s h1 h2
  have := us_le (sz := sz) (s := (s : Int)) h
  omega
theorem us_ad1 {sz t : Nat → Int} {N m : Nat} {s : Int} (hm : m < N) : Us sz (ad1 t m) N s = Us sz t N s + (if sz m ≤ s then 1 else 0) := by
  unfold Us
  rw [sumN_upd (f := fun q => if sz q ≤ s then t q else 0) (g := fun q => if sz q ≤ s then ad1 t m q else 0) hm (fun q _ hne => by
    unfold ad1
    rw [dl_ne hne, Int.add_zero])]
  unfold ad1
  rw [dl_same]
  split <;> omega
theorem wc_s {wt : Nat → Int} {n fr : Nat} {s : Int} (h : fr < n) : Wc wt n fr s = Wc wt n (fr + 1) s + (if wt fr ≤ s then 1 else 0) := by
  unfold Wc
  rw [sumN_upd (f := fun i => if fr + 1 ≤ i ∧ wt i ≤ s then (1 : Int) else 0) (g := fun i => if fr ≤ i ∧ wt i ≤ s then (1 : Int) else 0) h (fun i _ hne => by
    by_cases e : fr + 1 ≤ i ∧ wt i ≤ s
    · rw [if_pos e, if_pos ⟨by omega, e.2⟩]
    · rw [if_neg e, if_neg (fun z => e ⟨by omega, z.2⟩)])]
  by_cases e : wt fr ≤ s
  · rw [if_pos ⟨Nat.le_refl _, e⟩, if_neg (by omega), if_pos e]; omega
  · rw [if_neg (fun z => e z.2), if_neg (by omega), if_neg e]; omega
theorem wc_le {wt : Nat → Int} {n fr : Nat} {s s' : Int} (h : s ≤ s') : Wc wt n fr s ≤ Wc wt n fr s' := sumN_le (fun i _ => by
  by_cases e : fr ≤ i ∧ wt i ≤ s
  · rw [if_pos e, if_pos ⟨e.1, by omega⟩]; omega
  · rw [if_neg e]; split <;> omega)
theorem wc_bd {wt : Nat → Int} {s : Int} {fr : Nat} : ∀ {n : Nat}, 0 ≤ Wc wt n fr s ∧ Wc wt n fr s ≤ ((n - fr : Nat) : Int)
  | 0 => by
    have : Wc wt 0 fr s = 0 := rfl
    omega
  | n + 1 => by
    have ih := wc_bd (wt := wt) (s := s) (fr := fr) (n := n)
    have e : Wc wt (n + 1) fr s = Wc wt n fr s + (if fr ≤ n ∧ wt n ≤ s then 1 else 0) := rfl
    rw [e]
    by_cases g : fr ≤ n ∧ wt n ≤ s
    · rw [if_pos g]; omega
    · rw [if_neg g]; omega
/-- the last size at which all is used -/
theorem tight_ex {f g : Nat → Int} : ∀ b : Nat, ∃ s, s ≤ b ∧ (s = 0 ∨ g s ≤ f s) ∧ ∀ s', s < s' → s' ≤ b → f s' < g s'
  | 0 => ⟨0, Nat.le_refl _, Or.inl rfl, fun s' h1 h2 => absurd h1 (by omega)⟩
  | b + 1 => by
    by_cases e : g (b + 1) ≤ f (b + 1)
    · exact ⟨b + 1, Nat.le_refl _, Or.inr e, fun s' h1 h2 => absurd h1 (by omega)⟩
    · obtain ⟨s, h1, h2, h3⟩ := tight_ex (f := f) (g := g) b
      refine ⟨s, by omega, h2, fun s' h4 h5 => ?_⟩
      by_cases e2 : s' = b + 1
      · rw [e2]; omega
      · exact h3 s' h4 (by omega)
/-- what can't be added to is as much as anything -/
theorem greedy_max {N : Nat} {sz wt gr cap : Nat → Int} {n fr : Nat} {γ : Int} {t u : Nat → Int} (hsz : ∀ m, m < N → 1 ≤ sz m ∧ sz m ≤ 9) (ht : FitS N sz wt n fr t) (h0 : ∀ m, m < N → γ < gr m → t m = 0) (hmax : ∀ m, m < N → gr m ≤ γ → t m = cap m ∨ ¬ FitS N sz wt n fr (ad1 t m)) (ht0 : ∀ m, m < N → 0 ≤ t m) (hu : FitS N sz wt n fr u) (hu0 : ∀ m, m < N → 0 ≤ u m ∧ u m ≤ cap m) : Ug gr u N γ ≤ Ug gr t N γ := by
  obtain ⟨s, s1, s2, s3⟩ := tight_ex (f := fun s => Us sz t N s) (g := fun s => Wc wt n fr s) 9
  have hU : Us sz u N s ≤ Us sz t N s := by
    rcases s2 with e | e
    · have z : ∀ v : Nat → Int, Us sz v N ((0 : Nat) : Int) = 0 := fun v => sumN_none (fun m hm => if_neg (by have := hsz m hm; omega))
      rw [e, z, z]; exact Int.le_refl _
    · by_cases e0 : s = 0
      · have z : ∀ v : Nat → Int, Us sz v N ((0 : Nat) : Int) = 0 := fun v => sumN_none (fun m hm => if_neg (by have := hsz m hm; omega))
        rw [e0, z, z]; exact Int.le_refl _
      · have := hu s (by omega) s1
        try dsimp only at e
        omega
  have big : ∀ m, m < N → gr m ≤ γ → (s : Int) < sz m → u m ≤ t m := fun m hm hg hs => by
    rcases hmax m hm hg with e | e
    · rw [e]; exact (hu0 m hm).2
    · refine absurd (fun s' h1 h2 => ?_) e
      rw [us_ad1 hm]
      have h3 := ht s' h1 h2
      by_cases g : sz m ≤ (s' : Int)
      · have := s3 s' (by omega) h2
        rw [if_pos g]; omega
      · rw [if_neg g]; omega
  have e1 : Ug gr u N γ ≤ sumN (fun m => (if sz m ≤ (s : Int) then u m else 0) + (if gr m ≤ γ ∧ ¬ sz m ≤ (s : Int) then t m else 0)) N := sumN_le (fun m hm => by
    have a1 := hu0 m hm
    by_cases g : gr m ≤ γ
    · rw [if_pos g]
      by_cases g2 : sz m ≤ (s : Int)
      · rw [if_pos g2, if_neg (c := gr m ≤ γ ∧ ¬ sz m ≤ (s : Int)) (fun z => z.2 g2)]; omega
      · rw [if_neg g2, if_pos ⟨g, g2⟩]
        have := big m hm g (by omega)
        omega
    · rw [if_neg g, if_neg (c := gr m ≤ γ ∧ ¬ sz m ≤ (s : Int)) (fun z => g z.1)]
      split <;> omega)
  have e2 : sumN (fun m => (if sz m ≤ (s : Int) then t m else 0) + (if gr m ≤ γ ∧ ¬ sz m ≤ (s : Int) then t m else 0)) N ≤ Ug gr t N γ := sumN_le (fun m hm => by
    have a1 := ht0 m hm
    by_cases g : gr m ≤ γ
    · rw [if_pos g]
      by_cases g2 : sz m ≤ (s : Int)
      · rw [if_pos g2, if_neg (c := gr m ≤ γ ∧ ¬ sz m ≤ (s : Int)) (fun z => z.2 g2)]; omega
      · rw [if_neg g2, if_pos ⟨g, g2⟩]; omega
    · rw [if_neg g, if_neg (c := gr m ≤ γ ∧ ¬ sz m ≤ (s : Int)) (fun z => g z.1), h0 m hm (by omega)]
      split <;> omega)
  rw [sumN_add] at e1 e2
  unfold Us at hU
  omega
theorem gsum {G : Int} (h0 : 0 ≤ G) : ∀ {n : Nat}, sumN (fun γ => if G ≤ (γ : Int) then 0 else 1) n = min G n
  | 0 => by
    show (0 : Int) = min G ((0 : Nat) : Int)
    omega
  | n + 1 => by
    show sumN (fun γ => if G ≤ (γ : Int) then 0 else 1) n + (if G ≤ (n : Int) then 0 else 1) = _
    rw [gsum h0]
    split <;> omega
theorem cost_ug {N : Nat} {gr t : Nat → Int} (hg : ∀ m, m < N → 0 ≤ gr m ∧ gr m ≤ 99) : sumN (fun m => t m * gr m) N = sumN (fun γ => sumN t N - Ug gr t N γ) 99 := by
  have e : ∀ m, m < N → t m * gr m = sumN (fun γ : Nat => t m * (if gr m ≤ (γ : Int) then 0 else 1)) 99 := fun m hm => by
    obtain ⟨h1, h2⟩ := hg m hm
    rw [sumN_mul, gsum h1]
    have : min (gr m) ((99 : Nat) : Int) = gr m := by omega
    rw [this]
  rw [sumN_congr (fun m hm => e m hm), sumN_swap]
  refine sumN_congr (fun γ _ => ?_)
  unfold Ug
  rw [← sumN_sub]
  refine sumN_congr (fun m _ => ?_)
  split <;> omega
/-- sets of sizes: the first stone to the least that may -/
theorem min_ex {P : Nat → Prop} {f : Nat → Int} : ∀ {N : Nat}, (∃ m, m < N ∧ P m) → ∃ m, m < N ∧ P m ∧ ∀ q, q < N → P q → f m ≤ f q
  | 0, h => absurd h (fun ⟨m, hm, _⟩ => by omega)
  | N + 1, h => by
    by_cases e : ∃ m, m < N ∧ P m
    · obtain ⟨m, h1, h2, h3⟩ := min_ex (f := f) e
      by_cases g : P N ∧ f N < f m
      · refine ⟨N, by omega, g.1, fun q hq hp => ?_⟩
        by_cases eq : q = N
        · rw [eq]; exact Int.le_refl _
        · have := h3 q (by omega) hp
          have := g.2
          omega
      · refine ⟨m, by omega, h2, fun q hq hp => ?_⟩
        by_cases eq : q = N
        · rw [eq] at hp ⊢
          exact Int.not_lt.mp (fun z => g ⟨hp, z⟩)
        · exact h3 q (by omega) hp
    · obtain ⟨m, h1, h2⟩ := h
      have : m = N := by
        by_cases q : m < N
        · exact absurd ⟨m, q, h2⟩ e
        · omega
      subst this
      refine ⟨m, h1, h2, fun q hq hp => ?_⟩
      by_cases eq : q = m
      · rw [eq]; exact Int.le_refl _
      · exact absurd ⟨q, by omega, hp⟩ e
theorem cT_fT_s {n k : Nat} {a : Nat → Nat} (hk : k < n) (m : Nat) : cT (fT k) n a m = cT (fT (k + 1)) n a m + dl (a k) m := by
  unfold cT fT
  rw [sumN_upd (f := fun i => if decide (k + 1 ≤ i) = true ∧ a i = m then (1 : Int) else 0) hk (fun i hi hne => by
    have : decide (k ≤ i) = decide (k + 1 ≤ i) := decide_eq_decide.mpr (by omega)
    rw [this])]
  have hkk : ¬ (k + 1 ≤ k) := by omega
  simp [dl, eq_comm (a := m), hkk]
theorem cost_fT_s {g : Nat → Int} {n k : Nat} {a : Nat → Nat} (hk : k < n) : cost g (fT k) n a = cost g (fT (k + 1)) n a + g (a k) := by
  unfold cost fT
  rw [sumN_upd (f := fun i => if decide (k + 1 ≤ i) = true then g (a i) else 0) hk (fun i hi hne => by
    have : decide (k ≤ i) = decide (k + 1 ≤ i) := decide_eq_decide.mpr (by omega)
    rw [this])]
  have hkk : ¬ (k + 1 ≤ k) := by omega
  simp [hkk]
theorem hall {N : Nat} {sz wt : Nat → Int} {n : Nat} (hsz : ∀ m, m < N → 1 ≤ sz m ∧ sz m ≤ 9) (hwt : ∀ i, i < n → 1 ≤ wt i ∧ wt i ≤ 10) : ∀ (d fr : Nat) (t : Nat → Int), n - fr = d → (∀ m, m < N → 0 ≤ t m) → FitS N sz wt n fr t → sumN t N = ((n - fr : Nat) : Int) → ∃ a : Nat → Nat, (∀ i, i < n → fr ≤ i → a i < N ∧ wt i ≤ sz (a i)) ∧ ∀ m, m < N → cT (fT fr) n a m = t m := by
  intro d
  induction d with
  | zero =>
    intro fr t hd h0 hf ht
    refine ⟨fun _ => 0, fun i hi hfi => absurd hi (by omega), fun m hm => ?_⟩
    have e1 : cT (fT fr) n (fun _ => 0) m = 0 := sumN_none (fun i hi => by
      have : fT fr i = false := by simp [fT]; omega
      simp [this])
    rw [e1]
    have e2 := sumN_upd (f := fun q => if q = m then 0 else t q) (g := t) hm (fun q _ hne => by rw [if_neg hne])
    have e3 := sumN_le (f := fun _ => 0) (g := fun q => if q = m then 0 else t q) (n := N) (fun q hq => by
      have := h0 q hq
      split <;> omega)
    rw [sumN_zero] at e3
    rw [if_pos rfl] at e2
    have := h0 m hm
    omega
  | succ d ih =>
    intro fr t hd h0 hf ht
    have hfr : fr < n := by omega
    obtain ⟨w1, w2⟩ := hwt fr hfr
    have lows : ∀ s : Nat, s ≤ 9 → Us sz t N s ≤ Wc wt n fr s := fun s hs => by
      by_cases e : s = 0
      · have z : Us sz t N ((0 : Nat) : Int) = 0 := sumN_none (fun m hm => if_neg (by have := hsz m hm; omega))
        rw [e, z]; exact wc_bd.1
      · exact hf s (by omega) hs
    have hex : ∃ m, m < N ∧ (0 < t m ∧ wt fr ≤ sz m) := by
      by_cases g : ∃ m, m < N ∧ (0 < t m ∧ wt fr ≤ sz m)
      · exact g
      · have e1 : sumN t N = Us sz t N (((wt fr - 1).toNat : Nat) : Int) := sumN_congr (fun m hm => by
          by_cases q : sz m ≤ (((wt fr - 1).toNat : Nat) : Int)
          · rw [if_pos q]
          · rw [if_neg q]
            have := h0 m hm
            by_cases q2 : t m = 0
            · exact q2
            · exact absurd ⟨m, hm, by omega, by omega⟩ g)
        have e2 := lows (wt fr - 1).toNat (by omega)
        have e3 := wc_s (wt := wt) (s := (((wt fr - 1).toNat : Nat) : Int)) hfr
        rw [if_neg (by omega)] at e3
        have e4 := (wc_bd (wt := wt) (s := (((wt fr - 1).toNat : Nat) : Int)) (fr := fr + 1) (n := n)).2
        omega
    obtain ⟨m, m1, ⟨m2, m3⟩, m4⟩ := min_ex (f := sz) hex
    have us' : ∀ s : Int, Us sz (fun q => t q - dl m q) N s = Us sz t N s - (if sz m ≤ s then 1 else 0) := fun s => by
      unfold Us
      rw [sumN_upd (f := fun q => if sz q ≤ s then t q else 0) (g := fun q => if sz q ≤ s then t q - dl m q else 0) m1 (fun q _ hne => by
        rw [dl_ne hne, Int.sub_zero])]
      rw [dl_same]
      split <;> omega
    obtain ⟨a, a1, a2⟩ := ih (fr + 1) (fun q => t q - dl m q) (by omega) (fun q hq => by
      by_cases e : q = m
      · rw [e, dl_same]; omega
      · rw [dl_ne e]; have := h0 q hq; omega) (fun s h1 h2 => by
      rw [us']
      have e1 := hf s h1 h2
      have e2 := wc_s (wt := wt) (s := (s : Int)) hfr
      by_cases q1 : wt fr ≤ (s : Int)
      · rw [if_pos q1] at e2
        by_cases q2 : sz m ≤ (s : Int)
        · rw [if_pos q2]; omega
        · rw [if_neg q2]
          have e3 : Us sz t N s = Us sz t N (((wt fr - 1).toNat : Nat) : Int) := sumN_congr (fun q hq => by
            by_cases c1 : sz q ≤ (((wt fr - 1).toNat : Nat) : Int)
            · rw [if_pos c1, if_pos (by omega)]
            · rw [if_neg c1]
              by_cases c2 : sz q ≤ (s : Int)
              · rw [if_pos c2]
                by_cases c3 : 0 < t q
                · have := m4 q hq ⟨c3, by omega⟩
                  omega
                · have := h0 q hq; omega
              · rw [if_neg c2])
          have e4 := lows (wt fr - 1).toNat (by omega)
          have e5 := wc_s (wt := wt) (s := (((wt fr - 1).toNat : Nat) : Int)) hfr
          rw [if_neg (by omega)] at e5
          have e6 := wc_le (wt := wt) (n := n) (fr := fr + 1) (s := (((wt fr - 1).toNat : Nat) : Int)) (s' := (s : Int)) (by omega)
          omega
      · rw [if_neg q1] at e2
        split <;> omega) (by
      rw [sumN_sub, sumN_pt (f := fun q => dl m q) m1 (fun q _ hne => dl_ne hne), dl_same, ht]
      omega)
    refine ⟨fun i => if i = fr then m else a i, fun i hi hfi => ?_, fun q hq => ?_⟩
    · dsimp only
      by_cases e : i = fr
      · rw [if_pos e, e]; exact ⟨m1, m3⟩
      · rw [if_neg e]; exact a1 i hi (by omega)
    · rw [cT_fT_s hfr, if_pos rfl, cT_congr (b := a) (fun i _ ht => if_neg (fun e => by rw [e] at ht; simp [fT] at ht; omega)), a2 q hq]
      omega
theorem cT_tot {N n fr : Nat} {b : Nat → Nat} (hb : ∀ i, i < n → fT fr i = true → b i < N) : sumN (fun m => cT (fT fr) n b m) N = ((n - fr : Nat) : Int) := by
  have h := cost_cnt (g := fun _ => 1) (T := fT fr) hb
  rw [sumN_congr (f := fun m => cT (fT fr) n b m * 1) (g := fun m => cT (fT fr) n b m) (fun m _ => Int.mul_one _)] at h
  rw [← h]
  clear h hb
  induction n with
  | zero => simp [cost, sumN]
  | succ n ih =>
    show cost (fun _ => 1) (fT fr) n b + (if fT fr n = true then 1 else 0) = _
    rw [ih]
    by_cases g : fr ≤ n
    · rw [if_pos (by simp [fT, g])]; omega
    · rw [if_neg (by simp [fT]; omega)]; omega
theorem hall_easy {N n fr : Nat} {sz wt : Nat → Int} {b : Nat → Nat} (hb : ∀ i, i < n → fT fr i = true → b i < N ∧ wt i ≤ sz (b i)) : FitS N sz wt n fr (fun m => cT (fT fr) n b m) := fun s h1 h2 => by
  have h := cost_cnt (g := fun m => if sz m ≤ (s : Int) then 1 else 0) (T := fT fr) (fun i hi ht => (hb i hi ht).1)
  have e : Us sz (fun m => cT (fT fr) n b m) N s = cost (fun m => if sz m ≤ (s : Int) then 1 else 0) (fT fr) n b := by
    rw [h]
    refine sumN_congr (fun m _ => ?_)
    dsimp only
    split <;> omega
  rw [e]
  refine sumN_le (fun i hi => ?_)
  dsimp only
  by_cases t : fT fr i = true
  · rw [if_pos t]
    have hfi : fr ≤ i := by simpa [fT] using t
    have := (hb i hi t).2
    by_cases q : sz (b i) ≤ (s : Int)
    · rw [if_pos q, if_pos ⟨hfi, by omega⟩]; omega
    · rw [if_neg q]; split <;> omega
  · rw [if_neg t]
    split <;> omega
def rsG (gr : Nat → Int) (γ : Int) (t : Nat → Int) : Nat → Int := fun m => if gr m ≤ γ then t m else 0
theorem ug_le {gr t : Nat → Int} {N : Nat} {γ : Int} (h : ∀ m, m < N → 0 ≤ t m) : Ug gr t N γ ≤ sumN t N := sumN_le (fun m hm => by
  have := h m hm
  split <;> omega)
/-- what the model's taking comes to -/
theorem greedy_opt {N n fr : Nat} {sz wt gr cap t : Nat → Int} (hsz : ∀ m, m < N → 1 ≤ sz m ∧ sz m ≤ 9) (hwt : ∀ i, i < n → 1 ≤ wt i ∧ wt i ≤ 10) (hgr : ∀ m, m < N → 0 ≤ gr m ∧ gr m ≤ 99) (ht : FitS N sz wt n fr t) (ht0 : ∀ m, m < N → 0 ≤ t m ∧ t m ≤ cap m) (hle : sumN t N ≤ ((n - fr : Nat) : Int)) (hmax : ∀ m, m < N → t m = cap m ∨ ((n - fr : Nat) : Int) ≤ sumN (rsG gr (gr m) t) N ∨ ¬ FitS N sz wt n fr (ad1 (rsG gr (gr m) t) m)) : (sumN t N = ((n - fr : Nat) : Int) → ∃ a, OptA N cap gr (fun i m => wt i ≤ sz m) n (fT fr) a ∧ cost gr (fT fr) n a = sumN (fun m => t m * gr m) N) ∧ (sumN t N ≠ ((n - fr : Nat) : Int) → ∀ b, ¬ VA N cap (fun i m => wt i ≤ sz m) n (fT fr) b) := by
  have rs0 : ∀ (γ : Int) (m : Nat), m < N → 0 ≤ rsG gr γ t m ∧ rsG gr γ t m ≤ t m := fun γ m hm => by
    unfold rsG
    have := ht0 m hm
    split <;> omega
  have er : ∀ γ : Int, sumN (rsG gr γ t) N = Ug gr t N γ := fun γ => rfl
  have er2 : ∀ γ : Int, Ug gr (rsG gr γ t) N γ = Ug gr t N γ := fun γ => sumN_congr (fun m _ => by
    unfold rsG
    split <;> rfl)
  have tot : ∀ b, VA N cap (fun i m => wt i ≤ sz m) n (fT fr) b → sumN (fun m => cT (fT fr) n b m) N = ((n - fr : Nat) : Int) := fun b hb => cT_tot (fun i hi ht => (hb.1 i hi ht).1)
  have dom : ∀ b, VA N cap (fun i m => wt i ≤ sz m) n (fT fr) b → ∀ γ : Nat, Ug gr (fun m => cT (fT fr) n b m) N γ ≤ Ug gr t N γ := by
    intro b hb γ
    have hu := hall_easy (sz := sz) (wt := wt) (fun i hi ht => hb.1 i hi ht)
    by_cases hfull : ((n - fr : Nat) : Int) ≤ Ug gr t N γ
    · have := ug_le (gr := gr) (γ := (γ : Int)) (N := N) (t := fun m => cT (fT fr) n b m) (fun m _ => cT_nn)
      have := tot b hb
      omega
    · rw [← er2]
      refine greedy_max hsz (fit_mono (fun m hm => (rs0 γ m hm).2) ht) (fun m hm hg => ?_) (fun m hm hg => ?_) (fun m hm => (rs0 γ m hm).1) hu (fun m hm => ⟨cT_nn, hb.2 m hm⟩)
      · unfold rsG
        rw [if_neg (by omega)]
      · rcases hmax m hm with e | e | e
        · refine Or.inl ?_
          unfold rsG
          rw [if_pos hg]; exact e
        · refine absurd (Int.le_trans e (sumN_le (fun q hq => ?_))) hfull
          unfold rsG
          have := ht0 q hq
          by_cases c1 : gr q ≤ gr m
          · rw [if_pos c1, if_pos (by omega)]; omega
          · rw [if_neg c1]
            split <;> omega
        · refine Or.inr (fun hfit => e (fit_mono (fun q hq => ?_) hfit))
          unfold ad1 rsG
          have := ht0 q hq
          by_cases c1 : gr q ≤ gr m
          · rw [if_pos c1, if_pos (by omega)]; omega
          · rw [if_neg c1]
            split <;> omega
  refine ⟨fun hL => ?_, fun hL b hb => ?_⟩
  · obtain ⟨a, a1, a2⟩ := hall hsz hwt (n - fr) fr t rfl (fun m hm => (ht0 m hm).1) ht hL
    have hva : VA N cap (fun i m => wt i ≤ sz m) n (fT fr) a := ⟨fun i hi ht => a1 i hi (by simpa [fT] using ht), fun m hm => by rw [a2 m hm]; exact (ht0 m hm).2⟩
    have hca : cost gr (fT fr) n a = sumN (fun m => t m * gr m) N := by
      rw [cost_cnt (fun i hi ht => (hva.1 i hi ht).1)]
      exact sumN_congr (fun m hm => by rw [a2 m hm])
    refine ⟨a, ⟨hva, fun b hb => ?_⟩, hca⟩
    rw [hca, cost_cnt (fun i hi ht => (hb.1 i hi ht).1), cost_ug hgr, cost_ug (t := fun m => cT (fT fr) n b m) hgr]
    refine sumN_le (fun γ hγ => ?_)
    have h1 := dom b hb γ
    have h2 := tot b hb
    omega
  · have h1 := dom b hb 99
    have h2 := tot b hb
    have e1 : Ug gr (fun m => cT (fT fr) n b m) N ((99 : Nat) : Int) = sumN (fun m => cT (fT fr) n b m) N := sumN_congr (fun m hm => by
      rw [if_pos (by have := hgr m hm; omega)])
    have h3 := ug_le (gr := gr) (γ := ((99 : Nat) : Int)) (N := N) (t := t) (fun m hm => (ht0 m hm).1)
    omega
