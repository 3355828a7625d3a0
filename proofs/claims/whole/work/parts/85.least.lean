/-! givers: the model's least grief -/
theorem isFit_eq {F lv n fr : Nat} (hF : 1000000 ≤ F) {I J : MI} {ρ : RIV} {wt : Nat → Int} (hρ : RivOK ρ) (hr : RivM I lv ρ) (hl : I 296 18 = (lv : Int)) (h63 : I 296 63 = (n : Int)) (hn : n ≤ 900) (hfr : fr ≤ n) (hwt : ∀ i, i < n → I 339 i = wt i) (ht : ∀ m : Nat, (m : Int) < aN ρ → 0 ≤ I 341 m ∧ I 341 m ≤ 100) : ∃ r : Int, f_M_isFit F (fr : Int) I J = some r ∧ ((r = 1 ∧ FitS (aN ρ).toNat (siz ρ) wt n fr (I 341)) ∨ (r = 0 ∧ ¬ FitS (aN ρ).toNat (siz ρ) wt n fr (I 341))) := by
  have h8 := hρ.2.2.2.1
  have hlv := hr.1
  have ubd : ∀ (j : Nat) (s : Int), (j : Int) ≤ aN ρ → 0 ≤ Us (siz ρ) (I 341) j s ∧ Us (siz ρ) (I 341) j s ≤ 100 * j := fun j s hj => sumN_bd (b := 100) (fun k hk => by
    have := ht k (by omega)
    split <;> omega)
  unfold f_M_isFit
  have k1 := wpo_iter (step := fun s : Int => f_M_isFit_L2 F (fr : Int) s I J) (Q := fun e => (e = .inr () ∧ FitS (aN ρ).toNat (siz ρ) wt n fr (I 341)) ∨ (e = .inl () ∧ ¬ FitS (aN ρ).toNat (siz ρ) wt n fr (I 341))) (fun x => ∃ s : Nat, 1 ≤ s ∧ s ≤ 10 ∧ x = (s : Int) ∧ ∀ s' : Nat, 1 ≤ s' → s' < s → Us (siz ρ) (I 341) (aN ρ).toNat s' ≤ Wc wt n fr s') (fun x => 10 - x.toNat) ?_ (F := F) (s := (1 : Int)) (by omega) ⟨1, by omega, by omega, rfl, fun s' h1 h2 => absurd h2 (by omega)⟩
  · obtain ⟨e, e1, q⟩ := k1
    rw [e1, Option.bind_some]
    rcases q with ⟨q1, q2⟩ | ⟨q1, q2⟩
    · rw [q1]; exact ⟨1, rfl, Or.inl ⟨rfl, q2⟩⟩
    · rw [q1]; exact ⟨0, rfl, Or.inr ⟨rfl, q2⟩⟩
  rintro x ⟨s, s1, s2, s3, s4⟩
  subst s3
  unfold f_M_isFit_L2
  refine wpo_i (fun hc => wpo_s ?_) (fun hc => ?_)
  · have : s = 10 := by clear s4; omega
    subst this
    exact Or.inl ⟨rfl, fun s' h1 h2 => s4 s' h1 (by clear s4; omega)⟩
  -- how many stones
  have e1 : iter (fun q : Int × Int => f_M_isFit_L13 F (fr : Int) (s : Int) q.1 q.2 I J) F (0, (fr : Int)) = some (Wc wt n fr s) := by
    refine iter_eq (e := Wc wt n fr s) (fun q => ∃ j : Nat, fr ≤ j ∧ j ≤ n ∧ q.2 = (j : Int) ∧ q.1 = Wc wt j fr s) (fun q => n - q.2.toNat) ?_ (by dsimp only; omega) ⟨fr, by omega, hfr, rfl, ?_⟩
    · rintro ⟨y, z⟩ ⟨j, p1, p2, p3, p4⟩
      dsimp only at p3 p4 ⊢
      subst p3
      unfold f_M_isFit_L13
      rw [h63]
      refine wpo_i (fun hc => wpo_s ?_) (fun hc => wpo_g (by omega) ?_)
      · have : j = n := by omega
        subst this
        exact p4
      have hb := wc_bd (wt := wt) (s := (s : Int)) (fr := fr) (n := j)
      have e : Wc wt (j + 1) fr s = Wc wt j fr s + (if fr ≤ j ∧ wt j ≤ s then 1 else 0) := rfl
      rw [Int.toNat_natCast, hwt j (by omega), w32i (x := (j : Int) + 1) (by omega) (by omega)]
      refine wpo_i (fun hc2 => wpo_s ?_) (fun hc2 => wpo_s ?_)
      · refine ⟨⟨j + 1, by omega, by omega, by dsimp only; omega, ?_⟩, by dsimp only; omega⟩
        dsimp only
        rw [e, if_neg (by omega), p4]; omega
      · refine ⟨⟨j + 1, by omega, by omega, by dsimp only; omega, ?_⟩, by dsimp only; omega⟩
        dsimp only
        rw [e, if_pos (by omega), p4, w32i (by omega) (by omega)]
    · have hb := wc_bd (wt := wt) (s := (s : Int)) (fr := fr) (n := fr)
      dsimp only
      omega
  have hW := wc_bd (wt := wt) (s := (s : Int)) (fr := fr) (n := n)
  have e2 : iter (fun q : Int × Int => f_M_isFit_L45 F (fr : Int) (s : Int) q.1 q.2 I J) F (Wc wt n fr s, 0) = some (Wc wt n fr s - Us (siz ρ) (I 341) (aN ρ).toNat s) := by
    refine iter_eq (e := Wc wt n fr s - Us (siz ρ) (I 341) (aN ρ).toNat s) (fun q => ∃ j : Nat, (j : Int) ≤ aN ρ ∧ q.2 = (j : Int) ∧ q.1 = Wc wt n fr s - Us (siz ρ) (I 341) j s) (fun q => (aN ρ).toNat - q.2.toNat) ?_ (by dsimp only; omega) ⟨0, by omega, rfl, by dsimp only; show _ = _ - (0 : Int); omega⟩
    rintro ⟨y, z⟩ ⟨j, p1, p2, p3⟩
    dsimp only at p2 p3 ⊢
    subst p2
    unfold f_M_isFit_L45
    rw [hl, if_pos (by omega), Int.toNat_natCast, hr.2.2.2.2.1]
    refine wpo_i (fun hc => wpo_s ?_) (fun hc => ?_)
    · have : j = (aN ρ).toNat := by omega
      show y = _
      rw [p3, this]
    have hj : (j : Int) < aN ρ := by omega
    have hu := ubd j (s : Int) p1
    have htj := ht j hj
    have e : Us (siz ρ) (I 341) (j + 1) s = Us (siz ρ) (I 341) j s + (if siz ρ j ≤ s then I 341 j else 0) := rfl
    rw [ix8 hlv (by omega)]
    refine wpo_g (by omega) ?_
    rw [Int.toNat_natCast, (hr.2.2.2.2.2.2.2.2.1 j hj).2.1, w32i (x := (j : Int) + 1) (by omega) (by omega), Int.toNat_natCast]
    refine wpo_i (fun hc2 => wpo_s ?_) (fun hc2 => wpo_g (by omega) (wpo_s ?_))
    · refine ⟨⟨j + 1, by omega, by dsimp only; omega, ?_⟩, by dsimp only; omega⟩
      dsimp only
      rw [e, if_neg (by omega), p3]; omega
    · refine ⟨⟨j + 1, by omega, by dsimp only; omega, ?_⟩, by dsimp only; omega⟩
      dsimp only
      rw [e, if_pos (by omega), p3, w32i (by omega) (by omega)]; omega
  rw [e1, Option.bind_some, e2, Option.bind_some]
  have es : w32 ((s : Int) + 1) = (s : Int) + 1 := by clear s4; exact w32i (by omega) (by omega)
  rw [es]
  refine wpo_i (fun hc2 => wpo_s ⟨⟨s + 1, by clear s4; omega, by clear s4; omega, by clear s4; omega, fun s' h1 h2 => ?_⟩, by clear s4; omega⟩) (fun hc2 => wpo_s (Or.inr ⟨rfl, fun hfit => ?_⟩))
  · by_cases e : s' = s
    · rw [e]; clear s4; omega
    · exact s4 s' h1 (by clear s4; omega)
  · have := hfit s s1 (by clear s4; omega)
    clear s4
    omega
/-- those who had their turn -/
def hadT (gr : Nat → Int) (γ m q : Nat) : Prop := gr q < (γ : Int) ∨ (gr q = (γ : Int) ∧ q < m)
def GIv (N : Nat) (sz wt gr cap : Nat → Int) (n fr : Nat) (γ m : Nat) (t : Nat → Int) (left sum : Int) : Prop :=
  left = ((n - fr : Nat) : Int) - sumN t N ∧ 0 ≤ left ∧ sum = sumN (fun q => t q * gr q) N ∧ FitS N sz wt n fr t ∧ (∀ q, q < N → 0 ≤ t q ∧ t q ≤ cap q) ∧
  (∀ q, q < N → hadT gr γ m q → t q = cap q ∨ ((n - fr : Nat) : Int) ≤ sumN (rsG gr (gr q) t) N ∨ ¬ FitS N sz wt n fr (ad1 (rsG gr (gr q) t) q)) ∧ ∀ q, q < N → ¬ hadT gr γ m q → t q = 0
/-- who had a turn keeps what it came to -/
theorem turn_keep {N : Nat} {sz wt gr cap : Nat → Int} {n fr q : Nat} {t u : Nat → Int} (h : t q = cap q ∨ ((n - fr : Nat) : Int) ≤ sumN (rsG gr (gr q) t) N ∨ ¬ FitS N sz wt n fr (ad1 (rsG gr (gr q) t) q)) (hle : ∀ m, m < N → t m ≤ u m) (hq : u q = t q) : u q = cap q ∨ ((n - fr : Nat) : Int) ≤ sumN (rsG gr (gr q) u) N ∨ ¬ FitS N sz wt n fr (ad1 (rsG gr (gr q) u) q) := by
  rcases h with e | e | e
  · exact Or.inl (hq.trans e)
  · refine Or.inr (Or.inl (Int.le_trans e (sumN_le (fun m hm => ?_))))
    unfold rsG
    have := hle m hm
    split <;> omega
  · refine Or.inr (Or.inr (fun hf => e (fit_mono (fun m hm => ?_) hf)))
    unfold ad1 rsG
    have := hle m hm
    split <;> omega
theorem up2_back {M : MI} {a k : Nat} {v : Int} : up2 (up2 M a k v) a k (M a k) = M := by
  funext x y
  unfold up2
  by_cases e : x = a ∧ y = k
  · rw [if_pos e, e.1, e.2]
  · rw [if_neg e, if_neg e]
theorem while_eq {F lv n fr γ m : Nat} (hF : 1000000 ≤ F) {I J : MI} {ρ : RIV} {wt : Nat → Int} {left sum : Int} {M : MI} (hρ : RivOK ρ) (hr : RivM I lv ρ) (hl : I 296 18 = (lv : Int)) (h63 : I 296 63 = (n : Int)) (hn : n ≤ 900) (hfr : fr ≤ n) (hwt : ∀ i, i < n → I 339 i = wt i) (hcap : ∀ m : Nat, (m : Int) < aN ρ → 0 ≤ I 340 m ∧ I 340 m ≤ 9) (hm : (m : Int) < aN ρ) (hg : gri ρ m = (γ : Int)) (hM : ∀ a, a ≠ 341 → M a = I a) (hG : GIv (aN ρ).toNat (siz ρ) wt (gri ρ) (I 340) n fr γ m (M 341) left sum) : ∃ e, iter (fun s : Int × Int × MI => f_M_leastGrief_L83 F (fr : Int) s.1 s.2.1 (γ : Int) (m : Int) s.2.2 J) F (left, sum, M) = some e ∧ ∃ (left' sum' : Int) (M' : MI), (e = .inr (left', sum', M') ∨ e = .inl (left', sum', up2 M' 341 m (M' 341 m + 1))) ∧ (∀ a, a ≠ 341 → M' a = I a) ∧ GIv (aN ρ).toNat (siz ρ) wt (gri ρ) (I 340) n fr γ (m + 1) (M' 341) left' sum' := by
  have h8 := hρ.2.2.2.1
  have hgm := (hρ.2.2.2.2.2.2.2.1 m hm).2.2.2
  have hmN : m < (aN ρ).toNat := by omega
  refine wpo_iter (step := fun s : Int × Int × MI => f_M_leastGrief_L83 F (fr : Int) s.1 s.2.1 (γ : Int) (m : Int) s.2.2 J) (Q := fun e => ∃ (left' sum' : Int) (M' : MI), (e = .inr (left', sum', M') ∨ e = .inl (left', sum', up2 M' 341 m (M' 341 m + 1))) ∧ (∀ a, a ≠ 341 → M' a = I a) ∧ GIv (aN ρ).toNat (siz ρ) wt (gri ρ) (I 340) n fr γ (m + 1) (M' 341) left' sum') (fun s => (∀ a, a ≠ 341 → s.2.2 a = I a) ∧ s.1 = ((n - fr : Nat) : Int) - sumN (s.2.2 341) (aN ρ).toNat ∧ 0 ≤ s.1 ∧ s.2.1 = sumN (fun q => s.2.2 341 q * gri ρ q) (aN ρ).toNat ∧ FitS (aN ρ).toNat (siz ρ) wt n fr (s.2.2 341) ∧ (∀ q, q < (aN ρ).toNat → 0 ≤ s.2.2 341 q ∧ s.2.2 341 q ≤ I 340 q) ∧ (∀ q, q < (aN ρ).toNat → hadT (gri ρ) γ m q → s.2.2 341 q = I 340 q ∨ ((n - fr : Nat) : Int) ≤ sumN (rsG (gri ρ) (gri ρ q) (s.2.2 341)) (aN ρ).toNat ∨ ¬ FitS (aN ρ).toNat (siz ρ) wt n fr (ad1 (rsG (gri ρ) (gri ρ q) (s.2.2 341)) q)) ∧ ∀ q, q < (aN ρ).toNat → ¬ hadT (gri ρ) γ m q → q ≠ m → s.2.2 341 q = 0) (fun s => (s.1).toNat) ?_ (F := F) (s := (left, sum, M)) ?_ ?_
  · rintro ⟨x, y, L⟩ ⟨p1, p2, p3, p4, p5, p6, p7, p8⟩
    dsimp only at p1 p2 p3 p4 p5 p6 p7 p8 ⊢
    -- who had a turn, with this one
    have had1 : ∀ q, hadT (gri ρ) γ (m + 1) q ↔ hadT (gri ρ) γ m q ∨ q = m := fun q => by
      unfold hadT
      constructor
      · rintro (h | ⟨h1, h2⟩)
        · exact Or.inl (Or.inl h)
        · by_cases e : q = m
          · exact Or.inr e
          · exact Or.inl (Or.inr ⟨h1, by omega⟩)
      · rintro ((h | ⟨h1, h2⟩) | h)
        · exact Or.inl h
        · exact Or.inr ⟨h1, by omega⟩
        · rw [h]; exact Or.inr ⟨hg, by omega⟩
    have rsE : ∀ q, q < (aN ρ).toNat → rsG (gri ρ) (gri ρ m) (L 341) q = L 341 q := fun q hq => by
      unfold rsG
      by_cases g : gri ρ q ≤ gri ρ m
      · rw [if_pos g]
      · rw [if_neg g]
        refine (p8 q hq (fun h => ?_) (fun e => g (by rw [e]; exact Int.le_refl _))).symm
        rcases h with h | ⟨h, _⟩ <;> omega
    have fin : (L 341 m = I 340 m ∨ ((n - fr : Nat) : Int) ≤ sumN (rsG (gri ρ) (gri ρ m) (L 341)) (aN ρ).toNat ∨ ¬ FitS (aN ρ).toNat (siz ρ) wt n fr (ad1 (rsG (gri ρ) (gri ρ m) (L 341)) m)) → GIv (aN ρ).toNat (siz ρ) wt (gri ρ) (I 340) n fr γ (m + 1) (L 341) x y := fun h => by
      refine ⟨p2, p3, p4, p5, p6, fun q hq hh => ?_, fun q hq hh => ?_⟩
      · rcases (had1 q).mp hh with h' | h'
        · exact p7 q hq h'
        · rw [h']; exact h
      · exact p8 q hq (fun h' => hh ((had1 q).mpr (Or.inl h'))) (fun h' => hh ((had1 q).mpr (Or.inr h')))
    unfold f_M_leastGrief_L83
    refine wpo_g (by clear p7 p8; omega) ?_
    rw [Int.toNat_natCast, p1 340 (by decide)]
    have hcm := hcap m hm
    have hpm := p6 m hmN
    refine wpo_i (fun hc => wpo_s ⟨x, y, L, Or.inl rfl, p1, fin (Or.inl (by clear p7 p8; omega))⟩) (fun hc => ?_)
    refine wpo_i (fun hc2 => wpo_s ⟨x, y, L, Or.inl rfl, p1, fin (Or.inr (Or.inl ?_))⟩) (fun hc2 => ?_)
    · rw [sumN_congr rsE]
      clear p7 p8
      omega
    have ew : w32 (L 341 m + 1) = L 341 m + 1 := by clear p7 p8; exact w32i (by omega) (by omega)
    rw [ew]
    have u41 : ∀ q, up2 L 341 m (L 341 m + 1) 341 q = ad1 (L 341) m q := fun q => by
      unfold ad1
      by_cases e : q = m
      · rw [e, up2_same, dl_same]
      · rw [up2_k e, dl_ne e, Int.add_zero]
    have uo : ∀ a, a ≠ 341 → up2 L 341 m (L 341 m + 1) a = I a := fun a ha => by rw [up2_off ha]; exact p1 a ha
    have u41f : up2 L 341 m (L 341 m + 1) 341 = ad1 (L 341) m := funext u41
    obtain ⟨r, f1, f2⟩ := isFit_eq (F := F) (J := J) (lv := lv) (n := n) (fr := fr) (I := up2 L 341 m (L 341 m + 1)) (wt := wt) hF hρ (rivm_congr hr (fun a b1 b2 => uo a (by clear p7 p8; omega))) (by rw [uo 296 (by decide)]; exact hl) (by rw [uo 296 (by decide)]; exact h63) hn hfr (fun i hi => by rw [uo 339 (by decide)]; exact hwt i hi) (fun q hq => by
      rw [u41 q]
      unfold ad1
      have h1 := p6 q (by clear p7 p8; omega)
      have h2 := hcap q hq
      have h3 := dl_b (x := m) (q := q)
      clear p7 p8
      omega)
    rw [f1, Option.bind_some]
    rcases f2 with ⟨f2, f3⟩ | ⟨f2, f3⟩
    · rw [f2]
      refine wpo_g (by decide) (wpo_s ?_)
      have hs1 : sumN (up2 L 341 m (L 341 m + 1) 341) (aN ρ).toNat = sumN (L 341) (aN ρ).toNat + 1 := by
        rw [sumN_upd (f := L 341) (g := up2 L 341 m (L 341 m + 1) 341) hmN (fun q _ hne => by rw [u41 q]; unfold ad1; rw [dl_ne hne, Int.add_zero]), u41 m]
        unfold ad1
        rw [dl_same]; clear p7 p8; omega
      have hs2 : sumN (fun q => up2 L 341 m (L 341 m + 1) 341 q * gri ρ q) (aN ρ).toNat = sumN (fun q => L 341 q * gri ρ q) (aN ρ).toNat + gri ρ m := by
        rw [sumN_upd (f := fun q => L 341 q * gri ρ q) (g := fun q => up2 L 341 m (L 341 m + 1) 341 q * gri ρ q) hmN (fun q _ hne => by
          rw [u41 q]; unfold ad1; rw [dl_ne hne, Int.add_zero])]
        rw [u41 m]
        unfold ad1
        rw [dl_same, Int.add_mul, Int.one_mul]; clear p7 p8; omega
      have hbd := sumN_bd (f := fun q => L 341 q * gri ρ q) (n := (aN ρ).toNat) (b := 891) (fun q hq => by
        have h1 := p6 q hq
        have h2 := hcap q (by clear p7 p8; omega)
        have h3 := (hρ.2.2.2.2.2.2.2.1 q (by clear p7 p8; omega)).2.2.2
        refine ⟨Int.mul_nonneg h1.1 h3.1, ?_⟩
        have e1 : L 341 q * gri ρ q ≤ L 341 q * 99 := Int.mul_le_mul_of_nonneg_left h3.2 h1.1
        clear p7 p8
        omega)
      have hnf : ((n - fr : Nat) : Int) ≤ 900 := by clear p7 p8; omega
      have hsn := sumN_bd (f := L 341) (n := (aN ρ).toNat) (b := 9) (fun q hq => by
        have h1 := p6 q hq
        have h2 := hcap q (by clear p7 p8; omega)
        clear p7 p8
        omega)
      rw [w32i (x := x + -1) (by clear p7 p8; omega) (by clear p7 p8; omega), w32i (x := y + (γ : Int)) (by clear p7 p8; omega) (by clear p7 p8; omega)]
      refine ⟨⟨uo, by dsimp only; rw [hs1]; clear p7 p8; omega, by dsimp only; clear p7 p8; omega, by dsimp only; rw [hs2, p4, hg], by dsimp only; rw [u41f] at f3 ⊢; exact f3, fun q hq => ?_, fun q hq hh => ?_, fun q hq hh hne => ?_⟩, by dsimp only; clear p7 p8; omega⟩
      · dsimp only
        rw [u41 q]
        unfold ad1
        have h1 := p6 q hq
        by_cases e : q = m
        · rw [e, dl_same]; clear p7 p8; omega
        · rw [dl_ne e]; clear p7 p8; omega
      · refine turn_keep (p7 q hq hh) (fun k hk => ?_) ?_ <;> dsimp only
        · rw [u41 k]
          unfold ad1
          have := dl_b (x := m) (q := k)
          clear p7 p8
          omega
        · rw [u41 q]
          unfold ad1
          rw [dl_ne, Int.add_zero]
          intro e
          rw [e] at hh
          rcases hh with h | ⟨_, h⟩ <;> (clear p7 p8; omega)
      · dsimp only
        rw [u41 q]
        unfold ad1
        rw [dl_ne hne, Int.add_zero]
        exact p8 q hq hh hne
    · rw [f2]
      refine wpo_n (fun h => h rfl) (wpo_s ⟨x, y, L, Or.inr rfl, p1, fin (Or.inr (Or.inr (fun hf => f3 ?_)))⟩)
      rw [u41f]
      refine fit_mono (fun q hq => ?_) hf
      unfold ad1
      rw [rsE q hq]
      exact Int.le_refl _
  · obtain ⟨g1, g2, _, _, g5, _⟩ := hG
    dsimp only
    have hsn := sumN_bd (f := M 341) (n := (aN ρ).toNat) (b := 9) (fun q hq => by
      have h1 := g5 q hq
      have h2 := hcap q (by omega)
      omega)
    omega
  · obtain ⟨g1, g2, g3, g4, g5, g6, g7⟩ := hG
    exact ⟨hM, g1, g2, g3, g4, g5, g6, fun q hq hh _ => g7 q hq hh⟩
