/-! givers: who goes first -/
theorem vaT_of {N : Nat} {cap : Nat → Int} {ok : Nat → Nat → Prop} {n : Nat} {T T' : Nat → Bool} {a : Nat → Nat} (h : VA N cap ok n T a) (ht : ∀ i, i < n → T' i = T i) : VA N cap ok n T' a := ⟨fun i hi hT => h.1 i hi (by rw [← ht i hi]; exact hT), fun m hm => by
  have e : cT T' n a m = cT T n a m := sumN_congr (fun i hi => by rw [ht i hi])
  rw [e]; exact h.2 m hm⟩
theorem costT_of {g : Nat → Int} {n : Nat} {T T' : Nat → Bool} {a : Nat → Nat} (ht : ∀ i, i < n → T' i = T i) : cost g T' n a = cost g T n a := sumN_congr (fun i hi => by rw [ht i hi])
theorem optT_of {N : Nat} {cap g : Nat → Int} {ok : Nat → Nat → Prop} {n : Nat} {T T' : Nat → Bool} {a : Nat → Nat} (h : OptA N cap g ok n T a) (ht : ∀ i, i < n → T' i = T i) : OptA N cap g ok n T' a := ⟨vaT_of h.1 ht, fun b hb => by
  rw [costT_of ht, costT_of ht]
  exact h.2 b (vaT_of hb (fun i hi => (ht i hi).symm))⟩
/-- the rest of one that is best -/
theorem rest_va {N n k : Nat} {cap : Nat → Int} {ok : Nat → Nat → Prop} {a : Nat → Nat} (hk : k < n) (ha : VA N cap ok n (fT k) a) : VA N (fun q => cap q - dl (a k) q) ok n (fT (k + 1)) a := by
  refine ⟨fun i hi ht => ha.1 i hi (by simp only [fT, decide_eq_true_eq] at ht ⊢; omega), fun m hm => ?_⟩
  have h1 := cT_fT_s (a := a) hk m
  have h2 := ha.2 m hm
  dsimp only
  omega
/-- .. and one before a rest -/
theorem join_va {N n k m : Nat} {cap : Nat → Int} {ok : Nat → Nat → Prop} {a : Nat → Nat} (hk : k < n) (hm : m < N) (ho : ok k m) (ha : VA N (fun q => cap q - dl m q) ok n (fT (k + 1)) a) : VA N cap ok n (fT k) (fun i => if i = k then m else a i) := by
  refine ⟨fun i hi ht => ?_, fun q hq => ?_⟩
  · dsimp only
    by_cases e : i = k
    · rw [if_pos e, e]; exact ⟨hm, ho⟩
    · rw [if_neg e]
      exact ha.1 i hi (by simp only [fT, decide_eq_true_eq] at ht ⊢; omega)
  · have h2 := ha.2 q hq
    dsimp only at h2
    rw [cT_fT_s hk, if_pos rfl, cT_congr (b := a) (fun i _ ht => if_neg (fun e => by rw [e] at ht; simp [fT] at ht; omega))]
    omega
theorem join_cost {n k m : Nat} {g : Nat → Int} {a : Nat → Nat} (hk : k < n) : cost g (fT k) n (fun i => if i = k then m else a i) = cost g (fT (k + 1)) n a + g m := by
  rw [cost_fT_s hk, if_pos rfl, cost_congr (b := a) (fun i _ ht => if_neg (fun e => by rw [e] at ht; simp [fT] at ht; omega))]
/-- what the first one gives leaves the rest at its best -/
theorem first_pass {N n k : Nat} {cap g : Nat → Int} {ok : Nat → Nat → Prop} {a a1 : Nat → Nat} (hk : k < n) (ha : OptA N cap g ok n (fT k) a) (h1 : OptA N (fun q => cap q - dl (a k) q) g ok n (fT (k + 1)) a1) : cost g (fT (k + 1)) n a1 = cost g (fT k) n a - g (a k) := by
  have hak := ha.1.1 k hk (by simp [fT])
  have e1 := h1.2 a (rest_va hk ha.1)
  have e2 := ha.2 _ (join_va hk hak.1 hak.2 h1.1)
  rw [join_cost hk] at e2
  have e3 := cost_fT_s (g := g) (a := a) hk
  omega
/-- who leaves no rest at all costs all that is left to give -/
theorem first_none {N n k m : Nat} {cap g : Nat → Int} {ok : Nat → Nat → Prop} {a : Nat → Nat} (hk : k < n) (hg : ∀ m, m < N → 0 ≤ g m) (ha : VA N cap ok n (fT k) a) (hm : m < N) (hc : 0 < cap m) (h1 : ∀ b, ¬ VA N (fun q => cap q - dl m q) ok n (fT (k + 1)) b) : g m ≤ cost g (fT k) n a := by
  by_cases h : cT (fT k) n a m < cap m
  · refine absurd ⟨fun i hi ht => ha.1 i hi (by simp only [fT, decide_eq_true_eq] at ht ⊢; omega), fun q hq => ?_⟩ (h1 a)
    have e1 := cT_fT_s (a := a) hk q
    have e2 := ha.2 q hq
    have e3 := dl_b (x := a k) (q := q)
    dsimp only
    by_cases e : q = m
    · subst e
      rw [dl_same]; omega
    · rw [dl_ne e]; omega
  · have hp : cT (fT k) n (fun _ => m + 1) m < cT (fT k) n a m := by
      have : cT (fT k) n (fun _ => m + 1) m = 0 := sumN_none (fun i _ => by rw [if_neg (fun z => by have h3 : m + 1 = m := z.2; omega)])
      omega
    obtain ⟨s, s1, s2, s3, _⟩ := cT_ex hp
    have e1 := cost_nn (g := g) (N := N) (n := n) (T := fun i => fT k i && decide (i ≠ s)) (a := a) hg (fun i hi ht => (ha.1 i hi (by simp only [Bool.and_eq_true] at ht; exact ht.1)).1)
    have e2 := sumN_upd (f := fun i => if (fT k i && decide (i ≠ s)) = true then g (a i) else 0) (g := fun i => if fT k i = true then g (a i) else 0) s1 (fun i _ hne => by simp [hne])
    have e3 : 0 ≤ sumN (fun i => if (fT k i && decide (i ≠ s)) = true then g (a i) else 0) n := e1
    have e4 : (if (fT k s && decide (s ≠ s)) = true then g (a s) else 0) = 0 := by simp
    unfold cost
    rw [e2, if_pos s2, s3, ← s3, e4]
    omega
theorem cT_uf {n k : Nat} {a : Nat → Nat} (m : Nat) : cT (uT n) n a m = cT (uT k) n a m + cT (fT k) n a m := by
  unfold cT
  rw [← sumN_add]
  refine sumN_congr (fun i hi => ?_)
  have e1 : uT n i = true := uT_n hi
  by_cases g : i < k
  · have e2 : uT k i = true := by simp [uT, g]
    have e3 : fT k i = false := by simp [fT]; omega
    simp [e1, e2, e3]
  · have e2 : uT k i = false := by simp [uT]; omega
    have e3 : fT k i = true := by simp [fT]; omega
    simp [e1, e2, e3]
theorem cost_uf {g : Nat → Int} {n k : Nat} {a : Nat → Nat} : cost g (uT n) n a = cost g (uT k) n a + cost g (fT k) n a := by
  unfold cost
  rw [← sumN_add]
  refine sumN_congr (fun i hi => ?_)
  have e1 : uT n i = true := uT_n hi
  by_cases h : i < k
  · have e2 : uT k i = true := by simp [uT, h]
    have e3 : fT k i = false := by simp [fT]; omega
    simp [e1, e2, e3]
  · have e2 : uT k i = false := by simp [uT]; omega
    have e3 : fT k i = true := by simp [fT]; omega
    simp [e1, e2, e3]
/-- one that is best and begins alike is best on the rest -/
theorem suffix_opt {N n k : Nat} {cap g : Nat → Int} {ok : Nat → Nat → Prop} {L b a : Nat → Nat} (ho : OptA N cap g ok n (uT n) b) (hpre : ∀ j, j < k → b j = L j) (ha : OptA N (fun q => cap q - cT (uT k) n L q) g ok n (fT k) a) (hc : cost g (uT n) n b = cost g (uT k) n L + cost g (fT k) n a) : OptA N (fun q => cap q - cT (uT k) n L q) g ok n (fT k) b := by
  have e1 : ∀ q, cT (uT k) n b q = cT (uT k) n L q := fun q => cT_congr (fun i _ ht => hpre i (by simpa [uT] using ht))
  have e2 : cost g (uT k) n b = cost g (uT k) n L := cost_congr (fun i _ ht => hpre i (by simpa [uT] using ht))
  refine ⟨⟨fun i hi _ => ho.1.1 i hi (uT_n hi), fun q hq => ?_⟩, fun b' hb' => ?_⟩
  · have h1 := cT_uf (a := b) (k := k) (n := n) q
    have h2 := ho.1.2 q hq
    have h3 := e1 q
    dsimp only
    omega
  · have h1 := ha.2 b' hb'
    have h2 := cost_uf (g := g) (a := b) (k := k) (n := n)
    omega
