/-! givers: who gives what -/
def dl (x q : Nat) : Int := if q = x then 1 else 0
theorem dl_same {x : Nat} : dl x x = 1 := if_pos rfl
theorem dl_ne {x q : Nat} (h : q ≠ x) : dl x q = 0 := if_neg h
theorem dl_b {x q : Nat} : 0 ≤ dl x q ∧ dl x q ≤ 1 := by unfold dl; split <;> omega
def cT (T : Nat → Bool) (n : Nat) (a : Nat → Nat) (m : Nat) : Int := sumN (fun i => if T i = true ∧ a i = m then 1 else 0) n
def cost (g : Nat → Int) (T : Nat → Bool) (n : Nat) (a : Nat → Nat) : Int := sumN (fun i => if T i = true then g (a i) else 0) n
theorem cT_nn {T : Nat → Bool} {n : Nat} {a : Nat → Nat} {m : Nat} : 0 ≤ cT T n a m := (sumN_bd (b := 1) (fun k _ => by split <;> omega)).1
theorem cT_congr {T : Nat → Bool} {n : Nat} {a b : Nat → Nat} {m : Nat} (h : ∀ i, i < n → T i = true → a i = b i) : cT T n a m = cT T n b m := sumN_congr (fun i hi => by
  by_cases g : T i = true
  · rw [h i hi g]
  · simp [g])
theorem cost_congr {g : Nat → Int} {T : Nat → Bool} {n : Nat} {a b : Nat → Nat} (h : ∀ i, i < n → T i = true → a i = b i) : cost g T n a = cost g T n b := sumN_congr (fun i hi => by
  by_cases g : T i = true
  · rw [h i hi g]
  · simp [g])
theorem cT_upd {T : Nat → Bool} {n s : Nat} {a b : Nat → Nat} (hs : s < n) (hT : T s = true) (h : ∀ i, i < n → i ≠ s → b i = a i) (m : Nat) : cT T n b m = cT T n a m + dl (b s) m - dl (a s) m := by
  unfold cT
  rw [sumN_upd (f := fun i => if T i = true ∧ a i = m then 1 else 0) hs (fun i hi hne => by (try dsimp only); rw [h i hi hne])]
  try dsimp only
  unfold dl
  rw [hT]
  simp only [true_and, eq_comm (a := m)]
  omega
theorem cT_ex {T : Nat → Bool} {n : Nat} {a b : Nat → Nat} {m : Nat} (h : cT T n b m < cT T n a m) : ∃ s, s < n ∧ T s = true ∧ a s = m ∧ b s ≠ m := by
  by_cases g : ∃ s, s < n ∧ T s = true ∧ a s = m ∧ b s ≠ m
  · exact g
  · refine absurd h (Int.not_lt.mpr (sumN_le (fun i hi => ?_)))
    by_cases e : T i = true ∧ a i = m
    · have hb : b i = m := by
        by_cases e2 : b i = m
        · exact e2
        · exact absurd ⟨i, hi, e.1, e.2, e2⟩ g
      have e3 : (if T i = true ∧ b i = m then (1 : Int) else 0) = 1 := if_pos ⟨e.1, hb⟩
      rw [if_pos e]; omega
    · rw [if_neg e]
      split <;> omega
theorem cT_pos {T : Nat → Bool} {n s : Nat} {a : Nat → Nat} (hs : s < n) (hT : T s = true) : 1 ≤ cT T n a (a s) := by
  have h := cT_upd (T := T) (n := n) (s := s) (a := fun i => if i = s then a s + 1 else a i) (b := a) hs hT (fun i _ hne => by (try dsimp only); rw [if_neg hne]) (a s)
  try dsimp only at h
  rw [if_pos rfl, dl_same, dl_ne (by omega)] at h
  have := cT_nn (T := T) (n := n) (a := fun i => if i = s then a s + 1 else a i) (m := a s)
  omega
theorem sumN_pt {f : Nat → Int} {N x : Nat} (hx : x < N) (h : ∀ q, q < N → q ≠ x → f q = 0) : sumN f N = f x := by
  have := sumN_upd (f := fun _ => 0) (g := f) hx (fun q hq hne => h q hq hne)
  rw [this, sumN_zero]; omega
theorem cost_cnt {g : Nat → Int} {T : Nat → Bool} {N : Nat} {a : Nat → Nat} : ∀ {n : Nat}, (∀ i, i < n → T i = true → a i < N) → cost g T n a = sumN (fun m => cT T n a m * g m) N
  | 0, _ => by
    show 0 = _
    rw [sumN_none (fun m _ => ?_)]
    show (0 : Int) * g m = 0
    exact Int.zero_mul _
  | n + 1, h => by
    have ih := cost_cnt (g := g) (n := n) (fun i hi => h i (by omega))
    show cost g T n a + (if T n = true then g (a n) else 0) = _
    rw [ih]
    have e : ∀ m, cT T (n + 1) a m * g m = cT T n a m * g m + (if T n = true ∧ a n = m then g m else 0) := fun m => by
      show (cT T n a m + (if T n = true ∧ a n = m then 1 else 0)) * g m = _
      rw [Int.add_mul]
      split <;> simp
    rw [sumN_congr (fun m _ => e m), sumN_add]
    congr 1
    by_cases t : T n = true
    · rw [if_pos t, sumN_pt (x := a n) (h n (by omega) t) (fun q _ hne => by (try dsimp only); rw [if_neg (fun z => hne z.2.symm)])]
      try dsimp only
      rw [if_pos ⟨t, rfl⟩]
    · rw [if_neg t, sumN_none (fun q _ => by rw [if_neg (fun z => t z.1)])]
theorem cost_of {g : Nat → Int} {T : Nat → Bool} {n N x y : Nat} {a b : Nat → Nat} (ha : ∀ i, i < n → T i = true → a i < N) (hb : ∀ i, i < n → T i = true → b i < N) (hx : x < N) (hy : y < N) (h : ∀ q, q < N → cT T n b q = cT T n a q + dl x q - dl y q) : cost g T n b = cost g T n a + g x - g y := by
  rw [cost_cnt hb, cost_cnt ha, sumN_congr (g := fun q => (cT T n a q * g q + dl x q * g q) - dl y q * g q) (fun q hq => by
    rw [h q hq, Int.sub_mul, Int.add_mul]), sumN_sub, sumN_add]
  rw [sumN_pt (f := fun q => dl x q * g q) hx (fun q _ hne => by (try dsimp only); rw [dl_ne hne, Int.zero_mul]), sumN_pt (f := fun q => dl y q * g q) hy (fun q _ hne => by (try dsimp only); rw [dl_ne hne, Int.zero_mul])]
  try dsimp only
  rw [dl_same, dl_same, Int.one_mul, Int.one_mul]
/-- one has more than before; who gets it in the end -/
theorem fwd {n N : Nat} {T : Nat → Bool} {a : Nat → Nat} : ∀ (d : Nat) (b : Nat → Nat) (x : Nat), x < N → (∀ i, i < n → T i = true → b i < N) → cnt (fun i => T i && decide (a i ≠ b i)) n ≤ (d : Int) → ∃ (m : Nat) (b' : Nat → Nat), m < N ∧ (∀ i, b' i = a i ∨ b' i = b i) ∧ (∀ q, cT T n b' q = cT T n b q + dl x q - dl m q) ∧ cT T n a m ≤ cT T n b' m ∧ ∀ R : Nat → Prop, R x → (∀ s, s < n → T s = true → R (a s) → R (b s)) → R m := by
  intro d
  induction d with
  | zero =>
    intro b x hx hb hd
    by_cases h : cT T n a x ≤ cT T n b x
    · exact ⟨x, b, hx, fun _ => Or.inr rfl, fun q => by omega, h, fun R r _ => r⟩
    · obtain ⟨s, s1, s2, s3, s4⟩ := cT_ex (Int.not_le.mp h)
      have := cnt_pos (p := fun i => T i && decide (a i ≠ b i)) s1 (by simp [s2]; omega)
      omega
  | succ d ih =>
    intro b x hx hb hd
    by_cases h : cT T n a x ≤ cT T n b x
    · exact ⟨x, b, hx, fun _ => Or.inr rfl, fun q => by omega, h, fun R r _ => r⟩
    · obtain ⟨s, s1, s2, s3, s4⟩ := cT_ex (Int.not_le.mp h)
      have hd2 := cnt_add (p := fun i => T i && decide (a i ≠ (if i = s then x else b i))) (q := fun i => T i && decide (a i ≠ b i)) s1 (by simp [s3]) (by simp [s2]; omega) (fun j _ hne => by simp [hne])
      obtain ⟨m, b', q1, q2, q3, q4, q5⟩ := ih (fun i => if i = s then x else b i) (b s) (hb s s1 s2) (fun i hi ht => by
        (try dsimp only); split
        · exact hx
        · exact hb i hi ht) (by omega)
      refine ⟨m, b', q1, fun i => ?_, fun q => ?_, q4, fun R r1 r2 => q5 R ?_ ?_⟩
      · rcases q2 i with e | e
        · exact Or.inl e
        · try dsimp only at e
          by_cases ei : i = s
          · rw [if_pos ei] at e
            exact Or.inl (by rw [e, ei, s3])
          · rw [if_neg ei] at e; exact Or.inr e
      · rw [q3 q, cT_upd (a := b) (b := fun i => if i = s then x else b i) s1 s2 (fun i _ hne => by (try dsimp only); rw [if_neg hne]) q]
        try dsimp only
        rw [if_pos rfl]
        omega
      · have := r2 s s1 s2
        rw [s3] at this
        exact this r1
      · intro i hi ht hr
        try dsimp only
        by_cases ei : i = s
        · rw [if_pos ei, ← s3, ← ei]; exact hr
        · rw [if_neg ei]; exact r2 i hi ht hr
/-- one has less than before; who gives it in the end -/
theorem bwd {n N : Nat} {T : Nat → Bool} {a : Nat → Nat} (ha : ∀ i, i < n → T i = true → a i < N) : ∀ (d : Nat) (b : Nat → Nat) (y : Nat), y < N → cnt (fun i => T i && decide (a i ≠ b i)) n ≤ (d : Int) → ∃ (l : Nat) (D : Nat → Nat), l < N ∧ (∀ i, D i = a i ∨ D i = b i) ∧ (∀ q, cT T n D q = cT T n b q + dl l q - dl y q) ∧ cT T n D l ≤ cT T n a l ∧ ∀ R : Nat → Prop, R y → (∀ s, s < n → T s = true → R (b s) → R (a s)) → R l := by
  intro d
  induction d with
  | zero =>
    intro b y hy hd
    by_cases h : cT T n b y ≤ cT T n a y
    · exact ⟨y, b, hy, fun _ => Or.inr rfl, fun q => by omega, h, fun R r _ => r⟩
    · obtain ⟨s, s1, s2, s3, s4⟩ := cT_ex (Int.not_le.mp h)
      have := cnt_pos (p := fun i => T i && decide (a i ≠ b i)) s1 (by simp [s2]; omega)
      omega
  | succ d ih =>
    intro b y hy hd
    by_cases h : cT T n b y ≤ cT T n a y
    · exact ⟨y, b, hy, fun _ => Or.inr rfl, fun q => by omega, h, fun R r _ => r⟩
    · obtain ⟨s, s1, s2, s3, s4⟩ := cT_ex (Int.not_le.mp h)
      have hd2 := cnt_add (p := fun i => T i && decide (a i ≠ (if i = s then a s else b i))) (q := fun i => T i && decide (a i ≠ b i)) s1 (by simp) (by simp [s2]; omega) (fun j _ hne => by simp [hne])
      obtain ⟨l, D, q1, q2, q3, q4, q5⟩ := ih (fun i => if i = s then a s else b i) (a s) (ha s s1 s2) (by omega)
      refine ⟨l, D, q1, fun i => ?_, fun q => ?_, q4, fun R r1 r2 => q5 R ?_ ?_⟩
      · rcases q2 i with e | e
        · exact Or.inl e
        · try dsimp only at e
          by_cases ei : i = s
          · rw [if_pos ei] at e
            exact Or.inl (by rw [e, ei])
          · rw [if_neg ei] at e; exact Or.inr e
      · rw [q3 q, cT_upd (a := b) (b := fun i => if i = s then a s else b i) s1 s2 (fun i _ hne => by (try dsimp only); rw [if_neg hne]) q]
        try dsimp only
        rw [if_pos rfl, s3]
        omega
      · exact r2 s s1 s2 (by rw [s3]; exact r1)
      · intro i hi ht hr
        try dsimp only at hr
        by_cases ei : i = s
        · rw [if_pos ei] at hr; rw [ei]; exact hr
        · rw [if_neg ei] at hr; exact r2 i hi ht hr
/-! who may give what -/
def VA (N : Nat) (cap : Nat → Int) (ok : Nat → Nat → Prop) (n : Nat) (T : Nat → Bool) (a : Nat → Nat) : Prop := (∀ i, i < n → T i = true → a i < N ∧ ok i (a i)) ∧ ∀ m, m < N → cT T n a m ≤ cap m
def OptA (N : Nat) (cap g : Nat → Int) (ok : Nat → Nat → Prop) (n : Nat) (T : Nat → Bool) (a : Nat → Nat) : Prop := VA N cap ok n T a ∧ ∀ b, VA N cap ok n T b → cost g T n a ≤ cost g T n b
def caG (cap : Nat → Int) (ok : Nat → Nat → Prop) (i m : Nat) : Prop := 0 < cap m ∧ ok i m
theorem va_caG {N : Nat} {cap : Nat → Int} {ok : Nat → Nat → Prop} {n : Nat} {T : Nat → Bool} {a : Nat → Nat} (h : VA N cap ok n T a) {i : Nat} (hi : i < n) (ht : T i = true) : caG cap ok i (a i) := by
  obtain ⟨h1, h2⟩ := h.1 i hi ht
  have := h.2 (a i) h1
  have := cT_pos (a := a) hi ht
  exact ⟨by omega, h2⟩
def uT (k : Nat) : Nat → Bool := fun i => decide (i < k)
def oT (k : Nat) : Nat → Bool := fun i => decide (k < i)
theorem cT_uT_s {n k : Nat} {a : Nat → Nat} (hk : k < n) (m : Nat) : cT (uT (k + 1)) n a m = cT (uT k) n a m + dl (a k) m := by
  unfold cT uT
  rw [sumN_upd (f := fun i => if decide (i < k) = true ∧ a i = m then 1 else 0) hk (fun i hi hne => by
    try dsimp only
    have : decide (i < k + 1) = decide (i < k) := decide_eq_decide.mpr (by omega)
    rw [this])]
  simp [dl, eq_comm (a := m)]
theorem cost_uT_s {g : Nat → Int} {n k : Nat} {a : Nat → Nat} (hk : k < n) : cost g (uT (k + 1)) n a = cost g (uT k) n a + g (a k) := by
  unfold cost uT
  rw [sumN_upd (f := fun i => if decide (i < k) = true then g (a i) else 0) hk (fun i hi hne => by
    try dsimp only
    have : decide (i < k + 1) = decide (i < k) := decide_eq_decide.mpr (by omega)
    rw [this])]
  simp
theorem cT_split {n k : Nat} {a : Nat → Nat} (hk : k < n) (m : Nat) : cT (uT n) n a m = cT (uT k) n a m + dl (a k) m + cT (oT k) n a m := by
  unfold cT
  rw [sumN_upd (f := fun i => (if uT k i = true ∧ a i = m then 1 else 0) + (if oT k i = true ∧ a i = m then 1 else 0)) (g := fun i => if uT n i = true ∧ a i = m then (1 : Int) else 0) hk (fun i hi hne => ?_), sumN_add]
  · have e1 : uT n k = true := by simp [uT, hk]
    have e2 : uT k k = false := by simp [uT]
    have e3 : oT k k = false := by simp [oT]
    simp only [e1, e2, e3]
    simp [dl, eq_comm (a := m)]
    omega
  · have e1 : uT n i = true := by simp [uT, hi]
    by_cases g : i < k
    · have e2 : uT k i = true := by simp [uT, g]
      have e3 : oT k i = false := by simp [oT]; omega
      simp only [e1, e2, e3]
      simp
    · have e2 : uT k i = false := by simp [uT]; omega
      have e3 : oT k i = true := by simp [oT]; omega
      simp only [e1, e2, e3]
      simp
/-- one more stone: who is free at the least grief -/
theorem give_ex {n N k : Nat} {cap g : Nat → Int} {ok : Nat → Nat → Prop} {a b : Nat → Nat} (hk : k < n) (ha : OptA N cap g ok n (uT k) a) (hb : VA N cap ok n (uT (k + 1)) b) {R : Nat → Prop} (hR1 : ∀ m, m < N → caG cap ok k m → R m) (hR2 : ∀ s m, s < k → m < N → R (a s) → caG cap ok s m → R m) : ∃ m, m < N ∧ R m ∧ cT (uT k) n a m < cap m ∧ cost g (uT k) n a + g m ≤ cost g (uT (k + 1)) n b := by
  have hbk := hb.1 k hk (by simp [uT])
  have hbl : ∀ i, i < n → uT k i = true → b i < N ∧ ok i (b i) := fun i hi ht => hb.1 i hi (by simp only [uT, decide_eq_true_eq] at ht ⊢; omega)
  obtain ⟨m, b', q1, q2, q3, q4, q5⟩ := fwd (n := n) (N := N) (T := uT k) (a := a) n b (b k) hbk.1 (fun i hi ht => (hbl i hi ht).1) (cnt_nn _ _).2
  have hb' : ∀ i, i < n → uT k i = true → b' i < N ∧ ok i (b' i) := fun i hi ht => by
    rcases q2 i with e | e
    · rw [e]; exact ha.1.1 i hi ht
    · rw [e]; exact hbl i hi ht
  have hcb : ∀ q, cT (uT k) n b q + dl (b k) q = cT (uT (k + 1)) n b q := fun q => (cT_uT_s hk q).symm
  have hm := hb.2 m q1
  have h3 := q3 m
  rw [dl_same] at h3
  have h3b := hcb m
  refine ⟨m, q1, q5 R (hR1 _ hbk.1 (va_caG hb hk (by simp [uT]))) (fun s hs ht hr => ?_), by omega, ?_⟩
  · have hsk : s < k := by simpa [uT] using ht
    exact hR2 s (b s) hsk (hbl s hs ht).1 hr (va_caG hb hs (by simp only [uT, decide_eq_true_eq]; omega))
  · have hv : VA N cap ok n (uT k) b' := ⟨hb', fun q hq => by
      have := hb.2 q hq
      have := q3 q
      have := hcb q
      have := dl_b (x := m) (q := q)
      omega⟩
    have h1 := ha.2 b' hv
    have h2 := cost_of (g := g) (fun i hi ht => (hbl i hi ht).1) (fun i hi ht => (hb' i hi ht).1) hbk.1 q1 (fun q _ => q3 q)
    have h4 := cost_uT_s (g := g) (a := b) hk
    omega
theorem uT_n {n i : Nat} (h : i < n) : uT n i = true := by simp [uT, h]
/-- one stone to another one: if that can be at the same sum, the two searches meet -/
theorem instead_ex {n N k : Nat} {cap g : Nat → Int} {ok : Nat → Nat → Prop} {a b : Nat → Nat} (hk : k < n) (ha : OptA N cap g ok n (uT n) a) (hb : VA N cap ok n (uT n) b) (hc : cost g (uT n) n b = cost g (uT n) n a) (hpre : ∀ i, i < k → b i = a i) {R B : Nat → Prop} (hR1 : R (b k)) (hR2 : ∀ s m, k < s → s < n → m < N → R (a s) → caG cap ok s m → R m) (hR3 : ¬ R (a k)) (hB1 : B (a k)) (hB2 : ∀ s m, k < s → s < n → m < N → B m → caG cap ok s m → B (a s)) : ∃ m l, m < N ∧ l < N ∧ R m ∧ cT (uT n) n a m < cap m ∧ B l ∧ g l = g m := by
  have hak := ha.1.1 k hk (uT_n hk)
  have hbk := hb.1 k hk (uT_n hk)
  have haT : ∀ i, i < n → oT k i = true → a i < N ∧ ok i (a i) := fun i hi _ => ha.1.1 i hi (uT_n hi)
  have hbT : ∀ i, i < n → oT k i = true → b i < N ∧ ok i (b i) := fun i hi _ => hb.1 i hi (uT_n hi)
  obtain ⟨m, b1, q1, q2, q3, q4, q5⟩ := fwd (n := n) (N := N) (T := oT k) (a := a) n b (b k) hbk.1 (fun i hi ht => (hbT i hi ht).1) (cnt_nn _ _).2
  obtain ⟨l, D, r1, r2, r3, r4, r5⟩ := bwd (n := n) (N := N) (T := oT k) (a := a) (fun i hi ht => (haT i hi ht).1) n b1 (a k) hak.1 (cnt_nn _ _).2
  have hRm : R m := q5 R hR1 (fun s hs ht hr => hR2 s (b s) (by simpa [oT] using ht) hs (hbT s hs ht).1 hr (va_caG hb hs (uT_n hs)))
  have hBl : B l := r5 B hB1 (fun s hs ht hr => by
    rcases q2 s with e | e
    · rw [e] at hr; exact hr
    · rw [e] at hr
      exact hB2 s (b s) (by simpa [oT] using ht) hs (hbT s hs ht).1 hr (va_caG hb hs (uT_n hs)))
  have hmk : m ≠ a k := fun e => hR3 (by rw [← e]; exact hRm)
  have hpreC : ∀ q, cT (uT k) n b q = cT (uT k) n a q := fun q => cT_congr (fun i _ ht => hpre i (by simpa [uT] using ht))
  have sa : ∀ q, cT (uT n) n a q = cT (uT k) n a q + dl (a k) q + cT (oT k) n a q := fun q => cT_split hk q
  have sb : ∀ q, cT (uT n) n b q = cT (uT k) n a q + dl (b k) q + cT (oT k) n b q := fun q => by rw [cT_split hk q, hpreC q]
  have hfree : cT (uT n) n a m < cap m := by
    have h1 := sa m
    have h2 := sb m
    have h3 := q3 m
    have h4 := hb.2 m q1
    rw [dl_same] at h3
    rw [dl_ne hmk] at h1
    omega
  -- D on the rest, a up to it
  have hDT : ∀ i, i < n → oT k i = true → D i < N ∧ ok i (D i) ∧ (D i = a i ∨ D i = b i) := fun i hi ht => by
    rcases r2 i with e | e
    · rw [e]; exact ⟨(haT i hi ht).1, (haT i hi ht).2, Or.inl rfl⟩
    · rw [e]
      rcases q2 i with e | e
      · rw [e]; exact ⟨(haT i hi ht).1, (haT i hi ht).2, Or.inl rfl⟩
      · rw [e]; exact ⟨(hbT i hi ht).1, (hbT i hi ht).2, Or.inr rfl⟩
  have spl : ∀ (f : Nat → Nat) (q : Nat), (∀ i, i < k → f i = a i) → cT (uT n) n f q = cT (uT k) n a q + dl (f k) q + cT (oT k) n f q := fun f q hf => by
    rw [cT_split hk q, cT_congr (T := uT k) (b := a) (fun i _ ht => hf i (by simpa [uT] using ht))]
  -- first: a up to it, D behind it
  have hD1 : ∀ q, cT (uT n) n (fun i => if i ≤ k then a i else D i) q = cT (uT n) n b q + dl l q - dl m q := fun q => by
    have h1 := spl (fun i => if i ≤ k then a i else D i) q (fun i hi => if_pos (by omega))
    try dsimp only at h1
    rw [if_pos (Nat.le_refl k), cT_congr (T := oT k) (b := D) (fun i _ ht => by
      have : k < i := by simpa [oT] using ht
      rw [if_neg (by omega)])] at h1
    have := r3 q
    have := q3 q
    have := sb q
    omega
  have hDv : VA N cap ok n (uT n) (fun i => if i ≤ k then a i else D i) := by
    refine ⟨fun i hi _ => ?_, fun q hq => ?_⟩
    · dsimp only
      split
      · exact ha.1.1 i hi (uT_n hi)
      · have := hDT i hi (by simp [oT]; omega)
        exact ⟨this.1, this.2.1⟩
    · have h1 := hD1 q
      by_cases e : q = l
      · subst e
        have h2 := spl (fun i => if i ≤ k then a i else D i) q (fun i hi => if_pos (by omega))
        try dsimp only at h2
        rw [if_pos (Nat.le_refl k), cT_congr (T := oT k) (b := D) (fun i _ ht => by
          have : k < i := by simpa [oT] using ht
          rw [if_neg (by omega)])] at h2
        have := sa q
        have := ha.1.2 q hq
        omega
      · rw [dl_ne e] at h1
        have := hb.2 q hq
        have := dl_b (x := m) (q := q)
        omega
  have hD2 := ha.2 _ hDv
  have hD3 := cost_of (g := g) (fun i hi ht => (hb.1 i hi ht).1) (fun i hi ht => (hDv.1 i hi ht).1) r1 q1 (fun q _ => hD1 q)
  -- second: what is left of both
  have hE1 : ∀ q, cT (oT k) n (fun i => if D i = a i then b i else a i) q = cT (oT k) n a q + cT (oT k) n b q - cT (oT k) n D q := fun q => by
    unfold cT
    rw [← sumN_add, ← sumN_sub]
    refine sumN_congr (fun i hi => ?_)
    by_cases ht : oT k i = true
    · obtain ⟨_, _, e⟩ := hDT i hi ht
      by_cases e1 : D i = a i
      · simp only [ht, e1, true_and, if_true]; omega
      · rcases e with e | e
        · exact absurd e e1
        · simp only [ht, e1, e, true_and, if_false]
          rw [e] at e1
          simp only [e1, if_false]; omega
    · rw [if_neg (fun z => ht z.1), if_neg (fun z => ht z.1), if_neg (fun z => ht z.1), if_neg (fun z => ht z.1)]; rfl
  have hE2 : ∀ q, cT (uT n) n (fun i => if i < k then a i else if i = k then b k else if D i = a i then b i else a i) q = cT (uT n) n a q + dl m q - dl l q := fun q => by
    have h1 := spl (fun i => if i < k then a i else if i = k then b k else if D i = a i then b i else a i) q (fun i hi => if_pos hi)
    try dsimp only at h1
    rw [if_neg (Nat.lt_irrefl k), if_pos rfl, cT_congr (T := oT k) (b := fun i => if D i = a i then b i else a i) (fun i _ ht => by
      have : k < i := by simpa [oT] using ht
      rw [if_neg (by omega), if_neg (by omega)])] at h1
    have := hE1 q
    have := r3 q
    have := q3 q
    have := sa q
    omega
  have hEv : VA N cap ok n (uT n) (fun i => if i < k then a i else if i = k then b k else if D i = a i then b i else a i) := by
    refine ⟨fun i hi _ => ?_, fun q hq => ?_⟩
    · dsimp only
      split
      · exact ha.1.1 i hi (uT_n hi)
      · split
        · rename_i e; rw [e]; exact hbk
        · split
          · exact hb.1 i hi (uT_n hi)
          · exact ha.1.1 i hi (uT_n hi)
    · have h1 := hE2 q
      have := dl_b (x := l) (q := q)
      by_cases e : q = m
      · subst e
        rw [dl_same] at h1
        omega
      · rw [dl_ne e] at h1
        have := ha.1.2 q hq
        omega
  have hE3 := ha.2 _ hEv
  have hE4 := cost_of (g := g) (fun i hi ht => (ha.1.1 i hi ht).1) (fun i hi ht => (hEv.1 i hi ht).1) q1 r1 (fun q _ => hE2 q)
  exact ⟨m, l, q1, r1, hRm, hfree, hBl, by omega⟩
/-- the first by numbers of those at the least sum -/
def LexA (N : Nat) (cap g : Nat → Int) (ok : Nat → Nat → Prop) (n k : Nat) (a : Nat → Nat) : Prop := ∀ b, OptA N cap g ok n (uT n) b → ∀ i, i < k → (∀ j, j < i → b j = a j) → a i ≤ b i
theorem lex_uniq {N : Nat} {cap g : Nat → Int} {ok : Nat → Nat → Prop} {n : Nat} {a b : Nat → Nat} (ha : OptA N cap g ok n (uT n) a) (hb : OptA N cap g ok n (uT n) b) (la : LexA N cap g ok n n a) (lb : LexA N cap g ok n n b) : ∀ i, i < n → a i = b i := by
  intro i
  induction i using Nat.strongRecOn with
  | _ i ih =>
  intro hi
  have h1 := la b hb i hi (fun j hj => (ih j hj (by omega)).symm)
  have h2 := lb a ha i hi (fun j hj => ih j hj (by omega))
  omega
theorem opt_cost {N : Nat} {cap g : Nat → Int} {ok : Nat → Nat → Prop} {n : Nat} {T : Nat → Bool} {a b : Nat → Nat} (ha : OptA N cap g ok n T a) (hb : OptA N cap g ok n T b) : cost g T n a = cost g T n b := by
  have := ha.2 b hb.1
  have := hb.2 a ha.1
  omega
