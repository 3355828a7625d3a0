/-! fords: a flow against a cut -/
def smN (f : Nat → Int) : Nat → Int
  | 0 => 0
  | n + 1 => smN f n + f n
theorem smN_congr {f g : Nat → Int} : ∀ {n : Nat}, (∀ k, k < n → f k = g k) → smN f n = smN g n
  | 0, _ => rfl
  | n + 1, h => by
    show smN f n + f n = smN g n + g n
    rw [smN_congr (fun k hk => h k (by omega)), h n (by omega)]
theorem smN_le {f g : Nat → Int} : ∀ {n : Nat}, (∀ k, k < n → f k ≤ g k) → smN f n ≤ smN g n
  | 0, _ => Int.le_refl 0
  | n + 1, h => by
    have h1 := smN_le (n := n) (fun k hk => h k (by omega))
    have h2 := h n (by omega)
    show smN f n + f n ≤ smN g n + g n
    omega
theorem smN_add {f g : Nat → Int} : ∀ {n : Nat}, smN (fun k => f k + g k) n = smN f n + smN g n
  | 0 => rfl
  | n + 1 => by
    have h1 := smN_add (f := f) (g := g) (n := n)
    show smN (fun k => f k + g k) n + (f n + g n) = smN f n + f n + (smN g n + g n)
    omega
theorem smN_sub {f g : Nat → Int} : ∀ {n : Nat}, smN (fun k => f k - g k) n = smN f n - smN g n
  | 0 => rfl
  | n + 1 => by
    have h1 := smN_sub (f := f) (g := g) (n := n)
    show smN (fun k => f k - g k) n + (f n - g n) = smN f n + f n - (smN g n + g n)
    omega
theorem smN_zero : ∀ {n : Nat}, smN (fun _ => 0) n = 0
  | 0 => rfl
  | n + 1 => by
    show smN (fun _ => 0) n + 0 = 0
    rw [smN_zero]; rfl
theorem smN_mul {a : Int} {f : Nat → Int} : ∀ {n : Nat}, smN (fun k => a * f k) n = a * smN f n
  | 0 => (Int.mul_zero a).symm
  | n + 1 => by
    show smN (fun k => a * f k) n + a * f n = a * (smN f n + f n)
    rw [smN_mul, Int.mul_add]
theorem smN_swap {f : Nat → Nat → Int} {m : Nat} : ∀ {n : Nat}, smN (fun i => smN (fun j => f i j) m) n = smN (fun j => smN (fun i => f i j) n) m
  | 0 => by
    show 0 = smN (fun _ => 0) m
    rw [smN_zero]
  | n + 1 => by
    show smN (fun i => smN (fun j => f i j) m) n + smN (fun j => f n j) m = smN (fun j => smN (fun i => f i j) n + f n j) m
    rw [smN_swap, smN_add]
/-- a flow on the split graph: source arcs, through arcs, far arcs, leaps -/
def Flo (gs gv gt : Nat → Int) (ga : Nat → Nat → Int) : Prop := ∀ c, c < 96 → gs c + smN (fun d => ga d c) 96 = gv c ∧ gt c + smN (fun d => ga c d) 96 = gv c
theorem flo_cut {gs gv gt : Nat → Int} {ga : Nat → Nat → Int} (h : Flo gs gv gt ga) (ri ro : Nat → Int) : smN gs 96 = smN (fun c => gs c * (1 - ri c) + gv c * (ri c - ro c) + gt c * ro c) 96 + smN (fun d => smN (fun c => ga d c * (ro d - ri c)) 96) 96 := by
  have e1 : smN (fun c => gs c * ri c + smN (fun d => ga d c * ri c) 96 - gv c * ri c) 96 = 0 := by
    rw [← smN_zero (n := 96)]
    refine smN_congr (fun c hc => ?_)
    have := (h c hc).1
    have e : smN (fun d => ga d c * ri c) 96 = ri c * smN (fun d => ga d c) 96 := by
      rw [← smN_mul]
      exact smN_congr (fun d _ => Int.mul_comm _ _)
    rw [e, ← this, Int.add_mul, Int.mul_comm (ri c)]
    omega
  have e2 : smN (fun c => gv c * ro c - gt c * ro c - smN (fun d => ga c d * ro c) 96) 96 = 0 := by
    rw [← smN_zero (n := 96)]
    refine smN_congr (fun c hc => ?_)
    have := (h c hc).2
    have e : smN (fun d => ga c d * ro c) 96 = ro c * smN (fun d => ga c d) 96 := by
      rw [← smN_mul]
      exact smN_congr (fun d _ => Int.mul_comm _ _)
    rw [e, ← this, Int.add_mul, Int.mul_comm (ro c)]
    omega
  have e3 : smN (fun d => smN (fun c => ga d c * (ro d - ri c)) 96) 96 = smN (fun c => smN (fun d => ga c d * ro c) 96) 96 - smN (fun c => smN (fun d => ga d c * ri c) 96) 96 := by
    rw [← smN_swap (f := fun d c => ga d c * ri c), ← smN_sub]
    refine smN_congr (fun d _ => ?_)
    rw [← smN_sub]
    exact smN_congr (fun c _ => Int.mul_sub _ _ _)
  have e4 : smN (fun c => gs c * (1 - ri c) + gv c * (ri c - ro c) + gt c * ro c) 96 = smN gs 96 - smN (fun c => gs c * ri c) 96 + smN (fun c => gv c * ri c) 96 - smN (fun c => gv c * ro c) 96 + smN (fun c => gt c * ro c) 96 := by
    rw [← smN_sub, ← smN_add, ← smN_sub, ← smN_add]
    refine smN_congr (fun c _ => ?_)
    rw [Int.mul_sub, Int.mul_sub, Int.mul_one]
    omega
  rw [smN_sub, smN_add] at e1
  rw [smN_sub, smN_sub] at e2
  rw [e3, e4]
  omega
/-- no flow has more than one whose cut is full -/
theorem flo_le {gs gv gt fs fv ft : Nat → Int} {ga fa : Nat → Nat → Int} (hg : Flo gs gv gt ga) (hf : Flo fs fv ft fa) (ri ro : Nat → Int) (h1 : ∀ c, c < 96 → gs c * (1 - ri c) ≤ fs c * (1 - ri c) ∧ gv c * (ri c - ro c) ≤ fv c * (ri c - ro c) ∧ gt c * ro c ≤ ft c * ro c) (h2 : ∀ d c, d < 96 → c < 96 → ga d c * (ro d - ri c) ≤ fa d c * (ro d - ri c)) : smN gs 96 ≤ smN fs 96 := by
  rw [flo_cut hg ri ro, flo_cut hf ri ro]
  refine Int.add_le_add (smN_le (fun c hc => ?_)) (smN_le (fun d hd => smN_le (fun c hc => h2 d c hd hc)))
  have := h1 c hc
  omega
