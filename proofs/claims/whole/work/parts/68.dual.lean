/-! fords: a flow against a cut -/
theorem sumN_le {f g : Nat → Int} : ∀ {n : Nat}, (∀ k, k < n → f k ≤ g k) → sumN f n ≤ sumN g n
  | 0, _ => Int.le_refl 0
  | n + 1, h => by
    have h1 := sumN_le (n := n) (fun k hk => h k (by omega))
    have h2 := h n (by omega)
    show sumN f n + f n ≤ sumN g n + g n
    omega
theorem sumN_add {f g : Nat → Int} : ∀ {n : Nat}, sumN (fun k => f k + g k) n = sumN f n + sumN g n
  | 0 => rfl
  | n + 1 => by
    have h1 := sumN_add (f := f) (g := g) (n := n)
    show sumN (fun k => f k + g k) n + (f n + g n) = sumN f n + f n + (sumN g n + g n)
    omega
theorem sumN_sub {f g : Nat → Int} : ∀ {n : Nat}, sumN (fun k => f k - g k) n = sumN f n - sumN g n
  | 0 => rfl
  | n + 1 => by
    have h1 := sumN_sub (f := f) (g := g) (n := n)
    show sumN (fun k => f k - g k) n + (f n - g n) = sumN f n + f n - (sumN g n + g n)
    omega
theorem sumN_zero : ∀ {n : Nat}, sumN (fun _ => 0) n = 0
  | 0 => rfl
  | n + 1 => by
    show sumN (fun _ => 0) n + 0 = 0
    rw [sumN_zero]; rfl
theorem sumN_mul {a : Int} {f : Nat → Int} : ∀ {n : Nat}, sumN (fun k => a * f k) n = a * sumN f n
  | 0 => (Int.mul_zero a).symm
  | n + 1 => by
    show sumN (fun k => a * f k) n + a * f n = a * (sumN f n + f n)
    rw [sumN_mul, Int.mul_add]
theorem sumN_swap {f : Nat → Nat → Int} {m : Nat} : ∀ {n : Nat}, sumN (fun i => sumN (fun j => f i j) m) n = sumN (fun j => sumN (fun i => f i j) n) m
  | 0 => by
    show 0 = sumN (fun _ => 0) m
    rw [sumN_zero]
  | n + 1 => by
    show sumN (fun i => sumN (fun j => f i j) m) n + sumN (fun j => f n j) m = sumN (fun j => sumN (fun i => f i j) n + f n j) m
    rw [sumN_swap, sumN_add]
/-- a flow on the split graph: source arcs, through arcs, far arcs, leaps -/
def Flo (gs gv gt : Nat → Int) (ga : Nat → Nat → Int) : Prop := ∀ c, c < 96 → gs c + sumN (fun d => ga d c) 96 = gv c ∧ gt c + sumN (fun d => ga c d) 96 = gv c
theorem flo_cut {gs gv gt : Nat → Int} {ga : Nat → Nat → Int} (h : Flo gs gv gt ga) (ri ro : Nat → Int) : sumN gs 96 = sumN (fun c => gs c * (1 - ri c) + gv c * (ri c - ro c) + gt c * ro c) 96 + sumN (fun d => sumN (fun c => ga d c * (ro d - ri c)) 96) 96 := by
  have e1 : sumN (fun c => gs c * ri c + sumN (fun d => ga d c * ri c) 96 - gv c * ri c) 96 = 0 := by
    rw [← sumN_zero (n := 96)]
    refine sumN_congr (fun c hc => ?_)
    have := (h c hc).1
    have e : sumN (fun d => ga d c * ri c) 96 = ri c * sumN (fun d => ga d c) 96 := by
      rw [← sumN_mul]
      exact sumN_congr (fun d _ => Int.mul_comm _ _)
    rw [e, ← this, Int.add_mul, Int.mul_comm (ri c)]
    omega
  have e2 : sumN (fun c => gv c * ro c - gt c * ro c - sumN (fun d => ga c d * ro c) 96) 96 = 0 := by
    rw [← sumN_zero (n := 96)]
    refine sumN_congr (fun c hc => ?_)
    have := (h c hc).2
    have e : sumN (fun d => ga c d * ro c) 96 = ro c * sumN (fun d => ga c d) 96 := by
      rw [← sumN_mul]
      exact sumN_congr (fun d _ => Int.mul_comm _ _)
    rw [e, ← this, Int.add_mul, Int.mul_comm (ro c)]
    omega
  have e3 : sumN (fun d => sumN (fun c => ga d c * (ro d - ri c)) 96) 96 = sumN (fun c => sumN (fun d => ga c d * ro c) 96) 96 - sumN (fun c => sumN (fun d => ga d c * ri c) 96) 96 := by
    rw [← sumN_swap (f := fun d c => ga d c * ri c), ← sumN_sub]
    refine sumN_congr (fun d _ => ?_)
    rw [← sumN_sub]
    exact sumN_congr (fun c _ => Int.mul_sub _ _ _)
  have e4 : sumN (fun c => gs c * (1 - ri c) + gv c * (ri c - ro c) + gt c * ro c) 96 = sumN gs 96 - sumN (fun c => gs c * ri c) 96 + sumN (fun c => gv c * ri c) 96 - sumN (fun c => gv c * ro c) 96 + sumN (fun c => gt c * ro c) 96 := by
    rw [← sumN_sub, ← sumN_add, ← sumN_sub, ← sumN_add]
    refine sumN_congr (fun c _ => ?_)
    rw [Int.mul_sub, Int.mul_sub, Int.mul_one]
    omega
  rw [sumN_sub, sumN_add] at e1
  rw [sumN_sub, sumN_sub] at e2
  rw [e3, e4]
  omega
/-- no flow has more than one whose cut is full -/
theorem flo_le {gs gv gt fs fv ft : Nat → Int} {ga fa : Nat → Nat → Int} (hg : Flo gs gv gt ga) (hf : Flo fs fv ft fa) (ri ro : Nat → Int) (h1 : ∀ c, c < 96 → gs c * (1 - ri c) ≤ fs c * (1 - ri c) ∧ gv c * (ri c - ro c) ≤ fv c * (ri c - ro c) ∧ gt c * ro c ≤ ft c * ro c) (h2 : ∀ d c, d < 96 → c < 96 → ga d c * (ro d - ri c) ≤ fa d c * (ro d - ri c)) : sumN gs 96 ≤ sumN fs 96 := by
  rw [flo_cut hg ri ro, flo_cut hf ri ro]
  refine Int.add_le_add (sumN_le (fun c hc => ?_)) (sumN_le (fun d hd => sumN_le (fun c hc => h2 d c hd hc)))
  have := h1 c hc
  omega
