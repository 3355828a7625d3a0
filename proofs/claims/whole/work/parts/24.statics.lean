/-! what holds at the law's entry: the statics -/
def leX : Term := .static "FarewellStones" "LEAP_X" "[I"
def leY : Term := .static "FarewellStones" "LEAP_Y" "[I"
set_option maxRecDepth 100000 in
theorem st_leX {s : State} {args : Array Value} {A : Nat → Prop} (hts : ∀ w ∈ lw_tbl, w.before args s = true) (hgv : (Jvm.Cond.and given_1 narrow_1).before args s = true) (hA : ∀ a : Nat, a < s.heap.size → ¬ A a) : ∃ t : Nat, va_Z "FarewellStones" "LEAP_X" "[I" (.ref t) A s s.heap ∧ va_T .int t 40 (fun j => vI (LX j)) A s s.heap := by
  have hs := flat_of_before _ hgv
  have h1 : (Cond.arrayOf leX .int).before args s = true := hs _ (by decide +kernel)
  have h2 : (Cond.eq (.length leX) (.int 40)).before args s = true := hs _ (by decide +kernel)
  have h3 : ∀ j : Nat, j < 40 → Cond.eq (.elem leX (.int (Int32.ofNat j))) (.int (Int32.ofInt (LX j))) ∈ flatC (Jvm.Cond.and given_1 narrow_1) := by decide +kernel
  obtain ⟨t, ht, hT⟩ := va_Tof (N := 40) (f := fun j => vI (LX j)) (by decide) h1 (va_eqt h2) (fun j hj => va_eqt (hs _ (h3 j hj))) hA
  exact ⟨t, va_Zof (hts _ (by decide +kernel)) (hts _ (by decide +kernel)) ht hA, hT⟩
set_option maxRecDepth 100000 in
theorem st_leY {s : State} {args : Array Value} {A : Nat → Prop} (hts : ∀ w ∈ lw_tbl, w.before args s = true) (hgv : (Jvm.Cond.and given_1 narrow_1).before args s = true) (hA : ∀ a : Nat, a < s.heap.size → ¬ A a) : ∃ t : Nat, va_Z "FarewellStones" "LEAP_Y" "[I" (.ref t) A s s.heap ∧ va_T .int t 40 (fun j => vI (LY j)) A s s.heap := by
  have hs := flat_of_before _ hgv
  have h1 : (Cond.arrayOf leY .int).before args s = true := hs _ (by decide +kernel)
  have h2 : (Cond.eq (.length leY) (.int 40)).before args s = true := hs _ (by decide +kernel)
  have h3 : ∀ j : Nat, j < 40 → Cond.eq (.elem leY (.int (Int32.ofNat j))) (.int (Int32.ofInt (LY j))) ∈ flatC (Jvm.Cond.and given_1 narrow_1) := by decide +kernel
  obtain ⟨t, ht, hT⟩ := va_Tof (N := 40) (f := fun j => vI (LY j)) (by decide) h1 (va_eqt h2) (fun j hj => va_eqt (hs _ (h3 j hj))) hA
  exact ⟨t, va_Zof (hts _ (by decide +kernel)) (hts _ (by decide +kernel)) ht hA, hT⟩
set_option maxRecDepth 100000 in
theorem st_two {s : State} {args : Array Value} {A : Nat → Prop} (hts : ∀ w ∈ lw_tbl, w.before args s = true) (hgv : (Jvm.Cond.and given_1 narrow_1).before args s = true) (hA : ∀ a : Nat, a < s.heap.size → ¬ A a) : va_Z "java/lang/String" "COMPACT_STRINGS" "Z" (.int 1) A s s.heap ∧ va_Zq "jdk/internal/util/Preconditions" "SIOOBE_FORMATTER" "Ljava/util/function/BiFunction;" A s s.heap := by
  have hs := flat_of_before _ hgv
  exact ⟨va_Zof (hts _ (by decide +kernel)) (hts _ (by decide +kernel)) (va_eqi (hs _ (by decide +kernel))) hA, va_Zqof (hts _ (by decide +kernel)) (hts _ (by decide +kernel)) (hs _ (by decide +kernel)) hA⟩
