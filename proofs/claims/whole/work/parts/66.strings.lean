/-! what holds at the law's entry: the two texts -/
def stT (i : Nat) : Term := .string "FarewellStones$Tokens" (if i = 0 then 69 else 58)
set_option maxRecDepth 100000 in
theorem st_str {s : State} {args : Array Value} {A : Nat → Prop} (hts : ∀ w ∈ lw_tbl, w.before args s = true) (hgv : (Jvm.Cond.and given_1 narrow_1).before args s = true) (hA : ∀ a : Nat, a < s.heap.size → ¬ A a) : ∃ adK adV : Nat → Nat, vk_S 2 [102, 9] [WRB, SGB] adK adV A s s.heap ∧ vk_R "FarewellStones$Tokens" 69 WRD (adK 0) s ∧ vk_R "FarewellStones$Tokens" 58 SGN (adK 1) s := by
  have hs := flat_of_before _ hgv
  have h1 : ∀ i : Nat, i < 2 → Cond.exactly (stT i) "java/lang/String" ∈ flatC (Jvm.Cond.and given_1 narrow_1) := by decide +kernel
  have h2 : ∀ i : Nat, i < 2 → Cond.eq (.field (stT i) "java/lang/String" "coder" "B") (.int 0) ∈ flatC (Jvm.Cond.and given_1 narrow_1) := by decide +kernel
  have h3 : ∀ i : Nat, i < 2 → Cond.arrayOf (.field (stT i) "java/lang/String" "value" "[B") .byte ∈ flatC (Jvm.Cond.and given_1 narrow_1) := by decide +kernel
  have h4 : ∀ i : Nat, i < 2 → Cond.eq (.length (.field (stT i) "java/lang/String" "value" "[B")) (.int (Int32.ofNat (([102, 9] : List Nat).getD i 0))) ∈ flatC (Jvm.Cond.and given_1 narrow_1) := by decide +kernel
  have t0 : ((flatC (Jvm.Cond.and given_1 narrow_1)).drop 99).take 102 = (List.range 102).map (fun j => Cond.eq (.elem (.field (stT 0) "java/lang/String" "value" "[B") (.int (Int32.ofNat j))) (.int (WRB.getD j 0))) := by decide +kernel
  have t1 : ((flatC (Jvm.Cond.and given_1 narrow_1)).drop 205).take 9 = (List.range 9).map (fun j => Cond.eq (.elem (.field (stT 1) "java/lang/String" "value" "[B") (.int (Int32.ofNat j))) (.int (SGB.getD j 0))) := by decide +kernel
  have h5 : ∀ i : Nat, i < 2 → ∀ j : Nat, j < ([102, 9] : List Nat).getD i 0 → Cond.eq (.elem (.field (stT i) "java/lang/String" "value" "[B") (.int (Int32.ofNat j))) (.int ((([WRB, SGB] : List (List Int32)).getD i []).getD j 0)) ∈ flatC (Jvm.Cond.and given_1 narrow_1) := by
    intro i hi j hj
    have hi2 : i = 0 ∨ i = 1 := by omega
    rcases hi2 with e | e
    · subst e
      refine List.mem_of_mem_drop (i := 99) (List.mem_of_mem_take (i := 102) ?_)
      rw [t0]
      exact List.mem_map.mpr ⟨j, List.mem_range.mpr hj, rfl⟩
    · subst e
      refine List.mem_of_mem_drop (i := 205) (List.mem_of_mem_take (i := 9) ?_)
      rw [t1]
      exact List.mem_map.mpr ⟨j, List.mem_range.mpr hj, rfl⟩
  have h6 : ∀ i : Nat, i < 2 → ∀ j : Nat, j < 2 → i ≠ j → (Cond.not (Cond.eq (stT i) (stT j)) ∈ flatC (Jvm.Cond.and given_1 narrow_1) ∨ Cond.not (Cond.eq (stT j) (stT i)) ∈ flatC (Jvm.Cond.and given_1 narrow_1)) := by decide +kernel
  have h7 : ∀ i : Nat, i < 2 → ([102, 9] : List Nat).getD i 0 < 2 ^ 31 := by decide
  obtain ⟨adK, adV, hS, hE⟩ := vk_Sof (tm := stT) h7 (fun i hi => hs _ (h1 i hi)) (fun i hi => hs _ (h2 i hi)) (fun i hi => hs _ (h3 i hi)) (fun i hi => hs _ (h4 i hi)) (fun i hi j hj => hs _ (h5 i hi j hj)) (fun i j hi hj hij => (h6 i hi j hj hij).elim (fun h => Or.inl (hs _ h)) (fun h => Or.inr (hs _ h))) hA
  exact ⟨adK, adV, hS, vk_R.of (hts _ (by decide +kernel)) (hE 0 (by decide)), vk_R.of (hts _ (by decide +kernel)) (hE 1 (by decide))⟩
