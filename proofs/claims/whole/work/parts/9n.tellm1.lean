/-! texts: the model tells, small steps -/
theorem Wt_name {B : Nat → Int} {n nt t : Nat} (hN : NTk B n nt) (h : Kt B n nt t = 300) : ltrs (Wt B n t) ∧ (Wt B n t).length ≤ 8 := by
  have hlt : t < nt := by
    by_cases g : t < nt
    · exact g
    · have : Kt B n nt t = 302 := if_neg g
      omega
  have hk : kdB B (tokS B n t) (tokE B n (tokS B n t)) = 300 := (if_pos hlt).symm.trans h
  have h2 : soB (B (tokS B n t)) = 1 ∧ tokE B n (tokS B n t) - tokS B n t ≤ 8 := by
    unfold kdB at hk
    by_cases g1 : soB (B (tokS B n t)) = 1
    · rw [if_pos g1] at hk
      refine ⟨g1, ?_⟩
      cases hw : kwd (lst B (tokS B n t) (tokE B n (tokS B n t) - tokS B n t)) with
      | some j =>
        rw [hw] at hk
        have := (kwd_lt hw).1
        dsimp only at hk
        omega
      | none =>
        rw [hw] at hk
        dsimp only at hk
        split at hk
        · assumption
        · omega
    · rw [if_neg g1] at hk
      by_cases g2 : soB (B (tokS B n t)) = 2
      · rw [if_pos g2] at hk
        split at hk <;> omega
      · rw [if_neg g2] at hk
        split at hk <;> omega
  have hE : tokE B n (tokS B n t) = rn (soP 1) B n (tokS B n t) := by
    unfold tokE
    rw [if_neg (by omega), h2.1]
  have hr := rn_spec (p := soP 1) (B := B) (n := n) _ (tokS B n t) rfl
  refine ⟨lst_ltrs (fun k b1 b2 => ?_), by unfold Wt; rw [lst_len]; exact h2.2⟩
  have := hr.2.2.1 k b1 (by rw [← hE]; omega)
  simpa [soP] using this
theorem names_eq {B : Nat → Int} {n nt a b : Nat} {x y : Int} (hN : NTk B n nt) (ha : Kt B n nt a = 300) (hb : Kt B n nt b = 300) (hx : x = wnum (Wt B n a)) (hy : y = wnum (Wt B n b)) : cmp64 x y = 0 ↔ Wt B n a = Wt B n b := by
  obtain ⟨a1, a2⟩ := Wt_name hN ha
  obtain ⟨b1, b2⟩ := Wt_name hN hb
  have c1 := wnum_le a1 a2
  have c2 := wnum_le b1 b2
  have d1 := wnum_nn a1
  have d2 := wnum_nn b1
  have e : (27 : Int) ^ 8 = 282429536481 := by decide
  rw [e] at c1 c2
  rw [hx, hy, cmp64_eq ⟨d1, by omega⟩ ⟨d2, by omega⟩]
  exact ⟨fun h => wnum_inj a1 b1 h, fun h => by rw [h]⟩
def MdM (B : Nat → Int) (n nt : Nat) (J G I : MI) (r : Ctl) : Prop := TkM I J B n nt ∧ CtM B n nt I r ∧ Fr5 G I
section
variable {F n nt : Nat} {B : Nat → Int} {J G I : MI} {r : Ctl}
theorem md_must {x c : Int} (hx : VK x) (hc : c = mkK x) (h3 : x ≠ 302) (H : MdM B n nt J G I r) : ∃ I', f_M_must F c I J = some I' ∧ MdM B n nt J G I' (takeA (Kt B n nt) (PP B n nt) x r) := by
  obtain ⟨I', e, a, f⟩ := mustM (F := F) H.1 H.2.1 hx hc h3
  exact ⟨I', e, tkm_congr H.1 (fun b b1 b2 => f.1 b (by omega)) rfl, a, fr5_trans H.2.2 f⟩
theorem md_fail {w : Int} (hw : 0 < w) (H : MdM B n nt J G I r) : ∃ I', f_M_fail F w I J = some I' ∧ MdM B n nt J G I' (failA (PP B n nt) w r) := by
  obtain ⟨I', e, a, f, _⟩ := failM (F := F) H.1 H.2.1 hw
  exact ⟨I', e, tkm_congr H.1 (fun b b1 b2 => f.1 b (by omega)) rfl, a, fr5_trans H.2.2 f⟩
theorem md_go {x : Int} {t : Nat} {l lp : Int} (H : MdM B n nt J G I (.inr (t, l, lp))) (hk : Kt B n nt t = x) (h3 : x ≠ 302) : ∃ I', f_M_goesOn F I J = some I' ∧ MdM B n nt J G I' (takeA (Kt B n nt) (PP B n nt) x (.inr (t, l, lp))) := by
  obtain ⟨I', e, a, f⟩ := goesM (F := F) H.1 H.2.1 (fun t' l' lp' g => by cases g; rw [hk]; exact h3)
  have : takeA (Kt B n nt) (PP B n nt) x (.inr (t, l, lp)) = goA (PP B n nt) (.inr (t, l, lp)) := if_pos hk
  rw [this]
  exact ⟨I', e, tkm_congr H.1 (fun b b1 b2 => f.1 b (by omega)) rfl, a, fr5_trans H.2.2 f⟩
theorem md_bnd {lo hi : Int} (hlo : 0 ≤ lo) (h9 : lo ≤ 1) (H : MdM B n nt J G I r) : ∃ (v : Int) (I' : MI), f_M_bounded F lo hi I J = some (v, I') ∧ MdM B n nt J G I' (intA (Kt B n nt) (PP B n nt) (Vt B n) lo hi r).2 ∧ 0 ≤ v ∧ v ≤ 10000 ∧ ∀ t l lp, (intA (Kt B n nt) (PP B n nt) (Vt B n) lo hi r).2 = .inr (t, l, lp) → l = 0 → v = (intA (Kt B n nt) (PP B n nt) (Vt B n) lo hi r).1 ∧ ∃ t0 lp0, r = .inr (t0, 0, lp0) := by
  obtain ⟨v, I', e, a, f, b1, b2, b3⟩ := boundedM (F := F) (lo := lo) (hi := hi) H.1 H.2.1 hlo
  exact ⟨v, I', e, ⟨tkm_congr H.1 (fun b b1 b2 => f.1 b (by omega)) rfl, a, fr5_trans H.2.2 f⟩, b1, by omega, b3⟩
theorem md_put {a k : Nat} {v : Int} (ha : 305 ≤ a) (H : MdM B n nt J G I r) : MdM B n nt J (up2 G a k v) (up2 I a k v) r := by
  obtain ⟨h1, h2, h3⟩ := H
  refine ⟨tkm_congr h1 (fun b b1 b2 => up2_off (by omega)) rfl, ctm_k h2 (fun k _ _ _ => by rw [up2_off (by omega)]), fun b hb => ?_, fun j b1 b2 b3 b4 b5 => ?_⟩
  · funext j
    by_cases e : b = a ∧ j = k
    · rw [e.1, e.2, up2_same, up2_same]
    · rw [up2_ne (by omega), up2_ne (by omega), h3.1 b hb]
  · rw [up2_r (by omega), up2_r (by omega)]
    exact h3.2 j b1 b2 b3 b4 b5
/-- the name is like one before -/
theorem namesM {m t0 : Nat} {l lp : Int} {nm : Nat → Nat} (hF : 1000000 ≤ F) {x1 : Int} (hT : TkM I J B n nt) (hC : CtM B n nt I (takeA (Kt B n nt) (PP B n nt) 300 (.inr (t0, l, lp)))) (ht : t0 ≤ nt ∧ t0 ≤ 400) (hl : l ≠ 0 → lp < PP B n nt t0) (h20 : I 296 20 = (m : Int)) (hm : m ≤ 8) (hnm : ∀ j, j < m → J 304 j = wnum (Wt B n (nm j)) ∧ Kt B n nt (nm j) = 300) : ∃ I', iter (fun s : Int × MI => f_M_tellLeaver_L30 F x1 (t0 : Int) s.1 s.2 J) F (0, I) = some I' ∧ CtM B n nt I' (nameA B n nt m nm (.inr (t0, l, lp))) ∧ Fr5 I I' := by
  have hna : nameA B n nt m nm (.inr (t0, l, lp)) = (match takeA (Kt B n nt) (PP B n nt) 300 (.inr (t0, l, lp)) with | .inl e => (.inl e : Ctl) | .inr s => if (fstP (fun j => decide (Wt B n (nm j) = Wt B n t0)) m 0).isSome then laterA 3 (PP B n nt t0) (.inr s) else .inr s) := rfl
  match hx : takeA (Kt B n nt) (PP B n nt) 300 (.inr (t0, l, lp)) with
  | .inl e =>
    rw [hx] at hna hC
    rw [hna]
    have key := wpo_iter (step := fun s : Int × MI => f_M_tellLeaver_L30 F x1 (t0 : Int) s.1 s.2 J) (Q := fun N => N = I) (fun s => s = (0, I)) (fun _ => 0) ?_ (F := F) (s := ((0 : Int), I)) (by omega) rfl
    · obtain ⟨N, e1, e2⟩ := key
      rw [e2] at e1
      exact ⟨I, e1, hC, fr5_refl⟩
    · rintro s rfl
      unfold f_M_tellLeaver_L30
      dsimp only
      refine wpo_i (fun _ => wpo_s rfl) (fun _ => wpo_g (by have := hC.1; rw [hC.2.1]; omega) (wpo_s rfl))
  | .inr (s1, l1, lp1) =>
    rw [hx] at hna hC
    obtain ⟨t1, h1, h2, h3, h4⟩ := takeA_inr hx
    cases h1
    have hlt : t0 < nt := Kt_end ht.1 (show Kt B n nt t0 ≠ 302 by omega)
    rw [hna]
    dsimp only
    have hx2 : J 302 t0 = wnum (Wt B n t0) := (tkm_at hT ht.1 ht.2).2.2.2 h3
    have key := wpo_iter (step := fun s : Int × MI => f_M_tellLeaver_L30 F x1 (t0 : Int) s.1 s.2 J) (Q := fun N => CtM B n nt N (if (fstP (fun j => decide (Wt B n (nm j) = Wt B n t0)) m 0).isSome then laterA 3 (PP B n nt t0) (.inr (s1, l, lp)) else .inr (s1, l, lp)) ∧ Fr5 I N) (fun s => ∃ j : Nat, j ≤ m ∧ s.1 = (j : Int) ∧ CtM B n nt s.2 (if (fstP (fun j => decide (Wt B n (nm j) = Wt B n t0)) j 0).isSome then laterA 3 (PP B n nt t0) (.inr (s1, l, lp)) else .inr (s1, l, lp)) ∧ Fr5 I s.2) (fun s => m - s.1.toNat) ?_ (F := F) (s := ((0 : Int), I)) (by dsimp only; omega) ⟨0, by omega, rfl, hC, fr5_refl⟩
    · obtain ⟨N, e2, q1, q2⟩ := key
      exact ⟨N, e2, q1, q2⟩
    rintro ⟨x, N⟩ ⟨j, q1, q2, q3, q4⟩
    dsimp only at q2 q3 q4 ⊢
    subst q2
    have alive : N 296 13 = 0 := by
      by_cases h0 : (fstP (fun i => decide (Wt B n (nm i) = Wt B n t0)) j 0).isSome = true
      · rw [if_pos h0] at q3; exact q3.2.2.1
      · rw [if_neg h0] at q3; exact q3.2.2.1
    unfold f_M_tellLeaver_L30
    rw [q4.2 20 (by decide) (by decide) (by decide) (by decide) (by decide), h20]
    refine wpo_i (fun hc => wpo_s ?_) (fun hc => ?_)
    · have : j = m := by omega
      subst this
      exact ⟨q3, q4⟩
    have hj : j < m := by omega
    obtain ⟨n1, n2⟩ := hnm j hj
    refine wpo_n (by simp [alive]) (wpo_g (by omega) (wpo_g (by omega) ?_))
    rw [Int.toNat_natCast, Int.toNat_natCast, w32i (by omega) (by omega)]
    have hcmp := names_eq (x := J 304 j) (y := J 302 t0) hT.1 n2 h3 n1 hx2
    have fs : (fstP (fun i => decide (Wt B n (nm i) = Wt B n t0)) (j + 1) 0).isSome = ((fstP (fun i => decide (Wt B n (nm i) = Wt B n t0)) j 0).isSome || decide (Wt B n (nm j) = Wt B n t0)) := by
      cases h1 : (fstP (fun i => decide (Wt B n (nm i) = Wt B n t0)) (j + 1) 0).isSome with
      | true =>
        obtain ⟨b, hb⟩ := Option.isSome_iff_exists.mp h1
        obtain ⟨_, b1, b2, _⟩ := fstP_some hb
        by_cases e : b = j
        · rw [e] at b2
          rw [b2, Bool.or_true]
        · obtain ⟨b', hb'⟩ := fstP_ex (p := fun i => decide (Wt B n (nm i) = Wt B n t0)) (n := j) (a := 0) (k := b) (Nat.zero_le _) (by omega) b2
          rw [hb']; rfl
      | false =>
        have nn : ∀ i, i < j + 1 → decide (Wt B n (nm i) = Wt B n t0) ≠ true := fun i hi hd => by
          obtain ⟨b', hb'⟩ := fstP_ex (p := fun i => decide (Wt B n (nm i) = Wt B n t0)) (n := j + 1) (a := 0) (k := i) (Nat.zero_le _) (by omega) hd
          rw [hb'] at h1; cases h1
        have e2 : (fstP (fun i => decide (Wt B n (nm i) = Wt B n t0)) j 0).isSome = false := by
          cases h2 : fstP (fun i => decide (Wt B n (nm i) = Wt B n t0)) j 0 with
          | none => rfl
          | some b =>
            obtain ⟨_, b1, b2, _⟩ := fstP_some h2
            exact absurd b2 (nn b (by omega))
        rw [e2]
        have := nn j (by omega)
        simpa using this
    by_cases g : Wt B n (nm j) = Wt B n t0
    · refine wpo_n (fun hn => hn (hcmp.mpr g)) ?_
      have hsome : (fstP (fun i => decide (Wt B n (nm i) = Wt B n t0)) (j + 1) 0).isSome = true := by rw [fs]; simp [g]
      have hTN : TkM N J B n nt := tkm_congr hT (fun a b1 b2 => q4.1 a (by omega)) rfl
      have goal : ∃ N', f_M_wrong F 3 (t0 : Int) N J = some N' ∧ CtM B n nt N' (laterA 3 (PP B n nt t0) (.inr (s1, l, lp))) ∧ Fr5 N N' := by
        have hs1 := hC.1
        have hs2 := hC.2.1
        have c6 := hC.2.2.2.2.2.1
        have c7 := hC.2.2.2.2.2.2
        have mk : ∀ N' : MI, N' 296 13 = 0 → N' 296 11 = (s1 : Int) → N' 296 15 = (if l = 0 then 3 else l) → N' 296 16 = (if l = 0 then PP B n nt t0 else lp) → CtM B n nt N' (laterA 3 (PP B n nt t0) (.inr (s1, l, lp))) := fun N' z1 z2 z3 z4 => by
          show CtM B n nt N' (.inr (s1, if l = 0 then 3 else l, if l = 0 then PP B n nt t0 else lp))
          refine ⟨hs1, hs2, z1, z2, z3, by split <;> omega, fun _ => ⟨z4, ?_⟩⟩
          by_cases gl : l = 0
          · exact ⟨t0, by omega, if_pos gl⟩
          · obtain ⟨_, t2, d2, d3⟩ := c7 gl
            exact ⟨t2, d2, by rw [if_neg gl]; exact d3⟩
        by_cases h0 : (fstP (fun i => decide (Wt B n (nm i) = Wt B n t0)) j 0).isSome = true
        · rw [if_pos h0] at q3
          have q3' : CtM B n nt N (.inr (s1, if l = 0 then 3 else l, if l = 0 then PP B n nt t0 else lp)) := q3
          obtain ⟨N', e1, z1, z2, z3, z4, z5⟩ := wrongM (F := F) (w := 3) (t0 := t0) hTN q3' (by decide) ⟨hlt, ht.2⟩ (fun _ => by
            by_cases gl : l = 0
            · rw [if_pos gl, if_pos gl]; exact Or.inr ⟨rfl, Int.le_refl _⟩
            · rw [if_neg gl]; exact Or.inl (hl gl))
          have hne : ¬ (if l = 0 then (3 : Int) else l) = 0 := by split <;> omega
          rw [if_neg hne] at z3 z4
          exact ⟨N', e1, mk N' z1 z2 z3 z4, z5⟩
        · rw [if_neg h0] at q3
          obtain ⟨N', e1, z1, z2, z3, z4, z5⟩ := wrongM (F := F) (w := 3) (t0 := t0) hTN q3 (by decide) ⟨hlt, ht.2⟩ (fun gl => Or.inl (hl gl))
          exact ⟨N', e1, mk N' z1 z2 z3 z4, z5⟩
      obtain ⟨N', e1, z1, z2⟩ := goal
      rw [e1, Option.bind_some]
      refine wpo_s ⟨⟨j + 1, by omega, by dsimp only; omega, ?_, fr5_trans q4 z2⟩, by dsimp only; omega⟩
      dsimp only
      rw [if_pos hsome]
      exact z1
    · refine wpo_g (fun hn => g (hcmp.mp hn)) (wpo_s ⟨⟨j + 1, by omega, by dsimp only; omega, ?_, q4⟩, by dsimp only; omega⟩)
      dsimp only
      rw [fs]
      have : decide (Wt B n (nm j) = Wt B n t0) = false := by simpa using g
      rw [this, Bool.or_false]
      exact q3
end
