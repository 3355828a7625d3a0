/-! texts: the class reads what is told -/
def upR (ρ : RIV) (a k : Nat) (v : Int) : RIV := (up2 ρ.1 a k v, ρ.2)
theorem upR_1 {ρ : RIV} {a k : Nat} {v : Int} : (upR ρ a k v).1 = up2 ρ.1 a k v := rfl
theorem upR_2 {ρ : RIV} {a k : Nat} {v : Int} : (upR ρ a k v).2 = ρ.2 := rfl
/-- what is read so far: control, river, how often depth was told, where the names stand -/
abbrev SgT : Type := Ctl × RIV × Nat × (Nat → Nat)
def nameA (B : Nat → Int) (n nt m : Nat) (nm : Nat → Nat) : Ctl → Ctl
  | .inl e => .inl e
  | .inr (t, l, lp) => match takeA (Kt B n nt) (PP B n nt) 300 (.inr (t, l, lp)) with
    | .inl e => .inl e
    | .inr s => if (fstP (fun j => decide (Wt B n (nm j) = Wt B n t)) m 0).isSome then laterA 3 (PP B n nt t) (.inr s) else .inr s
def atC : Ctl → Nat
  | .inl _ => 0
  | .inr (t, _, _) => t
def stA (B : Nat → Int) (n nt : Nat) (σ : SgT) : SgT :=
  let tk := takeA (Kt B n nt) (PP B n nt)
  let it := intA (Kt B n nt) (PP B n nt) (Vt B n)
  let r := σ.1
  let ρ := σ.2.1
  let k := Kt B n nt (atC r)
  if k = 256 then
    let q1 := it 1 12 (tk 256 r)
    let q2 := it 1 8 q1.2
    (tk 59 q2.2, upR (upR ρ 0 0 q1.1) 0 1 q2.1, σ.2.2)
  else if k = 257 then
    let q1 := it 0 11 (tk 257 (if 20 ≤ σ.2.2.1 then failA (PP B n nt) 2 r else r))
    let q2 := it 0 7 q1.2
    let q3 := it 0 9 q2.2
    (tk 59 q3.2, upR ρ 1 (12 * q2.1 + q1.1).toNat q3.1, σ.2.2.1 + 1, σ.2.2.2)
  else if k = 258 then
    let q1 := it 0 7 (tk 258 r)
    let q2 := it 0 9 q1.2
    (tk 59 q2.2, upR ρ 2 q1.1.toNat q2.1, σ.2.2)
  else if k = 259 then
    let q1 := it 1 4 (tk 259 r)
    (tk 59 q1.2, upR ρ 0 2 q1.1, σ.2.2)
  else if k = 260 then
    if 8 ≤ aN ρ then (failA (PP B n nt) 2 r, σ.2) else
    let q1 := it 0 99 (nameA B n nt (aN ρ).toNat σ.2.2.2 (tk 260 r))
    let q2 := it 1 9 q1.2
    let q3 := it 1 9 q2.2
    let q4 := it 0 99 q3.2
    (tk 59 q4.2, upR (upR (upR (upR (upR ρ 3 (aN ρ).toNat q1.1) 4 (aN ρ).toNat q2.1) 5 (aN ρ).toNat q3.1) 6 (aN ρ).toNat q4.1) 0 3 (aN ρ + 1), σ.2.2.1, fun j => if j = (aN ρ).toNat then atC r + 1 else σ.2.2.2 j)
  else if k = 261 then
    if 8 ≤ aF ρ then (failA (PP B n nt) 2 r, σ.2) else
    let q1 := it 0 199 (tk 261 r)
    let q2 := it 1 12 q1.2
    (tk 59 q2.2, upR (upR (upR ρ 7 (aF ρ).toNat q1.1) 8 (aF ρ).toNat q2.1) 0 4 (aF ρ + 1), σ.2.2)
  else if k = 262 then
    let q := lawA B n nt 262 r
    (q.1, (ρ.1, q.2, ρ.2.2), σ.2.2)
  else if k = 263 then
    let q := lawA B n nt 263 r
    (q.1, (ρ.1, ρ.2.1, q.2), σ.2.2)
  else (failA (PP B n nt) 1 r, σ.2)
def textA (B : Nat → Int) (n nt : Nat) : Nat → SgT → SgT
  | 0, σ => σ
  | f + 1, σ => match σ.1 with
    | .inl _ => σ
    | .inr (t, _, _) => if Kt B n nt t = 302 then σ else textA B n nt f (stA B n nt σ)
/-! small steps of the class -/
def Fr4i (I I' : MI) : Prop := (∀ a, a ≠ 4 → I' a = I a) ∧ ∀ j, j ≠ 1 → j ≠ 2 → j ≠ 3 → j ≠ 4 → j ≠ 5 → I' 4 j = I 4 j
theorem fr4i_of {I I' : MI} (h : Fr4 I I') : Fr4i I I' := ⟨h.1, fun j a b c _ _ => h.2 j a b c⟩
theorem fr4i_trans {I I' I2 : MI} (h : Fr4i I I') (h' : Fr4i I' I2) : Fr4i I I2 := ⟨fun a b1 => (h'.1 a b1).trans (h.1 a b1), fun j b1 b2 b3 b4 b5 => (h'.2 j b1 b2 b3 b4 b5).trans (h.2 j b1 b2 b3 b4 b5)⟩
theorem tkx_4 {I I' : MI} {B : Nat → Int} {n nt : Nat} (h : TkX I B n nt) (hf : ∀ a, a ≠ 4 → I' a = I a) : TkX I' B n nt := tkx_congr h (fun a b1 b2 => hf a (by omega))
theorem laterX {F nt : Nat} {w p : Int} {I : MI} {t : Nat} {l lp : Int} (hC : CtX nt I (.inr (t, l, lp))) (hw : w ≠ 0) : ∃ I', f_E_failLater F w p I = some I' ∧ CtX nt I' (laterA w p (.inr (t, l, lp))) ∧ Fr4i I I' := by
  obtain ⟨c1, c2, c3, c4, c5, c6⟩ := hC
  unfold f_E_failLater
  rw [c5]
  by_cases g : l = 0
  · rw [if_pos g]
    refine ⟨_, rfl, ?_, fun a ha => by rw [up2_off ha, up2_off ha], fun j b1 b2 b3 b4 b5 => by rw [up2_k b5, up2_k b4]⟩
    show CtX nt _ (.inr (t, if l = 0 then w else l, if l = 0 then p else lp))
    rw [if_pos g, if_pos g]
    refine ⟨c1, c2, by rw [up2_k (by decide), up2_k (by decide)]; exact c3, by rw [up2_k (by decide), up2_k (by decide)]; exact c4, by rw [up2_k (by decide), up2_same], fun _ => up2_same⟩
  · rw [if_neg g]
    refine ⟨I, rfl, ?_, fun _ _ => rfl, fun _ _ _ _ _ _ => rfl⟩
    show CtX nt _ (.inr (t, if l = 0 then w else l, if l = 0 then p else lp))
    rw [if_neg g, if_neg g]
    exact ⟨c1, c2, c3, c4, c5, c6⟩
theorem intX {F nt n : Nat} {lo hi : Int} {I : MI} {B : Nat → Int} {r : Ctl} (hT : TkX I B n nt) (hC : CtX nt I r) : ∃ I', f_E_takeInt F lo hi I = some ((intA (Kt B n nt) (PP B n nt) (Vt B n) lo hi r).1, I') ∧ CtX nt I' (intA (Kt B n nt) (PP B n nt) (Vt B n) lo hi r).2 ∧ Fr4i I I' := by
  obtain ⟨M, e1, a1, f1⟩ := takeX (F := F) (k := 301) hT hC (by decide)
  unfold f_E_takeInt
  match r, hC with
  | .inl e, hC =>
    obtain ⟨c1, c2, c3, t, c4, c5⟩ := hC
    rw [if_pos (by omega), e1, Option.bind_some]
    have hd : ¬ M 4 2 = 0 := by rw [a1.2.1]; exact a1.1
    rw [if_neg hd]
    exact ⟨M, rfl, a1, fr4i_of f1⟩
  | .inr (t, l, lp), hC =>
    obtain ⟨c1, c2, c3, c4, c5, c6⟩ := hC
    obtain ⟨k1, k2, k3⟩ := tkx_at hT c2
    rw [if_pos (by omega), e1, Option.bind_some, c4, Int.toNat_natCast, k2]
    by_cases g : Kt B n nt t = 301 ∧ t < 400
    · have ht : takeA (Kt B n nt) (PP B n nt) 301 (.inr (t, l, lp)) = .inr (t + 1, l, lp) := by
        show (if _ then _ else _) = _
        rw [if_pos g.1, if_pos g.2]
      rw [ht] at a1
      rw [if_pos a1.2.2.1, k3 g.1]
      have hi' : intA (Kt B n nt) (PP B n nt) (Vt B n) lo hi (.inr (t, l, lp)) = if lo ≤ Vt B n t ∧ Vt B n t ≤ hi then (Vt B n t, .inr (t + 1, l, lp)) else (lo, laterA 5 (PP B n nt t) (.inr (t + 1, l, lp))) := if_pos g
      rw [hi']
      have bad : ∃ I', f_E_takeInt_b55 F lo (PP B n nt t) M = some (lo, I') ∧ CtX nt I' (laterA 5 (PP B n nt t) (.inr (t + 1, l, lp))) ∧ Fr4i I I' := by
        obtain ⟨I', h1, h2, h3⟩ := laterX (F := F) (w := 5) (p := PP B n nt t) a1 (by decide)
        unfold f_E_takeInt_b55
        rw [h1, Option.bind_some]
        exact ⟨I', rfl, h2, fr4i_trans (fr4i_of f1) h3⟩
      by_cases h1 : Vt B n t < lo
      · rw [if_pos h1, if_neg (by omega)]; exact bad
      · rw [if_neg h1]
        by_cases h2 : hi < Vt B n t
        · rw [if_pos h2, if_neg (by omega)]; exact bad
        · rw [if_neg h2, if_pos ⟨by omega, by omega⟩]
          exact ⟨M, rfl, a1, fr4i_of f1⟩
    · have hi' : intA (Kt B n nt) (PP B n nt) (Vt B n) lo hi (.inr (t, l, lp)) = (lo, takeA (Kt B n nt) (PP B n nt) 301 (.inr (t, l, lp))) := if_neg g
      have hd : ¬ M 4 2 = 0 := by
        match ht : takeA (Kt B n nt) (PP B n nt) 301 (.inr (t, l, lp)) with
        | .inl e => rw [ht] at a1; rw [a1.2.1]; exact a1.1
        | .inr (t', l', lp') =>
          obtain ⟨t0, h1, h2, h3, h4⟩ := takeA_inr ht
          cases h1
          exact absurd ⟨h3, h4⟩ g
      rw [if_neg hd, hi']
      exact ⟨M, rfl, a1, fr4i_of f1⟩
theorem intA_bd {K P V : Nat → Int} {lo hi : Int} {r : Ctl} (h : lo ≤ hi) : lo ≤ (intA K P V lo hi r).1 ∧ (intA K P V lo hi r).1 ≤ hi := by
  match r with
  | .inl e => exact ⟨Int.le_refl _, h⟩
  | .inr (t, l, lp) =>
    by_cases g : K t = 301 ∧ t < 400
    · have hi' : intA K P V lo hi (.inr (t, l, lp)) = if lo ≤ V t ∧ V t ≤ hi then (V t, .inr (t + 1, l, lp)) else (lo, laterA 5 (P t) (.inr (t + 1, l, lp))) := if_pos g
      rw [hi']
      by_cases g2 : lo ≤ V t ∧ V t ≤ hi
      · rw [if_pos g2]; exact g2
      · rw [if_neg g2]; exact ⟨Int.le_refl _, h⟩
    · have hi' : intA K P V lo hi (.inr (t, l, lp)) = (lo, takeA K P 301 (.inr (t, l, lp))) := if_neg g
      rw [hi']; exact ⟨Int.le_refl _, h⟩
/-- two names -/
theorem sameX {F n nt a b : Nat} (hF : 1000000 ≤ F) {I : MI} {B : Nat → Int} (hT : TkX I B n nt) (hP : TpX I B n) (ha : a < nt) (hb : b < nt) : f_E_isSameName F (a : Int) (b : Int) I = some (if Wt B n b = Wt B n a then 1 else 0) := by
  have hn := hP.1
  have hnt := hT.1.1
  obtain ⟨sa, _, pa, la, _⟩ := hT.2.1 a ha
  obtain ⟨sb, _, pb, lb, _⟩ := hT.2.1 b hb
  obtain ⟨ta1, ta2⟩ := tokE_bd (B := B) sa
  obtain ⟨tb1, tb2⟩ := tokE_bd (B := B) sb
  unfold f_E_isSameName
  rw [if_pos (by omega), if_pos (by omega), Int.toNat_natCast, Int.toNat_natCast, la, lb]
  by_cases hl : tokE B n (tokS B n a) - tokS B n a = tokE B n (tokS B n b) - tokS B n b
  · rw [if_pos (by omega)]
    have key := wpo_iter (step := fun s : Int => f_E_isSameName_L26 F (a : Int) (b : Int) s I) (Q := fun e => (e = .inl () ∧ Wt B n b ≠ Wt B n a) ∨ (e = .inr () ∧ Wt B n b = Wt B n a)) (fun q => ∃ j : Nat, j ≤ tokE B n (tokS B n a) - tokS B n a ∧ q = (j : Int) ∧ ∀ k, k < j → B (tokS B n b + k) = B (tokS B n a + k)) (fun q => (tokE B n (tokS B n a) - tokS B n a) - q.toNat) ?_ (F := F) (s := (0 : Int)) (by omega) ⟨0, by omega, rfl, fun k hk => absurd hk (by omega)⟩
    · obtain ⟨e, e1, q⟩ := key
      rw [e1, Option.bind_some]
      rcases q with ⟨q1, q2⟩ | ⟨q1, q2⟩
      · rw [q1, if_neg q2]
      · rw [q1, if_pos q2]
    rintro q ⟨j, h1, h2, h3⟩
    subst h2
    have ew : Wt B n b = lst B (tokS B n b) (tokE B n (tokS B n a) - tokS B n a) := by unfold Wt; rw [hl]
    unfold f_E_isSameName_L26
    rw [Int.toNat_natCast, la, pa]
    refine wpo_g (by clear h3; omega) (wpo_i (fun hc => wpo_s (Or.inr ⟨rfl, ?_⟩)) (fun hc => ?_))
    · rw [ew]
      exact lst_eq.mp (fun k hk => h3 k (by clear h3; omega))
    have hj : j < tokE B n (tokS B n a) - tokS B n a := by clear h3; omega
    rw [w32i (by clear h3; omega) (by clear h3; omega), show ((tokS B n a : Nat) : Int) + (j : Int) = ((tokS B n a + j : Nat) : Int) by clear h3; omega, byteX hP (by clear h3; omega), Option.bind_some]
    refine wpo_g (by clear h3; omega) ?_
    rw [Int.toNat_natCast, pb, w32i (by clear h3; omega) (by clear h3; omega), show ((tokS B n b : Nat) : Int) + (j : Int) = ((tokS B n b + j : Nat) : Int) by clear h3; omega, byteX hP (by clear h3; omega), Option.bind_some, w32i (by clear h3; omega) (by clear h3; omega)]
    refine wpo_i (fun hc2 => wpo_s ⟨⟨j + 1, by clear h3; omega, by clear h3; omega, fun k hk => ?_⟩, by clear h3; omega⟩) (fun hc2 => wpo_s (Or.inl ⟨rfl, fun e => hc2 ?_⟩))
    · by_cases e : k = j
      · rw [e]; exact hc2.symm
      · exact h3 k (by clear h3; omega)
    · rw [ew] at e
      exact (lst_eq.mpr e j hj).symm
  · rw [if_neg (by omega), if_neg (fun e => hl ?_)]
    have := congrArg List.length e
    unfold Wt at this
    rw [lst_len, lst_len] at this
    exact this.symm
theorem nameX {F n nt m : Nat} (hF : 1000000 ≤ F) {I : MI} {B : Nat → Int} {r : Ctl} {nm : Nat → Nat} (hT : TkX I B n nt) (hP : TpX I B n) (hC : CtX nt I r) (hm : m < 8) (hnm : ∀ j, j < m → I 10 j = ((nm j : Nat) : Int) ∧ nm j < nt) : ∃ I', f_E_takeName F (m : Int) I = some I' ∧ CtX nt I' (nameA B n nt m nm r) ∧ (∀ a, a ≠ 4 → a ≠ 10 → I' a = I a) ∧ (∀ j, j ≠ 1 → j ≠ 2 → j ≠ 3 → j ≠ 4 → j ≠ 5 → I' 4 j = I 4 j) ∧ (∀ j, j ≠ m → I' 10 j = I 10 j) ∧ I' 10 m = I 4 1 := by
  unfold f_E_takeName
  rw [if_pos (by omega), Int.toNat_natCast]
  have hT0 : TkX (up2 I 10 m (I 4 1)) B n nt := tkx_congr hT (fun a b1 b2 => up2_off (by omega))
  have hC0 : CtX nt (up2 I 10 m (I 4 1)) r := by
    have e : up2 I 10 m (I 4 1) 4 = I 4 := up2_off (by decide)
    match r, hC with
    | .inl e', h => unfold CtX at h ⊢; rw [e]; exact h
    | .inr (t, l, lp), h => unfold CtX at h ⊢; rw [e]; exact h
  have o10 : ∀ a, a ≠ 10 → up2 I 10 m (I 4 1) a = I a := fun a ha => up2_off ha
  have k10 : ∀ j, j ≠ m → up2 I 10 m (I 4 1) 10 j = I 10 j := fun j hj => up2_k hj
  have s10 : up2 I 10 m (I 4 1) 10 m = I 4 1 := up2_same
  generalize up2 I 10 m (I 4 1) = Z at *
  obtain ⟨M, e1, a1, f1⟩ := takeX (F := F) (k := 300) hT0 hC0 (by decide)
  rw [e1, Option.bind_some]
  have fz : ∀ N, Fr4i Z N → (∀ a, a ≠ 4 → a ≠ 10 → N a = I a) ∧ (∀ j, j ≠ 1 → j ≠ 2 → j ≠ 3 → j ≠ 4 → j ≠ 5 → N 4 j = I 4 j) ∧ (∀ j, j ≠ m → N 10 j = I 10 j) ∧ N 10 m = I 4 1 := fun N hN => ⟨fun a b1 b2 => (hN.1 a b1).trans (o10 a b2), fun j b1 b2 b3 b4 b5 => (hN.2 j b1 b2 b3 b4 b5).trans (by rw [o10 4 (by decide)]), fun j hj => by rw [hN.1 10 (by decide)]; exact k10 j hj, by rw [hN.1 10 (by decide)]; exact s10⟩
  match r, hC, a1 with
  | .inl e, hC, a1 =>
    have hd : ¬ M 4 2 = 0 := by rw [a1.2.1]; exact a1.1
    rw [if_neg hd]
    exact ⟨M, rfl, a1, fz M (fr4i_of f1)⟩
  | .inr (t, l, lp), hC, a1 =>
    obtain ⟨c1, c2, c3, c4, c5, c6⟩ := hC
    match ht : takeA (Kt B n nt) (PP B n nt) 300 (.inr (t, l, lp)) with
    | .inl e =>
      rw [ht] at a1
      have hd : ¬ M 4 2 = 0 := by rw [a1.2.1]; exact a1.1
      rw [if_neg hd]
      refine ⟨M, rfl, ?_, fz M (fr4i_of f1)⟩
      have : nameA B n nt m nm (.inr (t, l, lp)) = .inl e := by
        show (match takeA (Kt B n nt) (PP B n nt) 300 (.inr (t, l, lp)) with | .inl e => (.inl e : Ctl) | .inr s => _) = _
        rw [ht]
      rw [this]
      exact a1
    | .inr s =>
      rw [ht] at a1
      obtain ⟨s1, s2, s3⟩ := s
      obtain ⟨t0, h1, h2, h3, h4⟩ := takeA_inr ht
      cases h1
      have ht1 : t < nt := Kt_end c2 (by rw [h3]; decide)
      rw [if_pos a1.2.2.1, c4]
      have hna : nameA B n nt m nm (.inr (t, l, lp)) = if (fstP (fun j => decide (Wt B n (nm j) = Wt B n t)) m 0).isSome then laterA 3 (PP B n nt t) (.inr (s1, l, lp)) else .inr (s1, l, lp) := by
        show (match takeA (Kt B n nt) (PP B n nt) 300 (.inr (t, l, lp)) with | .inl e => (.inl e : Ctl) | .inr s => if (fstP (fun j => decide (Wt B n (nm j) = Wt B n t)) m 0).isSome then laterA 3 (PP B n nt t) (.inr s) else .inr s) = _
        rw [ht]
      rw [hna]
      have key := wpo_iter (step := fun s : Int × MI => f_E_takeName_L30 F (m : Int) (t : Int) s.1 s.2) (Q := fun N => CtX nt N (if (fstP (fun j => decide (Wt B n (nm j) = Wt B n t)) m 0).isSome then laterA 3 (PP B n nt t) (.inr (s1, l, lp)) else .inr (s1, l, lp)) ∧ Fr4i Z N) (fun s => ∃ j : Nat, j ≤ m ∧ s.1 = (j : Int) ∧ CtX nt s.2 (if (fstP (fun j => decide (Wt B n (nm j) = Wt B n t)) j 0).isSome then laterA 3 (PP B n nt t) (.inr (s1, l, lp)) else .inr (s1, l, lp)) ∧ Fr4i Z s.2) (fun s => m - s.1.toNat) ?_ (F := F) (s := ((0 : Int), M)) (by dsimp only; omega) ⟨0, by omega, rfl, a1, fr4i_of f1⟩
      · obtain ⟨N, e2, q1, q2⟩ := key
        rw [e2, Option.bind_some]
        obtain ⟨z1, z2, z3, z4⟩ := fz N q2
        exact ⟨N, rfl, q1, z1, z2, z3, z4.trans c4⟩
      rintro ⟨x, N⟩ ⟨j, q1, q2, q3, q4⟩
      dsimp only at q2 q3 q4 ⊢
      subst q2
      unfold f_E_takeName_L30
      refine wpo_i (fun hc => wpo_s ?_) (fun hc => wpo_g (by omega) ?_)
      · have : j = m := by omega
        subst this
        exact ⟨q3, q4⟩
      have hj : j < m := by omega
      obtain ⟨n1, n2⟩ := hnm j hj
      have hTN : TkX N B n nt := tkx_4 hT0 q4.1
      have hPN : TpX N B n := tpx_congr hP (by rw [q4.1 2 (by decide), o10 2 (by decide)]) (by rw [q4.1 3 (by decide), o10 3 (by decide)])
      have nj : N 10 j = ((nm j : Nat) : Int) := by rw [q4.1 10 (by decide), k10 j (by omega)]; exact n1
      rw [Int.toNat_natCast, nj, sameX hF hTN hPN ht1 n2, Option.bind_some, w32i (by omega) (by omega)]
      have fs : (fstP (fun i => decide (Wt B n (nm i) = Wt B n t)) (j + 1) 0).isSome = ((fstP (fun i => decide (Wt B n (nm i) = Wt B n t)) j 0).isSome || decide (Wt B n (nm j) = Wt B n t)) := by
        cases h1 : (fstP (fun i => decide (Wt B n (nm i) = Wt B n t)) (j + 1) 0).isSome with
        | true =>
          obtain ⟨b, hb⟩ := Option.isSome_iff_exists.mp h1
          obtain ⟨_, b1, b2, _⟩ := fstP_some hb
          by_cases e : b = j
          · rw [e] at b2
            rw [b2, Bool.or_true]
          · obtain ⟨b', hb'⟩ := fstP_ex (p := fun i => decide (Wt B n (nm i) = Wt B n t)) (n := j) (a := 0) (k := b) (Nat.zero_le _) (by omega) b2
            rw [hb']; rfl
        | false =>
          have nn : ∀ i, i < j + 1 → decide (Wt B n (nm i) = Wt B n t) ≠ true := fun i hi hd => by
            obtain ⟨b', hb'⟩ := fstP_ex (p := fun i => decide (Wt B n (nm i) = Wt B n t)) (n := j + 1) (a := 0) (k := i) (Nat.zero_le _) (by omega) hd
            rw [hb'] at h1; cases h1
          have e2 : (fstP (fun i => decide (Wt B n (nm i) = Wt B n t)) j 0).isSome = false := by
            cases h2 : fstP (fun i => decide (Wt B n (nm i) = Wt B n t)) j 0 with
            | none => rfl
            | some b =>
              obtain ⟨_, b1, b2, _⟩ := fstP_some h2
              exact absurd b2 (nn b (by omega))
          rw [e2]
          have := nn j (by omega)
          simpa using this
      by_cases g : Wt B n (nm j) = Wt B n t
      · rw [if_pos g]
        refine wpo_n (by decide) (wpo_g (by have := hT.1.1; omega) ?_)
        rw [Int.toNat_natCast, (tkx_at hTN c2).2.1]
        have hsome : (fstP (fun i => decide (Wt B n (nm i) = Wt B n t)) (j + 1) 0).isSome = true := by rw [fs]; simp [g]
        by_cases h0 : (fstP (fun i => decide (Wt B n (nm i) = Wt B n t)) j 0).isSome = true
        · rw [if_pos h0] at q3
          obtain ⟨N', d1, d2, d3⟩ := laterX (F := F) (w := 3) (p := PP B n nt t) (t := s1) (l := if l = 0 then 3 else l) (lp := if l = 0 then PP B n nt t else lp) q3 (by decide)
          rw [d1, Option.bind_some]
          refine wpo_s ⟨⟨j + 1, by omega, by dsimp only; omega, ?_, fr4i_trans q4 d3⟩, by dsimp only; omega⟩
          dsimp only
          rw [if_pos hsome]
          have hne : ¬ (if l = 0 then (3 : Int) else l) = 0 := by split <;> omega
          have : laterA 3 (PP B n nt t) (.inr (s1, if l = 0 then 3 else l, if l = 0 then PP B n nt t else lp)) = laterA 3 (PP B n nt t) (.inr (s1, l, lp)) := by
            show (Sum.inr (s1, if (if l = 0 then (3 : Int) else l) = 0 then 3 else (if l = 0 then (3 : Int) else l), if (if l = 0 then (3 : Int) else l) = 0 then PP B n nt t else (if l = 0 then PP B n nt t else lp)) : Ctl) = Sum.inr (s1, if l = 0 then 3 else l, if l = 0 then PP B n nt t else lp)
            rw [if_neg hne, if_neg hne]
          rw [← this]
          exact d2
        · rw [if_neg h0] at q3
          obtain ⟨N', d1, d2, d3⟩ := laterX (F := F) (w := 3) (p := PP B n nt t) q3 (by decide)
          rw [d1, Option.bind_some]
          refine wpo_s ⟨⟨j + 1, by omega, by dsimp only; omega, ?_, fr4i_trans q4 d3⟩, by dsimp only; omega⟩
          dsimp only
          rw [if_pos hsome]
          exact d2
      · rw [if_neg g]
        refine wpo_g rfl (wpo_s ⟨⟨j + 1, by omega, by dsimp only; omega, ?_, q4⟩, by dsimp only; omega⟩)
        dsimp only
        rw [fs]
        have : decide (Wt B n (nm j) = Wt B n t) = false := by simpa using g
        rw [this, Bool.or_false]
        exact q3
