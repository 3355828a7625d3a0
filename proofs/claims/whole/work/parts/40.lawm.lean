/-! the model's law -/
def stpM (F : Nat) (to : Int) (J : MI) : Int × Int × MI → Option (((MI) ⊕ (MI)) ⊕ (Int × Int × MI)) := fun s => f_M_termOf_L5 F to s.1 s.2.1 s.2.2 J
theorem M_push {F p : Nat} {to x op : Int} {I J : MI} {st : List Int} {vs : Nat → Int} (h1 : (p : Int) < to) (h2 : to ≤ 840) (hl : st.length < 400) (ho : I 326 p = op) (ha : I 327 p = x) (hv : ∀ j, j < 6 → I 329 j = vs j) (hop : op = 0 ∨ (op = 1 ∧ 0 ≤ x ∧ x < 6)) : stpM F to J ((st.length : Int), (p : Int), I) = some (.inr (((st.length + 1 : Nat) : Int), ((p + 1 : Nat) : Int), up2 I 330 st.length (if op = 0 then x else vs x.toNat))) := by
  unfold stpM
  dsimp only
  unfold f_M_termOf_L5
  rw [if_neg (by omega), if_pos (by omega), Int.toNat_natCast, ho, ha, if_neg (by omega)]
  have e1 : ∀ v : Int, f_M_termOf_b58in5 F to (st.length : Int) (p : Int) (st.length : Int) v I J = some (.inr (((st.length + 1 : Nat) : Int), ((p + 1 : Nat) : Int), up2 I 330 st.length v)) := by
    intro v
    unfold f_M_termOf_b58in5
    rw [if_pos (by omega), w32i (by omega) (by omega), w32i (by omega) (by omega), Int.toNat_natCast]
    simp
  rcases hop with h | ⟨h, hx0, hx6⟩
  · rw [if_neg (by omega), e1, if_pos h]
  · rw [if_pos (by omega), if_pos (by omega), e1, if_neg (by omega), hv _ (by omega)]
theorem M_opr {F p : Nat} {to op a b : Int} {I J : MI} {st : List Int} (h1 : (p : Int) < to) (h2 : to ≤ 840) (hl : st.length + 2 ≤ 400) (ho : I 326 p = op) (hop : 2 ≤ op ∧ op ≤ 5) (hs : StkR (I 330) (b :: a :: st)) (h5 : ¬ (op = 5 ∧ b = 0)) : stpM F to J (((b :: a :: st).length : Int), (p : Int), I) = some (.inr (((st.length + 1 : Nat) : Int), ((p + 1 : Nat) : Int), up2 I 330 st.length (joinA op a b))) := by
  obtain ⟨s1, s2, s3⟩ := hs
  simp only [List.length_cons] at s1 s2 ⊢
  unfold stpM
  dsimp only
  unfold f_M_termOf_L5
  have t1 : w32 (((st.length + 1 + 1 : Nat) : Int) + (-1)) = ((st.length + 1 : Nat) : Int) := by rw [w32i (by omega) (by omega)]; omega
  have t2 : w32 (((st.length + 1 : Nat) : Int) - 1) = ((st.length : Nat) : Int) := by rw [w32i (by omega) (by omega)]; omega
  rw [if_neg (by omega), if_pos (by omega), Int.toNat_natCast, ho, if_pos (by omega), t1, t2, if_pos (by omega), if_pos (by omega), Int.toNat_natCast, Int.toNat_natCast, s1, s2]
  have e0 : ∀ v : Int, f_M_termOf_b158in5 F to ((st.length + 1 : Nat) : Int) (p : Int) ((st.length : Nat) : Int) v I J = some (.inr (((st.length + 1 : Nat) : Int), ((p + 1 : Nat) : Int), up2 I 330 st.length v)) := by
    intro v
    unfold f_M_termOf_b158in5
    rw [if_pos (by omega), w32i (by omega) (by omega), Int.toNat_natCast]
    simp
  have e1 : f_M_termOf_b104in5 F to ((st.length + 1 : Nat) : Int) (p : Int) op a b I J = some (.inr (((st.length + 1 : Nat) : Int), ((p + 1 : Nat) : Int), up2 I 330 st.length (joinA op a b))) := by
    unfold f_M_termOf_b104in5 joinA
    rw [t2]
    by_cases c2 : op = 2
    · rw [if_neg (by omega), if_pos c2, e0]
    rw [if_pos c2, if_neg c2]
    by_cases c3 : op = 3
    · rw [if_neg (by omega), if_pos c3, e0]
    rw [if_pos c3, if_neg c3]
    by_cases c4 : op = 4
    · rw [if_neg (by omega), if_pos c4, e0]
    rw [if_pos c4, if_neg c4, if_pos (by omega), e0]
  by_cases h : op = 5
  · rw [if_neg (by omega), if_pos (by omega), e1]
  · rw [if_pos (by omega), e1]
theorem M_div0 {F p : Nat} {to a : Int} {I J : MI} {st : List Int} (h1 : (p : Int) < to) (h2 : to ≤ 840) (hl : st.length + 2 ≤ 400) (ho : I 326 p = 5) (hs : StkR (I 330) (0 :: a :: st)) : stpM F to J (((0 :: a :: st).length : Int), (p : Int), I) = some (.inl (.inl I)) := by
  obtain ⟨s1, s2, s3⟩ := hs
  simp only [List.length_cons] at s1 s2 ⊢
  unfold stpM
  dsimp only
  unfold f_M_termOf_L5
  have t1 : w32 (((st.length + 1 + 1 : Nat) : Int) + (-1)) = ((st.length + 1 : Nat) : Int) := by rw [w32i (by omega) (by omega)]; omega
  have t2 : w32 (((st.length + 1 : Nat) : Int) - 1) = ((st.length : Nat) : Int) := by rw [w32i (by omega) (by omega)]; omega
  rw [if_neg (by omega), if_pos (by omega), Int.toNat_natCast, ho, if_pos (by omega), t1, t2, if_pos (by omega), if_pos (by omega), Int.toNat_natCast, Int.toNat_natCast, s1, if_neg (by omega), if_neg (by omega)]
theorem stk_pushm {I : MI} {st : List Int} {v : Int} (h : StkR (I 330) st) : StkR (up2 I 330 st.length v 330) (v :: st) := ⟨up2_same, stk_congr h (fun k hk => up2_k (by omega))⟩
theorem M_run {F : Nat} {to : Int} {J : MI} {vs : Nat → Int} (hto : to ≤ 840) : ∀ (c : LCode) (st : List Int) (I : MI) (p : Nat) (h' : Nat), SegR (I 326) (I 327) p c → (∀ j, j < 6 → I 329 j = vs j) → StkR (I 330) st → st.length ≤ 400 → hgt 400 c st.length = some h' → ((p + c.length : Nat) : Int) ≤ to →
    (∀ st', runC vs c st = some st' → ∃ I', (∀ a, a ≠ 330 → I' a = I a) ∧ StkR (I' 330) st' ∧ ∀ G, iter (stpM F to J) (G + c.length) ((st.length : Int), (p : Int), I) = iter (stpM F to J) G ((st'.length : Int), ((p + c.length : Nat) : Int), I')) ∧
    (runC vs c st = none → ∃ I', (∀ a, a ≠ 330 → I' a = I a) ∧ ∀ G, iter (stpM F to J) (G + c.length) ((st.length : Int), (p : Int), I) = some (.inl I')) := by
  intro c
  induction c with
  | nil =>
    intro st I p h' _ _ hs _ _ _
    refine ⟨fun st' h => ?_, fun h => by cases h⟩
    cases h
    exact ⟨I, fun _ _ => rfl, hs, fun G => by simp⟩
  | cons q c ih =>
    obtain ⟨op, x⟩ := q
    intro st I p h' hseg hv hs hlen hh hp
    obtain ⟨g1, g2, g3⟩ := hseg
    simp only [List.length_cons] at hp
    simp only [hgt] at hh
    have next : ∀ (st1 : List Int) (v : Int), StkR (up2 I 330 st1.length v 330) (v :: st1) → st1.length < 400 → hgt 400 c (v :: st1).length = some h' → stpM F to J ((st.length : Int), (p : Int), I) = some (.inr (((st1.length + 1 : Nat) : Int), ((p + 1 : Nat) : Int), up2 I 330 st1.length v)) → runC vs ((op, x) :: c) st = runC vs c (v :: st1) → (∀ st', runC vs ((op, x) :: c) st = some st' → ∃ I', (∀ a, a ≠ 330 → I' a = I a) ∧ StkR (I' 330) st' ∧ ∀ G, iter (stpM F to J) (G + (c.length + 1)) ((st.length : Int), (p : Int), I) = iter (stpM F to J) G ((st'.length : Int), ((p + (c.length + 1) : Nat) : Int), I')) ∧ (runC vs ((op, x) :: c) st = none → ∃ I', (∀ a, a ≠ 330 → I' a = I a) ∧ ∀ G, iter (stpM F to J) (G + (c.length + 1)) ((st.length : Int), (p : Int), I) = some (.inl I')) := by
      intro st1 v hst hl1 hh1 hstep hrun
      have o1 : ∀ a, a ≠ 330 → up2 I 330 st1.length v a = I a := fun a ha => up2_off ha
      have := ih (v :: st1) (up2 I 330 st1.length v) (p + 1) h' (by rw [o1 326 (by omega), o1 327 (by omega)]; exact g3) (by rw [o1 329 (by omega)]; exact hv) hst (by simp; omega) hh1 (by omega)
      rw [hrun]
      refine ⟨fun st' h => ?_, fun h => ?_⟩
      · obtain ⟨I', i1, i2, i3⟩ := this.1 st' h
        refine ⟨I', fun a ha => (i1 a ha).trans (o1 a ha), i2, fun G => ?_⟩
        rw [show G + (c.length + 1) = (G + c.length) + 1 by omega, iter_s hstep]
        have e := i3 G
        simp only [List.length_cons] at e
        rw [e, show p + 1 + c.length = p + (c.length + 1) by omega]
      · obtain ⟨I', i1, i3⟩ := this.2 h
        refine ⟨I', fun a ha => (i1 a ha).trans (o1 a ha), fun G => ?_⟩
        rw [show G + (c.length + 1) = (G + c.length) + 1 by omega, iter_s hstep]
        have e := i3 G
        simp only [List.length_cons] at e
        exact e
    simp only [List.length_cons]
    by_cases hop : op = 0 ∨ (op = 1 ∧ 0 ≤ x ∧ x < 6)
    · rw [if_pos hop] at hh
      split at hh
      · rename_i hlt
        refine next st (if op = 0 then x else vs x.toNat) (stk_pushm hs) hlt hh (M_push (by omega) hto hlt g1 g2 hv hop) ?_
        simp only [runC]
        rcases hop with h | ⟨h, _, _⟩
        · rw [if_pos h, if_pos h]
        · rw [if_neg (by omega), if_pos h, if_neg (by omega)]
      · cases hh
    · rw [if_neg hop] at hh
      split at hh
      · rename_i ho
        · obtain ⟨b, a, st1, rfl⟩ := two_len ho.2.2
          simp only [List.length_cons] at hlen hh
          by_cases h5 : op = 5 ∧ b = 0
          · have er : runC vs ((op, x) :: c) (b :: a :: st1) = none := by
              simp only [runC]
              rw [if_neg (by omega), if_neg (by omega), if_pos h5]
            refine ⟨fun st' h => (by rw [er] at h; cases h), fun _ => ⟨I, fun _ _ => rfl, fun G => ?_⟩⟩
            obtain ⟨h5a, h5b⟩ := h5
            subst h5b
            rw [show G + (c.length + 1) = (G + c.length) + 1 by omega]
            exact iter_e (M_div0 (by omega) hto (by omega) (g1.trans h5a) hs)
          · refine next st1 (joinA op a b) (stk_pushm hs.2.2) (by omega) (by simpa using hh) (M_opr (by omega) hto (by omega) g1 ⟨ho.1, ho.2.1⟩ hs h5) ?_
            simp only [runC]
            rw [if_neg (by omega), if_neg (by omega), if_neg h5]
      · cases hh
/-- the model's scratch of laws: the pile, and whether something was divided by 0 -/
def FrT (I I' : MI) : Prop := (∀ a, a ≠ 330 → a ≠ 296 → I' a = I a) ∧ ∀ k, k ≠ 51 → I' 296 k = I 296 k
theorem frT_refl {I : MI} : FrT I I := ⟨fun _ _ _ => rfl, fun _ _ => rfl⟩
theorem frT_trans {I I' I2 : MI} (h : FrT I I') (h2 : FrT I' I2) : FrT I I2 := ⟨fun a h3 h4 => (h2.1 a h3 h4).trans (h.1 a h3 h4), fun k hk => (h2.2 k hk).trans (h.2 k hk)⟩
theorem M_term {F : Nat} (hF : 1000000 ≤ F) {I J : MI} {vs : Nat → Int} {c : LCode} {p : Nat} {x1 x2 : Int} (hb : BalC 16 c) (hseg : SegR (I 326) (I 327) p c) (hv : ∀ j, j < 6 → I 329 j = vs j) (hp : p + c.length ≤ 840) (h1 : x1 = (p : Int)) (h2 : x2 = ((p + c.length : Nat) : Int)) : ∃ I', f_M_termOf F x1 x2 I J = some ((valC vs c).getD 0, I') ∧ FrT I I' ∧ I' 296 51 = if valC vs c = none then 1 else I 296 51 := by
  subst h1
  subst h2
  unfold f_M_termOf
  have hr := M_run (F := F) (J := J) (vs := vs) (to := ((p + c.length : Nat) : Int)) (by omega) c [] I p 1 hseg hv trivial (by simp) (hb 400 0 (by omega)) (by omega)
  have hval := runC_val (vs := vs) hb []
  cases hc : valC vs c with
  | none =>
    rw [hc] at hval
    obtain ⟨I', i1, i2⟩ := hr.2 hval
    have e := i2 (F - c.length)
    rw [show F - c.length + c.length = F by omega] at e
    have e' : iter (fun s : Int × Int × MI => f_M_termOf_L5 F ((p + c.length : Nat) : Int) s.1 s.2.1 s.2.2 J) F (0, (p : Int), I) = some (.inl I') := e
    rw [e']
    refine ⟨_, rfl, ⟨fun a h3 h4 => ?_, fun k hk => ?_⟩, ?_⟩
    · rw [up2_off h4, i1 a h3]
    · rw [up2_k hk, i1 296 (by decide)]
    · rw [up2_same]; simp
  | some v =>
    rw [hc] at hval
    obtain ⟨I', i1, i2, i3⟩ := hr.1 [v] hval
    have e := i3 (F - c.length)
    rw [show F - c.length + c.length = F by omega] at e
    have e' : iter (fun s : Int × Int × MI => f_M_termOf_L5 F ((p + c.length : Nat) : Int) s.1 s.2.1 s.2.2 J) F (0, (p : Int), I) = some (.inr I') := by
      refine e.trans ?_
      rw [show F - c.length = (F - c.length - 1) + 1 by omega]
      refine iter_e ?_
      unfold stpM
      dsimp only
      unfold f_M_termOf_L5
      rw [if_pos (by omega)]
    rw [e']
    refine ⟨I', ?_, ⟨fun a h3 h4 => i1 a h3, fun k hk => by rw [i1 296 (by decide)]⟩, ?_⟩
    · have i20 : I' 330 0 = v := i2.1
      show some (I' 330 0, I') = _
      rw [i20]
      rfl
    · rw [i1 296 (by decide)]; simp
/-- the branches of a law, as the model keeps them -/
def BrM (I : MI) : Nat → List (LCode × LCode × LCode) → LCode → Prop
  | b, [], c => I 321 b = 0 ∧ ∃ p : Nat, I 324 b = (p : Int) ∧ I 325 b = ((p + c.length : Nat) : Int) ∧ p + c.length ≤ 840 ∧ SegR (I 326) (I 327) p c
  | b, (c1, c2, c3) :: r, c => I 321 b = 1 ∧ (∃ p : Nat, I 322 b = (p : Int) ∧ I 323 b = ((p + c1.length : Nat) : Int) ∧ I 324 b = ((p + c1.length + c2.length : Nat) : Int) ∧ I 325 b = ((p + c1.length + c2.length + c3.length : Nat) : Int) ∧ p + c1.length + c2.length + c3.length ≤ 840 ∧ SegR (I 326) (I 327) p c1 ∧ SegR (I 326) (I 327) (p + c1.length) c2 ∧ SegR (I 326) (I 327) (p + c1.length + c2.length) c3) ∧ BrM I (b + 1) r c
theorem brM_congr {I I' : MI} : ∀ {r : List (LCode × LCode × LCode)} {b : Nat} {c : LCode}, BrM I b r c → (∀ a, 321 ≤ a → a ≤ 327 → I' a = I a) → BrM I' b r c
  | [], b, c, h, hf => by
    unfold BrM at h ⊢
    rw [hf 321 (by omega) (by omega), hf 324 (by omega) (by omega), hf 325 (by omega) (by omega), hf 326 (by omega) (by omega), hf 327 (by omega) (by omega)]
    exact h
  | (c1, c2, c3) :: r, b, c, h, hf => by
    unfold BrM at h ⊢
    rw [hf 321 (by omega) (by omega), hf 322 (by omega) (by omega), hf 323 (by omega) (by omega), hf 324 (by omega) (by omega), hf 325 (by omega) (by omega), hf 326 (by omega) (by omega), hf 327 (by omega) (by omega)]
    exact ⟨h.1, h.2.1, brM_congr h.2.2 hf⟩
/-- where a half keeps its laws -/
def RgM (I : MI) (h f l : Nat) : Prop := 130 * h ≤ f ∧ l ≤ 130 * h + 130 ∧ ∀ b : Nat, f ≤ b → b < l → 420 * (h : Int) ≤ I 324 b ∧ I 325 b ≤ 420 * (h : Int) + 420 ∧ (I 321 b = 1 → 420 * (h : Int) ≤ I 322 b)
theorem rgM_congr {I I' : MI} {h f l : Nat} (hr : RgM I h f l) (hf : ∀ a, 321 ≤ a → a ≤ 327 → I' a = I a) : RgM I' h f l := by
  unfold RgM at *
  rw [hf 321 (by omega) (by omega), hf 322 (by omega) (by omega), hf 324 (by omega) (by omega), hf 325 (by omega) (by omega)]
  exact hr
def LawM (I : MI) (q : Nat) (Λ : LawT) : Prop := LawB Λ ∧ ∃ f l : Nat, I 319 q = (f : Int) ∧ I 320 q = (l : Int) ∧ l ≤ 260 ∧ ((f = l ∧ Λ = noLaw) ∨ (l = f + Λ.1.length + 1 ∧ BrM I f Λ.1 Λ.2 ∧ RgM I (q / 2) f l))
theorem lawM_congr {I I' : MI} {q : Nat} {Λ : LawT} (h : LawM I q Λ) (hf : ∀ a, 319 ≤ a → a ≤ 327 → I' a = I a) : LawM I' q Λ := by
  obtain ⟨h1, f, l, h2, h3, h4, h5⟩ := h
  refine ⟨h1, f, l, by rw [hf 319 (by omega) (by omega)]; exact h2, by rw [hf 320 (by omega) (by omega)]; exact h3, h4, ?_⟩
  rcases h5 with h | h
  · exact Or.inl h
  · exact Or.inr ⟨h.1, brM_congr h.2.1 (fun a h1 h2 => hf a (by omega) h2), rgM_congr h.2.2 (fun a h1 h2 => hf a (by omega) h2)⟩
def stpB (F : Nat) (most last : Int) (J : MI) : Int × MI → Option (((MI) ⊕ ((Int × MI) ⊕ (MI))) ⊕ (Int × MI)) := fun s => f_M_tellsBy_L105 F most last s.1 s.2 J
theorem M_brs {F : Nat} (hF : 1000000 ≤ F) {most last : Int} {J : MI} {vs : Nat → Int} {c : LCode} (hc : BalC 16 c) (hl : last ≤ 260) : ∀ (r : List (LCode × LCode × LCode)) (I : MI) (b : Nat), (∀ q ∈ r, BalC 16 q.1 ∧ BalC 16 q.2.1 ∧ BalC 16 q.2.2) → BrM I b r c → last = ((b + r.length + 1 : Nat) : Int) → (∀ j, j < 6 → I 329 j = vs j) → I 296 51 = 0 →
    ∃ e I', FrT I I' ∧ ((e = .inl I' ∧ evalL vs r c = 0) ∨ ∃ (b' : Nat) (ct : LCode) (p : Nat), e = .inr (.inl ((b' : Int), I')) ∧ I' 296 51 = 0 ∧ evalL vs r c = (valC vs ct).getD 0 ∧ BalC 16 ct ∧ I 324 b' = (p : Int) ∧ I 325 b' = ((p + ct.length : Nat) : Int) ∧ SegR (I 326) (I 327) p ct ∧ p + ct.length ≤ 840 ∧ b' < 260) ∧ ∀ G, r.length + 1 ≤ G → iter (stpB F most last J) G ((b : Int), I) = some e := by
  intro r
  induction r with
  | nil =>
    intro I b _ hB hlast hv h0
    obtain ⟨hb0, p, p1, p2, p3, p4⟩ := hB
    simp only [List.length_nil] at hlast
    refine ⟨_, I, frT_refl, Or.inr ⟨b, c, p, rfl, h0, rfl, hc, p1, p2, p4, p3, by omega⟩, fun G hG => ?_⟩
    rw [show G = (G - 1) + 1 by simp only [List.length_nil] at hG; omega]
    refine iter_e ?_
    unfold stpB
    dsimp only
    unfold f_M_tellsBy_L105
    rw [if_neg (by omega), if_pos (by omega), Int.toNat_natCast, if_pos hb0]
  | cons q r ih =>
    obtain ⟨c1, c2, c3⟩ := q
    intro I b hbal hB hlast hv h0
    obtain ⟨hb1, ⟨p, p1, p2, p3, p4, p5, s1, s2, s3⟩, hB2⟩ := hB
    simp only [List.length_cons] at hlast
    obtain ⟨bb1, bb2, bb3⟩ := hbal (c1, c2, c3) (by simp)
    dsimp only at bb1 bb2 bb3
    obtain ⟨I1, e1, f1, g1⟩ := M_term (F := F) (J := J) (x1 := I 322 b) (x2 := I 323 b) hF bb1 s1 hv (by omega) p1 p2
    have r1 : ∀ a, 319 ≤ a → a ≤ 329 → I1 a = I a := fun a h1 h2 => f1.1 a (by omega) (by omega)
    obtain ⟨I2, e2, f2, g2⟩ := M_term (F := F) (J := J) (I := I1) (x1 := I1 323 b) (x2 := I1 324 b) hF bb2 (by rw [r1 326 (by omega) (by omega), r1 327 (by omega) (by omega)]; exact s2) (by rw [r1 329 (by omega) (by omega)]; exact hv) (by omega) (by rw [r1 323 (by omega) (by omega)]; exact p2) (by rw [r1 324 (by omega) (by omega)]; exact p3)
    have f12 := frT_trans f1 f2
    have r2 : ∀ a, 319 ≤ a → a ≤ 329 → I2 a = I a := fun a h1 h2 => f12.1 a (by omega) (by omega)
    have hstep : stpB F most last J ((b : Int), I) = if I2 296 51 = 0 then (if (valC vs c1).getD 0 < (valC vs c2).getD 0 then some (.inl (.inr (.inl ((b : Int), I2)))) else some (.inr (((b + 1 : Nat) : Int), I2))) else some (.inl (.inl I2)) := by
      unfold stpB
      dsimp only
      unfold f_M_tellsBy_L105
      rw [if_neg (by omega), if_pos (by omega), Int.toNat_natCast, if_neg (by omega), e1, Option.bind_some, e2, Option.bind_some, w32i (by omega) (by omega)]
      rfl
    cases hc1 : valC vs c1 with
    | none =>
      rw [hc1] at g1
      simp only [if_true] at g1
      refine ⟨_, I2, f12, Or.inl ⟨rfl, by simp [evalL, hc1]⟩, fun G hG => ?_⟩
      rw [show G = (G - 1) + 1 by simp only [List.length_cons] at hG; omega]
      refine iter_e ?_
      rw [hstep, if_neg]
      rw [g2]
      split
      · omega
      · omega
    | some u =>
      rw [hc1] at g1
      simp only [reduceCtorEq, if_false] at g1
      rw [h0] at g1
      cases hc2 : valC vs c2 with
      | none =>
        rw [hc2] at g2
        simp only [if_true] at g2
        refine ⟨_, I2, f12, Or.inl ⟨rfl, by simp [evalL, hc1, hc2]⟩, fun G hG => ?_⟩
        rw [show G = (G - 1) + 1 by simp only [List.length_cons] at hG; omega]
        refine iter_e ?_
        rw [hstep, if_neg (by omega)]
      | some v =>
        rw [hc2] at g2
        simp only [reduceCtorEq, if_false] at g2
        rw [hc1, hc2, if_pos (by omega)] at hstep
        simp only [Option.getD_some] at hstep
        by_cases huv : u < v
        · rw [if_pos huv] at hstep
          refine ⟨_, I2, f12, Or.inr ⟨b, c3, p + c1.length + c2.length, rfl, by omega, by simp [evalL, hc1, hc2, huv], bb3, p3, p4, s3, p5, by omega⟩, fun G hG => ?_⟩
          rw [show G = (G - 1) + 1 by simp only [List.length_cons] at hG; omega]
          exact iter_e hstep
        · rw [if_neg huv] at hstep
          obtain ⟨e, I', i1, i2, i3⟩ := ih I2 (b + 1) (fun q hq => hbal q (by simp [hq])) (brM_congr hB2 (fun a h1 h2 => r2 a (by omega) (by omega))) (by omega) (by rw [r2 329 (by omega) (by omega)]; exact hv) (by omega)
          refine ⟨e, I', frT_trans f12 i1, ?_, fun G hG => ?_⟩
          · have ev : evalL vs ((c1, c2, c3) :: r) c = evalL vs r c := by simp [evalL, hc1, hc2, huv]
            rw [ev]
            rcases i2 with h | ⟨b', ct, p', q1, q2, q3, q4, q5, q6, q7, q8, q9⟩
            · exact Or.inl h
            · refine Or.inr ⟨b', ct, p', q1, q2, q3, q4, ?_, ?_, ?_, q8, q9⟩
              · rw [← r2 324 (by omega) (by omega)]; exact q5
              · rw [← r2 325 (by omega) (by omega)]; exact q6
              · rw [← r2 326 (by omega) (by omega), ← r2 327 (by omega) (by omega)]; exact q7
          · simp only [List.length_cons] at hG
            rw [show G = (G - 1) + 1 by omega, iter_s hstep]
            exact i3 (G - 1) (by omega)
/-- the model's river -/
def RivM (I : MI) (lv : Nat) (ρ : RIV) : Prop :=
  lv < 2 ∧ I 305 lv = aL ρ ∧ I 306 lv = aW ρ ∧ I 310 lv = aJ ρ ∧ I 311 lv = aN ρ ∧ I 316 lv = aF ρ ∧ (∀ c, c < 96 → I 308 (96 * lv + c) = dep ρ c) ∧ (∀ y, y < 8 → I 309 (8 * lv + y) = flo ρ y) ∧ (∀ m : Nat, (m : Int) < aN ρ → I 312 (8 * lv + m) = fsd ρ m ∧ I 313 (8 * lv + m) = siz ρ m ∧ I 314 (8 * lv + m) = man ρ m ∧ I 315 (8 * lv + m) = gri ρ m) ∧ (∀ f : Nat, (f : Int) < aF ρ → I 317 (8 * lv + f) = fld ρ f ∧ I 318 (8 * lv + f) = frc ρ f) ∧ LawM I (2 * lv) ρ.2.1 ∧ LawM I (2 * lv + 1) ρ.2.2
theorem rivm_congr {I I' : MI} {lv : Nat} {ρ : RIV} (h : RivM I lv ρ) (hf : ∀ a, 305 ≤ a → a ≤ 327 → I' a = I a) : RivM I' lv ρ := by
  obtain ⟨h0, h1, h2, h3, h4, h5, h6, h7, h8, h9, h10, h11⟩ := h
  unfold RivM
  rw [hf 305 (by omega) (by omega), hf 306 (by omega) (by omega), hf 310 (by omega) (by omega), hf 311 (by omega) (by omega), hf 316 (by omega) (by omega), hf 308 (by omega) (by omega), hf 309 (by omega) (by omega), hf 312 (by omega) (by omega), hf 313 (by omega) (by omega), hf 314 (by omega) (by omega), hf 315 (by omega) (by omega), hf 317 (by omega) (by omega), hf 318 (by omega) (by omega)]
  exact ⟨h0, h1, h2, h3, h4, h5, h6, h7, h8, h9, lawM_congr h10 (fun a h1 h2 => hf a (by omega) h2), lawM_congr h11 (fun a h1 h2 => hf a (by omega) h2)⟩
theorem M_tellsC {F : Nat} (hF : 1000000 ≤ F) {I J : MI} {Λ : LawT} {most : Int} {f l : Nat} (hm : 0 ≤ most) (hB : LawB Λ) (hl : l ≤ 260) (h : (f = l ∧ Λ = noLaw) ∨ (l = f + Λ.1.length + 1 ∧ BrM I f Λ.1 Λ.2)) {vs : Nat → Int} (hv : ∀ j, j < 6 → I 329 j = vs j) (h0 : I 296 51 = 0) : ∃ I', ((iter (fun s : Int × MI => f_M_tellsBy_L105 F most (l : Int) s.1 s.2 J) F ((f : Int), I)).bind fun e23 => (match e23 with | .inl e25 => (some (0, e25)) | .inr o26 => (match o26 with | .inl e28 => (if 0 ≤ e28.1 ∧ e28.1 < 260 then ((f_M_termOf F (e28.2 324 (e28.1).toNat) (e28.2 325 (e28.1).toNat) e28.2 J).bind fun q33 => (if ¬ (q33.2 296 51) = 0 then (some (0, q33.2)) else (if 0 ≤ q33.1 then (if q33.1 ≤ most then (some (q33.1, q33.2)) else (some (most, q33.2))) else (some (0, q33.2))))) else none) | .inr o29 => (some (0, o29))))) = some (clA (evalL vs Λ.1 Λ.2) most, I') ∧ FrT I I' := by
  have cl0' : clA 0 most = 0 := by
    unfold clA
    rw [if_neg (by omega)]
    split <;> omega
  rcases h with ⟨h1, rfl⟩ | ⟨h1, h2⟩
  · have e : iter (fun s : Int × MI => f_M_tellsBy_L105 F most (l : Int) s.1 s.2 J) F ((f : Int), I) = some (.inr (.inr I)) := by
      rw [show F = (F - 1) + 1 by omega]
      refine iter_e ?_
      dsimp only
      unfold f_M_tellsBy_L105
      rw [if_pos (by omega)]
    rw [e, noLaw_0, cl0']
    exact ⟨I, rfl, frT_refl⟩
  · obtain ⟨e, I', i1, i2, i3⟩ := M_brs (F := F) (most := most) (last := (l : Int)) (J := J) (vs := vs) hF hB.2 (by omega) Λ.1 I f hB.1 h2 (by omega) hv h0
    have i4 := i3 F (by omega)
    have i5 : iter (fun s : Int × MI => f_M_tellsBy_L105 F most (l : Int) s.1 s.2 J) F ((f : Int), I) = some e := i4
    rw [i5, Option.bind_some]
    rcases i2 with ⟨q1, q2⟩ | ⟨b', ct, p', q1, q2, q3, q4, q5, q6, q7, q8, q9⟩
    · rw [q1, q2, cl0']
      exact ⟨I', rfl, i1⟩
    · rw [q1, q3]
      dsimp only
      rw [if_pos (by omega), Int.toNat_natCast]
      obtain ⟨I2, e2, f2, g2⟩ := M_term (F := F) (J := J) (I := I') (vs := vs) (x1 := I' 324 b') (x2 := I' 325 b') hF q4 (by rw [i1.1 326 (by decide) (by decide), i1.1 327 (by decide) (by decide)]; exact q7) (by rw [i1.1 329 (by decide) (by decide)]; exact hv) q8 (by rw [i1.1 324 (by decide) (by decide)]; exact q5) (by rw [i1.1 325 (by decide) (by decide)]; exact q6)
      rw [e2, Option.bind_some]
      dsimp only
      refine ⟨I2, ?_, frT_trans i1 f2⟩
      cases hct : valC vs ct with
      | none =>
        rw [hct] at g2
        simp only [if_true] at g2
        rw [if_pos (by omega)]
        simp only [Option.getD_none]
        rw [cl0']
      | some v =>
        rw [hct] at g2
        simp only [reduceCtorEq, if_false] at g2
        rw [if_neg (by omega)]
        simp only [Option.getD_some]
        unfold clA
        by_cases c1 : 0 ≤ v
        · rw [if_pos c1]
          by_cases c2 : v ≤ most
          · rw [if_pos c2, if_neg (show ¬ v < 0 by omega), if_neg (by omega)]
          · rw [if_neg c2, if_neg (show ¬ v < 0 by omega), if_pos (by omega)]
        · rw [if_neg c1, if_pos (by omega)]
/-- the model's scratch of a day -/
def FrM (I I' : MI) : Prop := (∀ a, a ≠ 329 → a ≠ 330 → a ≠ 332 → a ≠ 333 → a ≠ 296 → I' a = I a) ∧ ∀ k, k ≠ 51 → I' 296 k = I 296 k
theorem frM_refl {I : MI} : FrM I I := ⟨fun _ _ _ _ _ _ => rfl, fun _ _ => rfl⟩
theorem frM_trans {I I' I2 : MI} (h : FrM I I') (h2 : FrM I' I2) : FrM I I2 := ⟨fun a h3 h4 h5 h6 h7 => (h2.1 a h3 h4 h5 h6 h7).trans (h.1 a h3 h4 h5 h6 h7), fun k hk => (h2.2 k hk).trans (h.2 k hk)⟩
theorem rivm_fr {I I' : MI} {lv : Nat} {ρ : RIV} (h : RivM I lv ρ) (hf : FrM I I') : RivM I' lv ρ := rivm_congr h (fun a h1 h2 => hf.1 a (by omega) (by omega) (by omega) (by omega) (by omega))
theorem M_deep {F lv c : Nat} {I J : MI} {ρ : RIV} (h : RivM I lv ρ) (hl : I 296 18 = (lv : Int)) (hc : c < 96) : f_M_deep F (c : Int) I J = some (dep ρ c) := by
  have h2 := h.1
  unfold f_M_deep
  rw [hl, w32i (x := 96 * (lv : Int)) (by omega) (by omega), w32i (by omega) (by omega), if_pos (by omega), show (96 * (lv : Int) + (c : Int)).toNat = 96 * lv + c by omega, h.2.2.2.2.2.2.1 c hc]
theorem M_tells {F lv : Nat} (hF : 1000000 ≤ F) {I J : MI} {ρ : RIV} {s : BSt} (h : RivM I lv ρ) (hl : I 296 18 = (lv : Int)) (hs : MSt I s) {k c : Nat} {force most : Int} {Λ : LawT} (hk : k = 0 ∧ Λ = ρ.2.1 ∨ k = 1 ∧ Λ = ρ.2.2) (hc : c < 96) (hm : 0 ≤ most) : ∃ I', f_M_tellsBy F (k : Int) (c : Int) force most I J = some (clA (teA ρ Λ c force s) most, I') ∧ MSt I' s ∧ FrM I I' ∧ I' 332 = I 332 ∧ I' 333 = I 333 := by
  have h2 := h.1
  unfold f_M_tellsBy
  rw [hl, w32i (x := 2 * (lv : Int)) (by omega) (by omega), w32i (x := 2 * (lv : Int) + (k : Int)) (by omega) (by omega), if_pos (by omega), if_pos (by omega), Int.toNat_natCast]
  rw [M_deep (lv := lv) (rivm_congr h (fun a h1 h2 => up2_off (by omega))) (by rw [up2_r (by decide)]; exact hl) hc, Option.bind_some]
  rw [w32i (x := 144 + (c : Int)) (by omega) (by omega), if_pos (by omega), show (144 + (c : Int)).toNat = 144 + c by omega]
  rw [div32_eq (by omega) (by omega) (by omega) (by omega), rem32_eq (by omega) (by omega) (by omega) (by omega)]
  simp only [up2_r (show (332 : Nat) ≠ 329 by decide)]
  rw [hs.1 (144 + c) (by omega), hs.2 c hc]
  generalize hM : up2 (up2 (up2 (up2 (up2 (up2 (up2 I 329 0 (s.2 c)) 329 1 (dep ρ c)) 329 2 force) 329 3 (s.1 (144 + c))) 329 4 ((c : Int) / 12)) 329 5 ((c : Int) % 12)) 296 51 0 = M
  have fM : ∀ a, a ≠ 329 → a ≠ 296 → M a = I a := by
    intro a h3 h4
    rw [← hM, up2_off h4]
    simp only [up2_off h3]
  have gM : ∀ j, j ≠ 51 → M 296 j = I 296 j := by
    intro j hj
    rw [← hM, up2_k hj]
    simp only [up2_r (show (296 : Nat) ≠ 329 by decide)]
  have vM : ∀ j, j < 6 → M 329 j = seeL (s.2 c) (dep ρ c) force (s.1 (144 + c)) ((c / 12 : Nat) : Int) ((c % 12 : Nat) : Int) j := by
    intro j hj
    rw [← hM, up2_r (by decide)]
    unfold seeL
    have : j = 0 ∨ j = 1 ∨ j = 2 ∨ j = 3 ∨ j = 4 ∨ j = 5 := by omega
    rcases this with rfl | rfl | rfl | rfl | rfl | rfl <;> simp [up2]
  have hΛ : LawM I (2 * lv + k) Λ := by
    rcases hk with ⟨rfl, rfl⟩ | ⟨rfl, rfl⟩
    · exact h.2.2.2.2.2.2.2.2.2.2.1
    · exact h.2.2.2.2.2.2.2.2.2.2.2
  have hΛ2 := lawM_congr (I' := M) hΛ (fun a h1 h2 => fM a (by omega) (by omega))
  obtain ⟨hB, f, l, g1, g2, g3, g4⟩ := hΛ2
  rw [show (2 * (lv : Int) + (k : Int)).toNat = 2 * lv + k by omega, ← fM 320 (by decide) (by decide), ← fM 319 (by decide) (by decide), g1, g2]
  obtain ⟨I', e, fr⟩ := M_tellsC (F := F) (J := J) hF hm hB g3 (g4.imp id (fun h => ⟨h.1, h.2.1⟩)) vM (by rw [← hM, up2_same])
  refine ⟨I', ?_, ⟨fun j hj => ?_, fun j hj => ?_⟩, ⟨fun a h3 h4 h5 h6 h7 => ?_, fun j hj => ?_⟩, ?_, ?_⟩
  · exact e
  · rw [fr.1 332 (by decide) (by decide), fM 332 (by decide) (by decide)]; exact hs.1 j hj
  · rw [fr.1 333 (by decide) (by decide), fM 333 (by decide) (by decide)]; exact hs.2 j hj
  · rw [fr.1 a h4 h7, fM a h3 h7]
  · rw [fr.2 j hj, gM j hj]
  · rw [fr.1 332 (by decide) (by decide), fM 332 (by decide) (by decide)]
  · rw [fr.1 333 (by decide) (by decide), fM 333 (by decide) (by decide)]
