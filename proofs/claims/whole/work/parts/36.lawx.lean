/-! the class's law: what it tells -/
def stpX (F w : Nat) : Int × Int × Int × MI → Option (((Int × MI) ⊕ ((MI) ⊕ ((MI) ⊕ ((MI) ⊕ (MI))))) ⊕ (Int × Int × Int × MI)) := fun s => f_W_tells_L54 F w s.1 s.2.1 s.2.2.1 s.2.2.2
theorem joined_eq {F : Nat} {op a b : Int} {I : MI} (ho : 2 ≤ op ∧ op ≤ 5) (h5 : ¬ (op = 5 ∧ b = 0)) : f_W_joined F op a b I = some (joinA op a b) := by
  unfold f_W_joined joinA
  by_cases h2 : op = 2
  · rw [if_pos h2, if_pos h2]
  rw [if_neg h2, if_neg h2]
  by_cases h3 : op = 3
  · rw [if_pos h3, if_pos h3]
  rw [if_neg h3, if_neg h3]
  by_cases h4 : op = 4
  · rw [if_pos h4, if_pos h4]
  rw [if_neg h4, if_neg h4, if_pos (by omega), if_pos (by omega)]
theorem X_push {F w p : Nat} {I : MI} {st : List Int} {turn x : Int} {vs : Nat → Int} (h1 : (p : Int) < I w 4) (h2 : I w 4 ≤ 402) (h3 : turn ≤ p) (h4 : 0 ≤ turn) (hl : st.length < 32) {op : Int} (ho : I (w + 1) p = op) (ha : I (w + 2) p = x) (hv : ∀ j, j < 6 → I (w + 4) j = vs j) (hop : op = 0 ∨ (op = 1 ∧ 0 ≤ x ∧ x < 6)) : stpX F w ((st.length : Int), (p : Int), turn, I) = some (.inr (((st.length + 1 : Nat) : Int), ((p + 1 : Nat) : Int), turn + 1, up2 I (w + 3) st.length (if op = 0 then x else vs x.toNat))) := by
  unfold stpX
  dsimp only
  unfold f_W_tells_L54
  rw [if_neg (by omega), if_neg (by omega), if_pos (by omega), Int.toNat_natCast, ho, ha, if_pos (by omega)]
  have e1 : ∀ v : Int, f_W_tells_b161in54 F w (st.length : Int) (w32 ((p : Int) + 1)) turn (st.length : Int) v I = some (.inr (((st.length + 1 : Nat) : Int), ((p + 1 : Nat) : Int), turn + 1, up2 I (w + 3) st.length v)) := by
    intro v
    unfold f_W_tells_b161in54
    rw [if_pos (by omega), w32i (by omega) (by omega), w32i (by omega) (by omega), w32i (by omega) (by omega), Int.toNat_natCast]
    simp
  rcases hop with h | ⟨h, hx0, hx6⟩
  · rw [if_pos h]
    unfold f_W_tells_b130in54
    rw [if_pos (by omega), if_neg (by omega), e1, if_pos h]
  · rw [if_neg (by omega), if_neg (by omega)]
    unfold f_W_tells_b130in54
    rw [if_pos (by omega), if_pos (by omega)]
    unfold f_W_seenAt
    rw [if_neg (by omega), if_neg (by omega), if_pos (by omega), Option.bind_some, e1, if_neg (by omega), hv _ (by omega)]
theorem X_opr {F w p : Nat} {I : MI} {st : List Int} {a b : Int} {turn : Int} (h1 : (p : Int) < I w 4) (h2 : I w 4 ≤ 402) (h3 : turn ≤ p) (h4 : 0 ≤ turn) (hl : st.length + 2 ≤ 32) {op : Int} (ho : I (w + 1) p = op) (hop : 2 ≤ op ∧ op ≤ 5) (hs : StkR (I (w + 3)) (b :: a :: st)) (h5 : ¬ (op = 5 ∧ b = 0)) : stpX F w (((b :: a :: st).length : Int), (p : Int), turn, I) = some (.inr (((st.length + 1 : Nat) : Int), ((p + 1 : Nat) : Int), turn + 1, up2 I (w + 3) st.length (joinA op a b))) := by
  obtain ⟨s1, s2, s3⟩ := hs
  simp only [List.length_cons] at s1 s2 ⊢
  unfold stpX
  dsimp only
  unfold f_W_tells_L54
  have t1 : w32 (((st.length + 1 + 1 : Nat) : Int) - 1) = ((st.length + 1 : Nat) : Int) := by rw [w32i (by omega) (by omega)]; omega
  have t2 : w32 (((st.length + 1 + 1 : Nat) : Int) - 2) = ((st.length : Nat) : Int) := by rw [w32i (by omega) (by omega)]; omega
  have t3 : w32 (((st.length + 1 + 1 : Nat) : Int) + (-2)) = ((st.length : Nat) : Int) := by rw [w32i (by omega) (by omega)]; omega
  rw [if_neg (by omega), if_neg (by omega), if_pos (by omega), Int.toNat_natCast, ho, if_pos (by omega), if_neg (by omega), if_pos (by omega), if_pos (by omega), t1, t2, if_pos (by omega), if_pos (by omega), Int.toNat_natCast, Int.toNat_natCast, s1, s2]
  have e1 : f_W_tells_b211in54 F w ((st.length + 1 + 1 : Nat) : Int) (w32 ((p : Int) + 1)) turn op (I (w + 2) p) a b I = some (.inr (((st.length + 1 : Nat) : Int), ((p + 1 : Nat) : Int), turn + 1, up2 I (w + 3) st.length (joinA op a b))) := by
    unfold f_W_tells_b211in54
    rw [if_pos (by omega), joined_eq hop h5, Option.bind_some, t3, if_pos (by omega), w32i (by omega) (by omega), w32i (by omega) (by omega), w32i (by omega) (by omega), Int.toNat_natCast]
    simp
  by_cases h : op = 5
  · rw [if_neg (by omega), if_pos (by omega), e1]
  · rw [if_pos (by omega), e1]
theorem X_div0 {F w p : Nat} {I : MI} {st : List Int} {a : Int} {turn : Int} (h1 : (p : Int) < I w 4) (h2 : I w 4 ≤ 402) (h3 : turn ≤ p) (h4 : 0 ≤ turn) (hl : st.length + 2 ≤ 32) (ho : I (w + 1) p = 5) (hs : StkR (I (w + 3)) (0 :: a :: st)) : stpX F w (((0 :: a :: st).length : Int), (p : Int), turn, I) = some (.inl (.inr (.inr (.inr (.inl I))))) := by
  obtain ⟨s1, s2, s3⟩ := hs
  simp only [List.length_cons] at s1 s2 ⊢
  unfold stpX
  dsimp only
  unfold f_W_tells_L54
  have t1 : w32 (((st.length + 1 + 1 : Nat) : Int) - 1) = ((st.length + 1 : Nat) : Int) := by rw [w32i (by omega) (by omega)]; omega
  have t2 : w32 (((st.length + 1 + 1 : Nat) : Int) - 2) = ((st.length : Nat) : Int) := by rw [w32i (by omega) (by omega)]; omega
  rw [if_neg (by omega), if_neg (by omega), if_pos (by omega), Int.toNat_natCast, ho, if_pos (by omega), if_neg (by omega), if_pos (by omega), if_pos (by omega), t1, t2, if_pos (by omega), if_pos (by omega), Int.toNat_natCast, Int.toNat_natCast, s1, if_neg (by omega), if_neg (by omega)]
theorem X_unl {F w p : Nat} {I : MI} {st : List Int} {a b : Int} {turn x : Int} (h1 : (p : Int) < I w 4) (h2 : I w 4 ≤ 402) (h3 : turn ≤ p) (h4 : 0 ≤ turn) (hl : st.length + 2 ≤ 32) (ho : I (w + 1) p = 6) (ha : I (w + 2) p = x) (hs : StkR (I (w + 3)) (b :: a :: st)) : stpX F w (((b :: a :: st).length : Int), (p : Int), turn, I) = some (.inr (((st.length : Nat) : Int), (if a < b then ((p + 1 : Nat) : Int) else x), turn + 1, I)) := by
  obtain ⟨s1, s2, s3⟩ := hs
  simp only [List.length_cons] at s1 s2 ⊢
  unfold stpX
  dsimp only
  unfold f_W_tells_L54
  have t1 : w32 (((st.length + 1 + 1 : Nat) : Int) - 1) = ((st.length + 1 : Nat) : Int) := by rw [w32i (by omega) (by omega)]; omega
  have t2 : w32 (((st.length + 1 + 1 : Nat) : Int) - 2) = ((st.length : Nat) : Int) := by rw [w32i (by omega) (by omega)]; omega
  have t3 : w32 (((st.length + 1 + 1 : Nat) : Int) + (-2)) = ((st.length : Nat) : Int) := by rw [w32i (by omega) (by omega)]; omega
  rw [if_neg (by omega), if_neg (by omega), if_pos (by omega), Int.toNat_natCast, ho, if_pos (by omega), if_neg (by omega), if_pos (by omega), if_pos (by omega), t1, t2, if_pos (by omega), if_pos (by omega), Int.toNat_natCast, Int.toNat_natCast, s1, s2, if_pos (by omega), ha]
  unfold f_W_tells_b211in54
  rw [if_neg (by omega), t3, w32i (by omega) (by omega), w32i (by omega) (by omega)]
  split
  · simp
  · rfl
theorem X_end {F w p : Nat} {I : MI} {top turn : Int} (h1 : (p : Int) < I w 4) (h2 : I w 4 ≤ 402) (h3 : turn ≤ p) (ho : I (w + 1) p = 7) : stpX F w (top, (p : Int), turn, I) = some (.inl (.inl (top, I))) := by
  unfold stpX
  dsimp only
  unfold f_W_tells_L54
  rw [if_neg (by omega), if_neg (by omega), if_pos (by omega), Int.toNat_natCast, ho, if_neg (by omega)]
theorem stk_push {I : MI} {w : Nat} {st : List Int} {v : Int} (h : StkR (I (w + 3)) st) : StkR (up2 I (w + 3) st.length v (w + 3)) (v :: st) := ⟨up2_same, stk_congr h (fun k hk => up2_k (by omega))⟩
theorem two_len {l : List Int} (h : 2 ≤ l.length) : ∃ b a t, l = b :: a :: t := by
  match l, h with
  | b :: a :: t, _ => exact ⟨b, a, t, rfl⟩
theorem X_run {F w : Nat} {vs : Nat → Int} : ∀ (c : LCode) (st : List Int) (I : MI) (p : Nat) (turn : Int) (h' : Nat), SegR (I (w + 1)) (I (w + 2)) p c → (∀ j, j < 6 → I (w + 4) j = vs j) → StkR (I (w + 3)) st → st.length ≤ 32 → hgt 32 c st.length = some h' → ((p + c.length : Nat) : Int) ≤ I w 4 → I w 4 ≤ 402 → turn ≤ p → 0 ≤ turn →
    (∀ st', runC vs c st = some st' → ∃ I', (∀ a, a ≠ w + 3 → I' a = I a) ∧ StkR (I' (w + 3)) st' ∧ ∀ G, iter (stpX F w) (G + c.length) ((st.length : Int), (p : Int), turn, I) = iter (stpX F w) G ((st'.length : Int), ((p + c.length : Nat) : Int), turn + (c.length : Int), I')) ∧
    (runC vs c st = none → ∃ I', (∀ a, a ≠ w + 3 → I' a = I a) ∧ ∀ G, iter (stpX F w) (G + c.length) ((st.length : Int), (p : Int), turn, I) = some (.inr (.inr (.inr (.inl I'))))) := by
  intro c
  induction c with
  | nil =>
    intro st I p turn h' _ _ hs _ _ _ _ _ _
    refine ⟨fun st' h => ?_, fun h => by cases h⟩
    cases h
    exact ⟨I, fun _ _ => rfl, hs, fun G => by simp⟩
  | cons q c ih =>
    obtain ⟨op, x⟩ := q
    intro st I p turn h' hseg hv hs hlen hh hp hz ht ht0
    obtain ⟨g1, g2, g3⟩ := hseg
    simp only [List.length_cons] at hp
    simp only [hgt] at hh
    have next : ∀ (st1 : List Int) (v : Int), StkR (up2 I (w + 3) st1.length v (w + 3)) (v :: st1) → st1.length < 32 → hgt 32 c (v :: st1).length = some h' → stpX F w ((st.length : Int), (p : Int), turn, I) = some (.inr (((st1.length + 1 : Nat) : Int), ((p + 1 : Nat) : Int), turn + 1, up2 I (w + 3) st1.length v)) → runC vs ((op, x) :: c) st = runC vs c (v :: st1) → (∀ st', runC vs ((op, x) :: c) st = some st' → ∃ I', (∀ a, a ≠ w + 3 → I' a = I a) ∧ StkR (I' (w + 3)) st' ∧ ∀ G, iter (stpX F w) (G + (c.length + 1)) ((st.length : Int), (p : Int), turn, I) = iter (stpX F w) G ((st'.length : Int), ((p + (c.length + 1) : Nat) : Int), turn + ((c.length + 1 : Nat) : Int), I')) ∧ (runC vs ((op, x) :: c) st = none → ∃ I', (∀ a, a ≠ w + 3 → I' a = I a) ∧ ∀ G, iter (stpX F w) (G + (c.length + 1)) ((st.length : Int), (p : Int), turn, I) = some (.inr (.inr (.inr (.inl I'))))) := by
      intro st1 v hst hl1 hh1 hstep hrun
      have o1 : ∀ a, a ≠ w + 3 → up2 I (w + 3) st1.length v a = I a := fun a ha => up2_off ha
      have := ih (v :: st1) (up2 I (w + 3) st1.length v) (p + 1) (turn + 1) h' (by rw [o1 (w + 1) (by omega), o1 (w + 2) (by omega)]; exact g3) (by rw [o1 (w + 4) (by omega)]; exact hv) hst (by simp; omega) hh1 (by rw [o1 w (by omega)]; omega) (by rw [o1 w (by omega)]; exact hz) (by omega) (by omega)
      rw [hrun]
      refine ⟨fun st' h => ?_, fun h => ?_⟩
      · obtain ⟨I', i1, i2, i3⟩ := this.1 st' h
        refine ⟨I', fun a ha => (i1 a ha).trans (o1 a ha), i2, fun G => ?_⟩
        rw [show G + (c.length + 1) = (G + c.length) + 1 by omega, iter_s hstep]
        have e := i3 G
        simp only [List.length_cons] at e
        rw [e, show turn + 1 + (c.length : Int) = turn + ((c.length + 1 : Nat) : Int) by omega, show p + 1 + c.length = p + (c.length + 1) by omega]
      · obtain ⟨I', i1, i3⟩ := this.2 h
        refine ⟨I', fun a ha => (i1 a ha).trans (o1 a ha), fun G => ?_⟩
        rw [show G + (c.length + 1) = (G + c.length) + 1 by omega, iter_s hstep]
        have e := i3 G
        simp only [List.length_cons] at e
        exact e
    simp only [List.length_cons]
    by_cases hop : op = 0 ∨ (op = 1 ∧ 0 ≤ x ∧ x < 6)
    · rw [if_pos hop] at hh
      split at hh
      · rename_i hlt
        refine next st (if op = 0 then x else vs x.toNat) (stk_push hs) hlt hh (X_push (by omega) hz ht ht0 hlt g1 g2 hv hop) ?_
        simp only [runC]
        rcases hop with h | ⟨h, _, _⟩
        · rw [if_pos h, if_pos h]
        · rw [if_neg (by omega), if_pos h, if_neg (by omega)]
      · cases hh
    · rw [if_neg hop] at hh
      split at hh
      · rename_i ho
        · obtain ⟨b, a, st1, rfl⟩ := two_len ho.2.2
          simp only [List.length_cons] at hlen hh
          by_cases h5 : op = 5 ∧ b = 0
          · have er : runC vs ((op, x) :: c) (b :: a :: st1) = none := by
              simp only [runC]
              rw [if_neg (by omega), if_neg (by omega), if_pos h5]
            refine ⟨fun st' h => (by rw [er] at h; cases h), fun _ => ⟨I, fun _ _ => rfl, fun G => ?_⟩⟩
            obtain ⟨h5a, h5b⟩ := h5
            subst h5b
            rw [show G + (c.length + 1) = (G + c.length) + 1 by omega]
            exact iter_e (X_div0 (by omega) hz ht ht0 (by omega) (g1.trans h5a) hs)
          · refine next st1 (joinA op a b) (stk_push hs.2.2) (by omega) (by simpa using hh) (X_opr (by omega) hz ht ht0 (by omega) g1 ⟨ho.1, ho.2.1⟩ hs h5) ?_
            simp only [runC]
            rw [if_neg (by omega), if_neg (by omega), if_neg h5]
      · cases hh
/-- how the law's walk ends: the number on top, or 0 -/
def endX (w : Nat) (e : (Int × MI) ⊕ ((MI) ⊕ ((MI) ⊕ ((MI) ⊕ (MI))))) (v : Int) (I' : MI) : Prop := (∃ top : Int, e = .inl (top, I') ∧ 1 ≤ top ∧ top ≤ 32 ∧ I' (w + 3) (top - 1).toNat = v) ∨ (v = 0 ∧ e = .inr (.inr (.inr (.inl I'))))
theorem X_one {F w : Nat} {vs : Nat → Int} {c : LCode} {I : MI} {p : Nat} {turn : Int} (hb : BalC 16 c) (hseg : SegR (I (w + 1)) (I (w + 2)) p (c ++ [(7, 0)])) (hv : ∀ j, j < 6 → I (w + 4) j = vs j) (hp : ((p + c.length + 1 : Nat) : Int) ≤ I w 4) (hz : I w 4 ≤ 402) (ht : turn ≤ p) (ht0 : 0 ≤ turn) : ∃ I' e, (∀ a, a ≠ w + 3 → I' a = I a) ∧ endX w e ((valC vs c).getD 0) I' ∧ ∀ G, iter (stpX F w) (G + (c.length + 1)) (0, (p : Int), turn, I) = some e := by
  rw [seg_app] at hseg
  have hr := X_run (F := F) (w := w) (vs := vs) c [] I p turn 1 hseg.1 hv trivial (by simp) (hb 32 0 (by omega)) (by omega) hz ht ht0
  have hval := runC_val (vs := vs) hb []
  cases hc : valC vs c with
  | none =>
    rw [hc] at hval
    obtain ⟨I', i1, i2⟩ := hr.2 hval
    refine ⟨I', _, i1, Or.inr ⟨rfl, rfl⟩, fun G => ?_⟩
    rw [show G + (c.length + 1) = (G + 1) + c.length by omega]
    exact i2 (G + 1)
  | some v =>
    rw [hc] at hval
    obtain ⟨I', i1, i2, i3⟩ := hr.1 [v] hval
    refine ⟨I', _, i1, Or.inl ⟨1, rfl, by omega, by omega, i2.1⟩, fun G => ?_⟩
    rw [show G + (c.length + 1) = (G + 1) + c.length by omega]
    refine (i3 (G + 1)).trans (iter_e ?_)
    exact X_end (by rw [i1 w (by omega)]; omega) (by rw [i1 w (by omega)]; exact hz) (by omega) (by rw [i1 (w + 1) (by omega)]; exact hseg.2.1)
theorem X_law {F w : Nat} {vs : Nat → Int} {c : LCode} (hc : BalC 16 c) : ∀ (r : List (LCode × LCode × LCode)) (I : MI) (o : Nat) (turn : Int), (∀ q ∈ r, BalC 16 q.1 ∧ BalC 16 q.2.1 ∧ BalC 16 q.2.2) → SegR (I (w + 1)) (I (w + 2)) o (flatL r c o) → (∀ j, j < 6 → I (w + 4) j = vs j) → ((o + (flatL r c o).length : Nat) : Int) ≤ I w 4 → I w 4 ≤ 402 → turn ≤ o → 0 ≤ turn → ∃ I' e, (∀ a, a ≠ w + 3 → I' a = I a) ∧ endX w e (evalL vs r c) I' ∧ ∀ G, (flatL r c o).length ≤ G → iter (stpX F w) G (0, (o : Int), turn, I) = some e := by
  intro r
  induction r with
  | nil =>
    intro I o turn _ hseg hv hp hz ht ht0
    obtain ⟨I', e, i1, i2, i3⟩ := X_one (F := F) hc hseg hv (by simp only [flatL, List.length_append, List.length_cons, List.length_nil] at hp; omega) hz ht ht0
    refine ⟨I', e, i1, i2, fun G hG => ?_⟩
    simp only [flatL, List.length_append, List.length_cons, List.length_nil] at hG
    have := i3 (G - (c.length + 1))
    rw [show G - (c.length + 1) + (c.length + 1) = G by omega] at this
    exact this
  | cons q r ih =>
    obtain ⟨c1, c2, c3⟩ := q
    intro I o turn hbal hseg hv hp hz ht ht0
    obtain ⟨bb1, bb2, bb3⟩ := hbal (c1, c2, c3) (by simp)
    dsimp only at bb1 bb2 bb3
    simp only [flatL, List.length_append, List.length_cons, List.length_nil] at hp
    simp only [flatL, seg_app, List.length_append, List.length_cons, List.length_nil, ← Nat.add_assoc, Nat.zero_add] at hseg
    obtain ⟨⟨⟨⟨⟨s1, s2⟩, s3⟩, s4⟩, s5⟩, s6⟩ := hseg
    have hv1 := runC_val (vs := vs) bb1 []
    have hr1 := X_run (F := F) (w := w) (vs := vs) c1 [] I o turn 1 s1 hv trivial (by simp) (bb1 32 0 (by omega)) (by omega) hz ht ht0
    cases hc1 : valC vs c1 with
    | none =>
      rw [hc1] at hv1
      obtain ⟨I', i1, i2⟩ := hr1.2 hv1
      refine ⟨I', _, i1, Or.inr ⟨by simp [evalL, hc1], rfl⟩, fun G hG => ?_⟩
      simp only [flatL, List.length_append, List.length_cons, List.length_nil] at hG
      have := i2 (G - c1.length)
      rw [show G - c1.length + c1.length = G by omega] at this
      exact this
    | some u =>
      rw [hc1] at hv1
      obtain ⟨I1, i1, i2, i3⟩ := hr1.1 [u] hv1
      have hv2 := runC_val (vs := vs) bb2 [u]
      have hr2 := X_run (F := F) (w := w) (vs := vs) c2 [u] I1 (o + c1.length) (turn + c1.length) 2 (by rw [i1 _ (by omega), i1 _ (by omega)]; exact s2) (by rw [i1 _ (by omega)]; exact hv) i2 (by simp) (bb2 32 1 (by omega)) (by rw [i1 _ (by omega)]; omega) (by rw [i1 _ (by omega)]; exact hz) (by omega) (by omega)
      cases hc2 : valC vs c2 with
      | none =>
        rw [hc2] at hv2
        obtain ⟨I', j1, j2⟩ := hr2.2 hv2
        refine ⟨I', _, fun a ha => (j1 a ha).trans (i1 a ha), Or.inr ⟨by simp [evalL, hc1, hc2], rfl⟩, fun G hG => ?_⟩
        simp only [flatL, List.length_append, List.length_cons, List.length_nil] at hG
        have e1 := i3 (G - c1.length)
        rw [show G - c1.length + c1.length = G by omega] at e1
        have e2 := j2 (G - c1.length - c2.length)
        rw [show G - c1.length - c2.length + c2.length = G - c1.length by omega] at e2
        exact e1.trans e2
      | some v =>
        rw [hc2] at hv2
        obtain ⟨I2, j1, j2, j3⟩ := hr2.1 [v, u] hv2
        have fr : ∀ a, a ≠ w + 3 → I2 a = I a := fun a ha => (j1 a ha).trans (i1 a ha)
        have st6 := X_unl (F := F) (p := o + c1.length + c2.length) (turn := turn + c1.length + c2.length) (st := []) (I := I2) (w := w) (x := ((o + c1.length + c2.length + 1 + c3.length + 1 : Nat) : Int)) (by rw [fr _ (by omega)]; omega) (by rw [fr _ (by omega)]; exact hz) (by omega) (by omega) (by simp) (by rw [fr _ (by omega)]; exact s3.1) (by rw [fr _ (by omega)]; exact s3.2.1) j2
        by_cases huv : u < v
        · rw [if_pos huv] at st6
          obtain ⟨I', e, k1, k2, k3⟩ := X_one (F := F) (I := I2) (w := w) (vs := vs) (p := o + c1.length + c2.length + 1) (turn := turn + c1.length + c2.length + 1) bb3 (by
            rw [fr _ (by omega), fr _ (by omega), seg_app]
            exact ⟨s4, s5⟩) (by rw [fr _ (by omega)]; exact hv) (by rw [fr _ (by omega)]; omega) (by rw [fr _ (by omega)]; exact hz) (by omega) (by omega)
          refine ⟨I', e, fun a ha => (k1 a ha).trans (fr a ha), by simpa [evalL, hc1, hc2, huv] using k2, fun G hG => ?_⟩
          simp only [flatL, List.length_append, List.length_cons, List.length_nil] at hG
          have e1 := i3 (G - c1.length)
          rw [show G - c1.length + c1.length = G by omega] at e1
          have e2 := j3 (G - c1.length - c2.length)
          rw [show G - c1.length - c2.length + c2.length = G - c1.length by omega] at e2
          have e3 := k3 (G - c1.length - c2.length - 1 - (c3.length + 1))
          rw [show G - c1.length - c2.length - 1 - (c3.length + 1) + (c3.length + 1) = G - c1.length - c2.length - 1 by omega] at e3
          refine (e1.trans e2).trans ?_
          rw [show G - c1.length - c2.length = (G - c1.length - c2.length - 1) + 1 by omega]
          exact (iter_s st6).trans e3
        · rw [if_neg huv] at st6
          obtain ⟨I', e, k1, k2, k3⟩ := ih I2 (o + c1.length + c2.length + 1 + c3.length + 1) (turn + c1.length + c2.length + 1) (fun q hq => hbal q (by simp [hq])) (by
            rw [fr _ (by omega), fr _ (by omega)]
            exact s6) (by rw [fr _ (by omega)]; exact hv) (by rw [fr _ (by omega)]; omega) (by rw [fr _ (by omega)]; exact hz) (by omega) (by omega)
          refine ⟨I', e, fun a ha => (k1 a ha).trans (fr a ha), by simpa [evalL, hc1, hc2, huv] using k2, fun G hG => ?_⟩
          simp only [flatL, List.length_append, List.length_cons, List.length_nil] at hG
          have e1 := i3 (G - c1.length)
          rw [show G - c1.length + c1.length = G by omega] at e1
          have e2 := j3 (G - c1.length - c2.length)
          rw [show G - c1.length - c2.length + c2.length = G - c1.length by omega] at e2
          have e3 := k3 (G - c1.length - c2.length - 1) (by omega)
          refine (e1.trans e2).trans ?_
          rw [show G - c1.length - c2.length = (G - c1.length - c2.length - 1) + 1 by omega]
          exact (iter_s st6).trans e3
/-- a law as the class keeps it -/
def LawX (I : MI) (w : Nat) (Λ : LawT) : Prop := LawB Λ ∧ ((I w 4 = 0 ∧ Λ = noLaw) ∨ (I w 4 = ((flatL Λ.1 Λ.2 0).length : Int) ∧ I w 4 ≤ 402 ∧ SegR (I (w + 1)) (I (w + 2)) 0 (flatL Λ.1 Λ.2 0)))
theorem lawX_congr {I I' : MI} {w : Nat} {Λ : LawT} (h : LawX I w Λ) (h0 : I' w = I w) (h1 : I' (w + 1) = I (w + 1)) (h2 : I' (w + 2) = I (w + 2)) : LawX I' w Λ := by
  unfold LawX
  rw [h0, h1, h2]
  exact h
theorem X_tells {F w : Nat} (hF : 1000000 ≤ F) {I : MI} {Λ : LawT} (h : LawX I w Λ) (x1 x2 x3 x4 x5 x6 : Int) : ∃ I', f_W_tells F w x1 x2 x3 x4 x5 x6 I = some (evalL (seeL x1 x2 x3 x4 x5 x6) Λ.1 Λ.2, I') ∧ ∀ a, a ≠ w + 3 → a ≠ w + 4 → I' a = I a := by
  obtain ⟨hb, h⟩ := h
  unfold f_W_tells
  generalize hM : up2 (up2 (up2 (up2 (up2 (up2 I (w + 4) 0 x1) (w + 4) 1 x2) (w + 4) 2 x3) (w + 4) 3 x4) (w + 4) 4 x5) (w + 4) 5 x6 = M
  have fM : ∀ a, a ≠ w + 4 → M a = I a := by
    intro a ha
    rw [← hM]
    simp only [up2_off ha]
  have sM : ∀ j, j < 6 → M (w + 4) j = seeL x1 x2 x3 x4 x5 x6 j := by
    intro j hj
    rw [← hM]
    unfold seeL
    have : j = 0 ∨ j = 1 ∨ j = 2 ∨ j = 3 ∨ j = 4 ∨ j = 5 := by omega
    rcases this with rfl | rfl | rfl | rfl | rfl | rfl <;> simp [up2]
  rcases h with ⟨h0, rfl⟩ | ⟨h1, h2, h3⟩
  · have e : iter (stpX F w) F (0, 0, 0, M) = some (.inr (.inr (.inr (.inr M)))) := by
      rw [show F = (F - 1) + 1 by omega]
      refine iter_e ?_
      unfold stpX
      dsimp only
      unfold f_W_tells_L54
      rw [if_pos (by rw [fM _ (by omega), h0]; omega)]
    refine ⟨M, ?_, fun a h3 h4 => fM a h4⟩
    unfold stpX at e
    rw [e, noLaw_0]
    rfl
  · obtain ⟨I', e, i1, i2, i3⟩ := X_law (F := F) (w := w) (vs := seeL x1 x2 x3 x4 x5 x6) hb.2 Λ.1 M 0 0 hb.1 (by rw [fM _ (by omega), fM _ (by omega)]; exact h3) sM (by rw [fM _ (by omega)]; omega) (by rw [fM _ (by omega)]; exact h2) (by omega) (by omega)
    have i4 := i3 F (by omega)
    unfold stpX at i4
    refine ⟨I', ?_, fun a h3 h4 => (i1 a h3).trans (fM a h4)⟩
    have i5 : iter (fun s : Int × Int × Int × MI => f_W_tells_L54 F w s.1 s.2.1 s.2.2.1 s.2.2.2) F (0, 0, 0, M) = some e := i4
    rw [i5]
    rcases i2 with ⟨top, h7, t1, t2, t3⟩ | ⟨t1, h7⟩
    · rw [h7]
      show (if top ≤ 0 then _ else _) = _
      rw [if_neg (by omega), w32i (by omega) (by omega), if_pos (by omega)]
      dsimp only
      rw [t3]
    · rw [h7, t1]
      rfl
