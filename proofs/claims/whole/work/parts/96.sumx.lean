/-! texts: the class reads products and sums -/
theorem isE {F nt n : Nat} {a b : Int} {I : MI} {B : Nat → Int} {t : Nat} {l lp : Int} (hT : TkX I B n nt) (hC : CtX nt I (.inr (t, l, lp))) : f_E_isEither F a b I = some (if Kt B n nt t = a ∨ Kt B n nt t = b then 1 else 0) := by
  obtain ⟨c1, c2, c3, c4, c5, c6⟩ := hC
  unfold f_E_isEither
  rw [if_pos (by omega), c4, Int.toNat_natCast, (tkx_at hT c2).1]
  by_cases g : Kt B n nt t = a
  · rw [if_pos g, if_pos (Or.inl g)]
  · rw [if_neg g]
    by_cases g2 : Kt B n nt t = b
    · rw [if_neg (fun z => z g2), if_pos (Or.inr g2)]
    · rw [if_pos g2, if_neg (fun z => z.elim g g2)]
/-- a chain of operands: what one turn of the loop does -/
def ChI (B : Nat → Int) (n nt w b : Nat) (top : List Int → Prop) (ext : Int → Prop) (kb : Nat) (I : MI) (r : Ctl) (p : Nat) (j : Nat) (M : MI) (r1 : Ctl) : Prop :=
  CtX nt M r1 ∧ FrL w I M ∧ (∃ p' : Nat, p' ≤ 402 ∧ M w 4 = (p' : Int)) ∧ (∀ e, r = .inl e → r1 = .inl e) ∧ ∀ t l lp, r = .inr (t, l, lp) → RdQ B n nt w b top ext kb I t l lp p M r1 ∧ ∀ t' l' lp', r1 = .inr (t', l', lp') → t + j ≤ t'
/-- operand, operator, operand: the second one is added -/
theorem chain_step {F n nt w b kb kb2 : Nat} (hw : 10 < w) {B : Nat → Int} {top top2 : List Int → Prop} {ext ext2 : Int → Prop} {op : Int} {f2 : MI → Option MI} {I M : MI} {r r1 : Ctl} {p j t1 : Nat} {l1 lp1 : Int} (hro : ∃ t l lp, r = .inr (t, l, lp)) (hf2 : RdS B n nt w b top2 ext2 kb2 f2) (hkb : kb2 + 1 ≤ kb) (hop : 2 ≤ op ∧ op ≤ 5) (hT : TkX I B n nt) (hpr : ∀ t l lp, r = .inr (t, l, lp) → p ≤ t) (hch : ChI B n nt w b top ext kb I r p j M r1) (hr1 : r1 = .inr (t1, l1, lp1)) (hk : Kt B n nt t1 ≠ 302) (hext : ext2 = ext)
    (hm1 : ∀ W c, top W → t1 ≤ 400 → mB (Kt B n nt) (PP B n nt) (Vt B n) t1 W c = if t1 < 400 then mA (Kt B n nt) (PP B n nt) (Vt B n) (t1 + 1) (op :: W) c else .inl (2, PP B n nt t1)) (hm2 : ∀ W, top W → top2 (op :: W))
    (hm3 : ∀ t2 W c, t2 ≤ 400 → ext2 (Kt B n nt t2) → mB (Kt B n nt) (PP B n nt) (Vt B n) t2 (op :: W) c = mB (Kt B n nt) (PP B n nt) (Vt B n) t2 W (c ++ [(op, 0)])) :
    ∃ (M' : MI) (r2 : Ctl), (f_E_take F (Kt B n nt t1) M).bind (fun q15 => (f2 q15).bind fun q18 => (f_W_put F w op 0 q18).bind fun q21 => some q21.2) = some M' ∧ ChI B n nt w b top ext kb I r p (j + 1) M' r2 := by
  obtain ⟨h1, h2, ⟨pm, h3, h3'⟩, h4, h5⟩ := hch
  have hTM := tkx_L hw hT h2
  obtain ⟨M1, a1, a2, a3⟩ := takeX (F := F) (k := Kt B n nt t1) hTM h1 hk
  have fL1 := frL_trans h2 (fr4_L (w := w) (by omega) a3)
  have hTM1 := tkx_L hw hT fL1
  obtain ⟨M2, r2, b1, b2, b3, ⟨p2, b4, b5⟩, b6, b7⟩ := hf2 M1 _ pm hTM1 a2 (by rw [a3.1 w (by omega)]; exact h3') h3 (fun t0 l0 lp0 h0 => by
    obtain ⟨t, l, lp, hr⟩ := hro
    obtain ⟨q, q'⟩ := h5 t l lp hr
    rw [hr1] at q h0
    obtain ⟨cA, q1, q2, q3, q4, q5, _⟩ := q
    rw [q4] at h3'
    have hpt := hpr t l lp hr
    have h0' : (if Kt B n nt t1 = Kt B n nt t1 then (if t1 < 400 then Sum.inr (t1 + 1, l1, lp1) else Sum.inl (2, PP B n nt t1)) else Sum.inl (1, PP B n nt t1) : Ctl) = .inr (t0, l0, lp0) := h0
    rw [if_pos rfl] at h0'
    by_cases g5 : t1 < 400
    · rw [if_pos g5] at h0'; cases h0'; omega
    · rw [if_neg g5] at h0'; cases h0')
  have fL2 := frL_trans fL1 b3
  obtain ⟨v, M3, p3, c1, c2, c3, c4, c5, c6⟩ := putX (F := F) (op := op) (x := 0) b5 b4
  have fL3 := frL_trans fL2 (put_L hw c4 c5)
  refine ⟨M3, r2, ?_, cx_put hw b2 c4, fL3, ⟨p3, c2, c3⟩, fun e he => ?_, fun t l lp hr => ?_⟩
  · rw [a1, Option.bind_some, b1, Option.bind_some, c1, Option.bind_some]
  · have := h4 e he
    rw [hr1] at this
    cases this
  · obtain ⟨q, q'⟩ := h5 t l lp hr
    have hpt := hpr t l lp hr
    rw [hr1] at q h1 a2 b6 b7
    have hj := q' t1 l1 lp1 hr1
    obtain ⟨z1, z2, _⟩ := h1
    obtain ⟨cA, q1, q2, q3, q4, q5, q6, q7, q8, q9, q10⟩ := q
    have ta : takeA (Kt B n nt) (PP B n nt) (Kt B n nt t1) (.inr (t1, l1, lp1)) = if t1 < 400 then .inr (t1 + 1, l1, lp1) else .inl (2, PP B n nt t1) := if_pos rfl
    rw [ta] at b6 b7
    have epm : pm = p + cA.length := by rw [q4] at h3'; omega
    by_cases g : t1 < 400
    · rw [if_pos g] at b7
      have s := b7 (t1 + 1) l1 lp1 rfl
      match r2, b2, s with
      | .inl e, b2, s =>
        refine ⟨fun W c hW ht => ?_, fun t' l' lp' h => by cases h⟩
        rw [q10 W c hW ht, hm1 W _ ht z1, if_pos g]
        exact s (op :: W) _ (by rw [opens_cons (by omega)]; exact hW) (hm2 W ht)
      | .inr (t2, l2, lp2), b2, s =>
        obtain ⟨y1, y2, _⟩ := b2
        obtain ⟨cB, s1, s2, s3, s4, s5, s6, s7, s8, s9, s10⟩ := s
        obtain ⟨_, d2, d3, d4, d5⟩ := c6 (by rw [s4] at b5; omega)
        have ep2 : p2 = p + cA.length + cB.length := by rw [s4] at b5; omega
        refine ⟨⟨cA ++ cB ++ [(op, 0)], by rw [s1, q1], by rw [s2, q2], by omega, by rw [c3, d2, ep2]; simp only [List.length_append, List.length_cons, List.length_nil]; omega, by simp only [List.length_append, List.length_cons, List.length_nil]; omega, ?_, fun i hi => ?_, bal_op q8 s8 hkb hop, by rw [hext] at s9; exact s9, fun W c hW ht => ?_⟩, fun t' l' lp' h => by cases h; omega⟩
        · rw [seg_app, seg_app]
          refine ⟨⟨?_, ?_⟩, ?_⟩
          · refine seg_congr q6 (fun k h1 h2 => ?_) (fun k h1 h2 => ?_)
            · rw [(d5 k (by omega)).1, (s7 k (by omega)).1, a3.1 _ (by omega)]
            · rw [(d5 k (by omega)).2, (s7 k (by omega)).2, a3.1 _ (by omega)]
          · rw [← epm]
            refine seg_congr s6 (fun k h1 h2 => ?_) (fun k h1 h2 => ?_)
            · rw [(d5 k (by omega)).1]
            · rw [(d5 k (by omega)).2]
          · have e : p + (cA ++ cB).length = p2 := by simp only [List.length_append]; omega
            rw [e]
            exact ⟨d3, d4, trivial⟩
        · rw [(d5 i (by omega)).1, (d5 i (by omega)).2, (s7 i (by omega)).1, (s7 i (by omega)).2, a3.1 _ (by omega), a3.1 _ (by omega)]
          exact q7 i hi
        · rw [q10 W c hW ht, hm1 W _ ht z1, if_pos g, s10 (op :: W) _ (by rw [opens_cons (by omega)]; exact hW) (hm2 W ht), hm3 t2 W _ y1 s9]
          simp only [List.append_assoc]
    · rw [if_neg g] at b6
      have s := b6 _ rfl
      subst s
      refine ⟨fun W c hW ht => ?_, fun t' l' lp' h => by cases h⟩
      rw [q10 W c hW ht, hm1 W _ ht z1, if_neg g]
/-- a loop over operands: two kinds of operators -/
theorem chain_loop {F n nt w b kb kb2 : Nat} (hF : 1000000 ≤ F) (hw : 10 < w) {B : Nat → Int} {top top2 : List Int → Prop} {ext ext2 : Int → Prop} {ka kc oa oc : Int} {f2 : MI → Option MI} {st : Int × MI → Option (MI ⊕ (Int × MI))} {I I1 : MI} {r r1 : Ctl} {p : Nat} (hf2 : RdS B n nt w b top2 ext2 kb2 f2) (hkb : kb2 + 1 ≤ kb) (hoa : 2 ≤ oa ∧ oa ≤ 5) (hoc : 2 ≤ oc ∧ oc ≤ 5) (hka : ka ≠ 302 ∧ kc ≠ 302 ∧ ka ≠ kc) (hT : TkX I B n nt) (hpr : ∀ t l lp, r = .inr (t, l, lp) → p ≤ t)
    (hch : ChI B n nt w b top ext2 kb I r p 0 I1 r1)
    (hm1 : ∀ t1 W c, top W → t1 ≤ 400 → (Kt B n nt t1 = ka ∨ Kt B n nt t1 = kc) → mB (Kt B n nt) (PP B n nt) (Vt B n) t1 W c = if t1 < 400 then mA (Kt B n nt) (PP B n nt) (Vt B n) (t1 + 1) ((if Kt B n nt t1 = ka then oa else oc) :: W) c else .inl (2, PP B n nt t1)) (hm2 : ∀ W op, (op = oa ∨ op = oc) → top W → top2 (op :: W))
    (hm3 : ∀ t2 W c op, (op = oa ∨ op = oc) → t2 ≤ 400 → ext2 (Kt B n nt t2) → mB (Kt B n nt) (PP B n nt) (Vt B n) t2 (op :: W) c = mB (Kt B n nt) (PP B n nt) (Vt B n) t2 W (c ++ [(op, 0)]))
    (hx : ∀ k, ext2 k → k ≠ ka → k ≠ kc → ext k)
    (hst : ∀ (j : Nat) (M : MI), st ((j : Int), M) = (if 400 < (j : Int) then (some (.inl M)) else (if ¬ (M 4 2) = 0 then (some (.inl M)) else ((f_E_isEither F ka kc M).bind fun q7 => (if q7 = 0 then (some (.inl M)) else (if 0 ≤ (M 4 1) ∧ (M 4 1) < 402 then ((((f_E_take F (M 6 ((M 4 1)).toNat) M).bind (fun q15 => (f2 q15).bind fun q18 => (f_W_put F w (if M 6 ((M 4 1)).toNat = ka then oa else oc) 0 q18).bind fun q21 => some q21.2))).bind fun q => some (.inr ((w32 ((j : Int) + 1)), q))) else none)))))) :
    ∃ (M : MI) (r2 : Ctl), iter st F (0, I1) = some M ∧ CtX nt M r2 ∧ FrL w I M ∧ (∃ p' : Nat, p' ≤ 402 ∧ M w 4 = (p' : Int)) ∧ (∀ e, r = .inl e → r2 = .inl e) ∧ ∀ t l lp, r = .inr (t, l, lp) → RdQ B n nt w b top ext kb I t l lp p M r2 := by
  have key := wpo_iter (step := st) (Q := fun M => ∃ (r2 : Ctl) (j : Nat), ChI B n nt w b top ext2 kb I r p j M r2 ∧ ∀ t l lp, r2 = .inr (t, l, lp) → ext2 (Kt B n nt t) → ext (Kt B n nt t)) (fun s => ∃ (r2 : Ctl) (j : Nat), s.1 = (j : Int) ∧ j ≤ 401 ∧ ChI B n nt w b top ext2 kb I r p j s.2 r2) (fun s => 401 - s.1.toNat) ?_ (F := F) (s := ((0 : Int), I1)) (by dsimp only; omega) ⟨r1, 0, rfl, by omega, hch⟩
  · obtain ⟨M, e2, r2, j, ⟨c1, c2, c3, c4, c5⟩, hxx⟩ := key
    refine ⟨M, r2, e2, c1, c2, c3, c4, fun t l lp hr => ?_⟩
    obtain ⟨q, _⟩ := c5 t l lp hr
    match r2, q, hxx with
    | .inl e, q, hxx => exact q
    | .inr (t', l', lp'), q, hxx =>
      obtain ⟨cA, q1, q2, q3, q4, q5, q6, q7, q8, q9, q10⟩ := q
      exact ⟨cA, q1, q2, q3, q4, q5, q6, q7, q8, hxx t' l' lp' rfl q9, q10⟩
  · rintro ⟨x, M⟩ ⟨r2, j, h1, h2, h3⟩
    dsimp only at h1 h3 ⊢
    subst h1
    rw [hst j M]
    have hch2 := h3
    obtain ⟨c1, c2, c3, c4, c5⟩ := h3
    have hTM := tkx_L hw hT c2
    -- while it is open, there are not that many turns
    have few : ∀ t1 l1 lp1, r2 = .inr (t1, l1, lp1) → j ≤ t1 := fun t1 l1 lp1 h => by
      match hr : r with
      | .inl e => have := c4 e rfl; rw [h] at this; cases this
      | .inr (t0, l0, lp0) =>
        have := (c5 t0 l0 lp0 rfl).2 t1 l1 lp1 h
        omega
    refine wpo_i (fun hc => wpo_s ⟨r2, j, hch2, fun t l lp hr => ?_⟩) (fun hc => ?_)
    · have := few t l lp hr
      rw [hr] at c1
      have := c1.1
      omega
    refine wpo_i (fun hc2 => wpo_s ⟨r2, j, hch2, fun t l lp hr => ?_⟩) (fun hc2 => ?_)
    · rw [hr] at c1
      exact absurd c1.2.2.1 hc2
    match hr2 : r2, c1 with
    | .inl e, c1 =>
      exact absurd c1.2.1 (fun h => hc2 (fun h0 => c1.1 (by rw [← h]; exact h0)))
    | .inr (t1, l1, lp1), c1 =>
      rw [isE hTM c1, Option.bind_some]
      by_cases g : Kt B n nt t1 = ka ∨ Kt B n nt t1 = kc
      · rw [if_pos g]
        have c1' := c1
        obtain ⟨z1, z2, z3, z4, _⟩ := c1'
        refine wpo_n (by decide) (wpo_g (by omega) ?_)
        rw [z4, Int.toNat_natCast, (tkx_at hTM z2).1]
        have hro : ∃ t l lp, r = .inr (t, l, lp) := by
          match r, c4 with
          | .inl e, c4 => have := c4 e rfl; cases this
          | .inr (t0, l0, lp0), _ => exact ⟨t0, l0, lp0, rfl⟩
        have hop : (if Kt B n nt t1 = ka then oa else oc) = oa ∨ (if Kt B n nt t1 = ka then oa else oc) = oc := by
          split
          · exact Or.inl rfl
          · exact Or.inr rfl
        obtain ⟨M', r3, e3, ch3⟩ := chain_step (F := F) (op := if Kt B n nt t1 = ka then oa else oc) hw hro hf2 hkb (by split <;> assumption) hT hpr hch2 rfl (by rcases g with g | g <;> (rw [g]; omega)) rfl (fun W c ht htl => hm1 t1 W c ht htl g) (fun W ht => hm2 W _ hop ht) (fun t2 W c ht he => hm3 t2 W c _ hop ht he)
        rw [e3, Option.bind_some, w32i (by omega) (by omega)]
        exact wpo_s ⟨⟨r3, j + 1, by dsimp only; omega, by omega, ch3⟩, by dsimp only; omega⟩
      · rw [if_neg g]
        refine wpo_g rfl (wpo_s ⟨_, j, hch2, fun t l lp hr he => ?_⟩)
        cases hr
        exact hx _ he (fun h => g (Or.inl h)) (fun h => g (Or.inr h))
theorem rdq_weak {B : Nat → Int} {n nt w b kb kb' t p : Nat} {top top' : List Int → Prop} {ext ext' : Int → Prop} {I I' : MI} {l lp : Int} {r' : Ctl} (h : RdQ B n nt w b top ext kb I t l lp p I' r') (ht : ∀ W, top' W → top W) (hk : kb ≤ kb') (he : ∀ k, ext k → ext' k) : RdQ B n nt w b top' ext' kb' I t l lp p I' r' := by
  match r', h with
  | .inl e, h => exact fun W c hW htp => h W c hW (ht W htp)
  | .inr (t', l', lp'), h =>
    obtain ⟨cA, q1, q2, q3, q4, q5, q6, q7, q8, q9, q10⟩ := h
    exact ⟨cA, q1, q2, q3, q4, q5, q6, q7, bal_mono q8 hk, he _ q9, fun W c hW htp => q10 W c hW (ht W htp)⟩
theorem productX {F n nt w b : Nat} (hF : 1000000 ≤ F) (hw : 10 < w) (hb : b ≤ 6) {B : Nat → Int} {rs : Nat → Int → MI → Option MI} (hrs : b < 6 → RdS B n nt w (b + 1) topS exS (3 + 2 * (6 - (b + 1))) (rs w ((b : Int) + 1))) : RdS B n nt w b topP exP (2 + 2 * (6 - b)) (f_E_readProduct F rs w (b : Int)) := by
  have hu := unitX (F := F) hw hb hrs
  intro I r p hT hC h4 hp hpr
  obtain ⟨I1, r1, e1, a2, a3, a4, a5, a6⟩ := hu I r p hT hC h4 hp hpr
  have ch : ChI B n nt w b topP exT (2 + 2 * (6 - b)) I r p 0 I1 r1 := ⟨a2, a3, a4, a5, fun t l lp hr => ⟨rdq_weak (a6 t l lp hr) (fun _ _ => trivial) (by omega) (fun _ h => h), fun t' l' lp' hr' => by
    have q := a6 t l lp hr
    rw [hr'] at q
    obtain ⟨_, _, _, q3, _⟩ := q
    omega⟩⟩
  obtain ⟨M, r2, e2, b1, b2, b3, b4, b5⟩ := chain_loop (F := F) (ext := exP) (ka := 42) (kc := 47) (oa := 4) (oc := 5) (st := fun s : Int × MI => f_E_readProduct_L8 F rs w (b : Int) s.1 s.2) hF hw hu (by omega) (by omega) (by omega) (by omega) hT hpr ch (fun t1 W c ht ht1 hk => by
      have hs : isStr (Kt B n nt t1) = true := by simp [isStr]; exact hk
      rw [mB_e ht1, if_neg (by omega), if_pos (by simp [isOpK]; omega), hs, popS_P ht]
      by_cases g : Kt B n nt t1 = 42
      · rw [if_pos g, g]; rfl
      · rw [if_neg g, show Kt B n nt t1 = 47 by omega]; rfl) (fun _ _ _ _ => trivial) (fun t2 W c op hop ht2 _ => mB_strong ht2 hop) (fun k _ h1 h2 => ⟨h1, h2⟩) (fun j M => by
      dsimp only
      unfold f_E_readProduct_L8
      by_cases h1 : 400 < (j : Int)
      · rw [if_pos h1, if_pos h1]
      rw [if_neg h1, if_neg h1]
      by_cases h2 : ¬ M 4 2 = 0
      · rw [if_pos h2, if_pos h2]
      rw [if_neg h2, if_neg h2]
      congr 1
      funext q7
      by_cases h3 : q7 = 0
      · rw [if_pos h3, if_pos h3]
      rw [if_neg h3, if_neg h3]
      by_cases h4 : 0 ≤ M 4 1 ∧ M 4 1 < 402
      · rw [if_pos h4, if_pos h4]
        by_cases h5 : M 6 (M 4 1).toNat = 42
        · rw [if_neg (fun z => z h5), if_pos h5]
          unfold f_E_readProduct_b55in8
          rw [if_pos h4]
          simp only [Option.bind_assoc, Option.bind_some]
        · rw [if_pos h5, if_neg h5]
          unfold f_E_readProduct_b55in8
          rw [if_pos h4]
          simp only [Option.bind_assoc, Option.bind_some]
      · rw [if_neg h4, if_neg h4])
  unfold f_E_readProduct
  rw [e1, Option.bind_some, e2, Option.bind_some]
  exact ⟨M, r2, rfl, b1, b2, b3, b4, b5⟩
theorem sumX_o {F n nt w b : Nat} (hF : 1000000 ≤ F) (hw : 10 < w) (hb : b ≤ 6) {B : Nat → Int} {rs : Nat → Int → MI → Option MI} (hrs : b < 6 → RdS B n nt w (b + 1) topS exS (3 + 2 * (6 - (b + 1))) (rs w ((b : Int) + 1))) : RdS B n nt w b topS exS (3 + 2 * (6 - b)) (f_E_readSum_o F rs w (b : Int)) := by
  have hu := productX (F := F) hF hw hb hrs
  intro I r p hT hC h4 hp hpr
  obtain ⟨I1, r1, e1, a2, a3, a4, a5, a6⟩ := hu I r p hT hC h4 hp hpr
  have ch : ChI B n nt w b topS exP (3 + 2 * (6 - b)) I r p 0 I1 r1 := ⟨a2, a3, a4, a5, fun t l lp hr => ⟨rdq_weak (a6 t l lp hr) (fun _ h => topS_P h) (by omega) (fun _ h => h), fun t' l' lp' hr' => by
    have q := a6 t l lp hr
    rw [hr'] at q
    obtain ⟨_, _, _, q3, _⟩ := q
    omega⟩⟩
  obtain ⟨M, r2, e2, b1, b2, b3, b4, b5⟩ := chain_loop (F := F) (ext := exS) (ka := 43) (kc := 45) (oa := 2) (oc := 3) (st := fun s : Int × MI => f_E_readSum_L8 F rs w (b : Int) s.1 s.2) hF hw hu (by omega) (by omega) (by omega) (by omega) hT hpr ch (fun t1 W c ht ht1 hk => by
      rw [mB_e ht1, if_neg (by omega), if_pos (by simp [isOpK]; omega), popS_S ht]
      by_cases g : Kt B n nt t1 = 43
      · rw [if_pos g, g]; rfl
      · rw [if_neg g, show Kt B n nt t1 = 45 by omega]; rfl) (fun W op hop _ => fun w' W' h => by cases h; omega) (fun t2 W c op hop ht2 he => mB_weak ht2 hop he) (fun k he h1 h2 => ⟨he.1, he.2, h1, h2⟩) (fun j M => by
      dsimp only
      unfold f_E_readSum_L8
      by_cases h1 : 400 < (j : Int)
      · rw [if_pos h1, if_pos h1]
      rw [if_neg h1, if_neg h1]
      by_cases h2 : ¬ M 4 2 = 0
      · rw [if_pos h2, if_pos h2]
      rw [if_neg h2, if_neg h2]
      congr 1
      funext q7
      by_cases h3 : q7 = 0
      · rw [if_pos h3, if_pos h3]
      rw [if_neg h3, if_neg h3]
      by_cases h4 : 0 ≤ M 4 1 ∧ M 4 1 < 402
      · rw [if_pos h4, if_pos h4]
        by_cases h5 : M 6 (M 4 1).toNat = 43
        · rw [if_neg (fun z => z h5), if_pos h5]
          unfold f_E_readSum_b55in8
          rw [if_pos h4]
          simp only [Option.bind_assoc, Option.bind_some]
        · rw [if_pos h5, if_neg h5]
          unfold f_E_readSum_b55in8
          rw [if_pos h4]
          simp only [Option.bind_assoc, Option.bind_some]
      · rw [if_neg h4, if_neg h4])
  unfold f_E_readSum_o
  rw [e1, Option.bind_some, e2, Option.bind_some]
  exact ⟨M, r2, rfl, b1, b2, b3, b4, b5⟩
theorem sumX_d {F n nt w : Nat} (hF : 1000000 ≤ F) (hw : 10 < w) {B : Nat → Int} : ∀ (d b : Nat), b ≤ 6 → 7 ≤ b + d → RdS B n nt w b topS exS (3 + 2 * (6 - b)) (f_E_readSum d F w (b : Int)) := by
  intro d
  induction d with
  | zero => intro b hb hd; omega
  | succ d ih =>
    intro b hb hd
    exact sumX_o (rs := fun r x I => f_E_readSum d F r x I) hF hw hb (fun hlt => by
      have := ih (b + 1) (by omega) (by omega)
      rw [show ((b + 1 : Nat) : Int) = (b : Int) + 1 by omega] at this
      exact this)
/-- a whole term -/
def pE (B : Nat → Int) (n nt t : Nat) : (Int × Int) ⊕ (Nat × LCode) := mA (Kt B n nt) (PP B n nt) (Vt B n) t [] []
theorem mB_stop {K P V : Nat → Int} {t : Nat} {c : LCode} (ht : t ≤ 400) (h : exS (K t)) : mB K P V t [] c = .inr (t, c) := by
  unfold exS at h
  rw [mB_e ht, if_neg (fun z => by have := z.2; simp [opens] at this), if_neg (by simp [isOpK, h]), if_neg (by simp [opens])]
  rfl
theorem termX {F n nt w : Nat} (hF : 1000000 ≤ F) (hw : 10 < w) {B : Nat → Int} {I : MI} {r : Ctl} {p : Nat} (hT : TkX I B n nt) (hC : CtX nt I r) (h4 : I w 4 = (p : Int)) (hp : p ≤ 402) (hpr : ∀ t l lp, r = .inr (t, l, lp) → p ≤ t) : ∃ (I' : MI) (r' : Ctl), f_E_readSum 10 F w 0 I = some I' ∧ CtX nt I' r' ∧ FrL w I I' ∧ (∃ p' : Nat, p' ≤ 402 ∧ I' w 4 = (p' : Int)) ∧ (∀ e, r = .inl e → r' = .inl e) ∧ ∀ t l lp, r = .inr (t, l, lp) → (∃ e, pE B n nt t = .inl e ∧ r' = .inl e) ∨ ∃ (t' : Nat) (c : LCode), pE B n nt t = .inr (t', c) ∧ r' = .inr (t', l, lp) ∧ t < t' ∧ I' w 4 = ((p + c.length : Nat) : Int) ∧ c.length + t ≤ t' ∧ SegR (I' (w + 1)) (I' (w + 2)) p c ∧ (∀ j, j < p → I' (w + 1) j = I (w + 1) j ∧ I' (w + 2) j = I (w + 2) j) ∧ BalC 16 c := by
  obtain ⟨I', r', e1, a1, a2, a3, a4, a5⟩ := sumX_d (F := F) (n := n) (nt := nt) (B := B) hF hw 10 0 (by omega) (by omega) I r p hT hC h4 hp hpr
  refine ⟨I', r', e1, a1, a2, a3, a4, fun t l lp hr => ?_⟩
  have q := a5 t l lp hr
  match r', a1, q with
  | .inl e, a1, q => exact Or.inl ⟨e, q [] [] rfl (fun w' W' h => by cases h), rfl⟩
  | .inr (t', l', lp'), a1, q =>
    obtain ⟨cA, q1, q2, q3, q4, q5, q6, q7, q8, q9, q10⟩ := q
    subst q1
    subst q2
    refine Or.inr ⟨t', cA, ?_, rfl, q3, q4, q5, q6, q7, bal_mono q8 (by omega)⟩
    unfold pE
    rw [q10 [] [] rfl (fun w' W' h => by cases h), mB_stop a1.1 q9]
    rfl
