/-! texts: the class reads a law -/
def exA (B : Nat → Int) (n nt : Nat) : Ctl → Ctl × LCode
  | .inl e => (.inl e, [])
  | .inr (t, l, lp) => match pE B n nt t with
    | .inl e => (.inl e, [])
    | .inr (t', c) => (.inr (t', l, lp), c)
def ifA (B : Nat → Int) (n nt : Nat) (r : Ctl) : Ctl × (LCode × LCode × LCode) :=
  let q1 := exA B n nt (takeA (Kt B n nt) (PP B n nt) 264 r)
  let q2 := exA B n nt (takeA (Kt B n nt) (PP B n nt) 60 q1.1)
  let q3 := exA B n nt (takeA (Kt B n nt) (PP B n nt) 265 q2.1)
  (takeA (Kt B n nt) (PP B n nt) 266 q3.1, (q1.2, q2.2, q3.2))
def lawL (B : Nat → Int) (n nt : Nat) : Nat → Nat → Ctl → List (LCode × LCode × LCode) → Ctl × LawT
  | 0, _, r, acc => (r, (acc, []))
  | f + 1, j, r, acc => match r with
    | .inl e => (.inl e, (acc, []))
    | .inr (t, l, lp) => if Kt B n nt t = 264 then (if j = 4 then (.inl (2, PP B n nt t), (acc, [])) else lawL B n nt f (j + 1) (ifA B n nt (.inr (t, l, lp))).1 (acc ++ [(ifA B n nt (.inr (t, l, lp))).2]))
      else (takeA (Kt B n nt) (PP B n nt) 59 (exA B n nt (.inr (t, l, lp))).1, (acc, (exA B n nt (.inr (t, l, lp))).2))
def lawA (B : Nat → Int) (n nt : Nat) (k : Int) (r : Ctl) : Ctl × LawT := lawL B n nt 5 0 (takeA (Kt B n nt) (PP B n nt) 61 (takeA (Kt B n nt) (PP B n nt) k r)) []
theorem takeA_inr {K P : Nat → Int} {k : Int} {r : Ctl} {t : Nat} {l lp : Int} (h : takeA K P k r = .inr (t, l, lp)) : ∃ t0, r = .inr (t0, l, lp) ∧ t = t0 + 1 ∧ K t0 = k ∧ t0 < 400 := by
  match r, h with
  | .inl e, h => cases h
  | .inr (t0, l0, lp0), h =>
    have h' : (if K t0 = k then (if t0 < 400 then Sum.inr (t0 + 1, l0, lp0) else Sum.inl (2, P t0)) else Sum.inl (1, P t0) : Ctl) = .inr (t, l, lp) := h
    by_cases g : K t0 = k
    · rw [if_pos g] at h'
      by_cases g2 : t0 < 400
      · rw [if_pos g2] at h'
        cases h'
        exact ⟨t0, rfl, rfl, g, g2⟩
      · rw [if_neg g2] at h'; cases h'
    · rw [if_neg g] at h'; cases h'
theorem exX {F n nt w : Nat} (hF : 1000000 ≤ F) (hw : 10 < w) {B : Nat → Int} {I : MI} {r : Ctl} {p : Nat} (hT : TkX I B n nt) (hC : CtX nt I r) (h4 : I w 4 = (p : Int)) (hp : p ≤ 402) (hpr : ∀ t l lp, r = .inr (t, l, lp) → p ≤ t) : ∃ I', f_E_readSum 10 F w 0 I = some I' ∧ CtX nt I' (exA B n nt r).1 ∧ FrL w I I' ∧ (∃ p' : Nat, p' ≤ 402 ∧ I' w 4 = (p' : Int)) ∧ ∀ t l lp, (exA B n nt r).1 = .inr (t, l, lp) → ∃ t0, r = .inr (t0, l, lp) ∧ t0 < t ∧ I' w 4 = ((p + (exA B n nt r).2.length : Nat) : Int) ∧ (exA B n nt r).2.length + t0 ≤ t ∧ SegR (I' (w + 1)) (I' (w + 2)) p (exA B n nt r).2 ∧ (∀ j, j < p → I' (w + 1) j = I (w + 1) j ∧ I' (w + 2) j = I (w + 2) j) ∧ BalC 16 (exA B n nt r).2 := by
  obtain ⟨I', r', e1, a1, a2, a3, a4, a5⟩ := termX (F := F) hF hw hT hC h4 hp hpr
  match r, hC, a4, a5 with
  | .inl e, _, a4, a5 =>
    have := a4 e rfl
    subst this
    exact ⟨I', e1, a1, a2, a3, fun t l lp h => by cases h⟩
  | .inr (t, l, lp), _, a4, a5 =>
    rcases a5 t l lp rfl with ⟨e, h1, h2⟩ | ⟨t', c, h1, h2, h3, h4, h5, h6, h7, h8⟩
    · subst h2
      have he : exA B n nt (.inr (t, l, lp)) = (.inl e, []) := by
        show (match pE B n nt t with | .inl e => ((.inl e, []) : Ctl × LCode) | .inr (t', c) => (.inr (t', l, lp), c)) = _
        rw [h1]
      rw [he]
      exact ⟨I', e1, a1, a2, a3, fun t l lp h => by cases h⟩
    · subst h2
      have he : exA B n nt (.inr (t, l, lp)) = (.inr (t', l, lp), c) := by
        show (match pE B n nt t with | .inl e => ((.inl e, []) : Ctl × LCode) | .inr (t', c) => (.inr (t', l, lp), c)) = _
        rw [h1]
      rw [he]
      exact ⟨I', e1, a1, a2, a3, fun t0 l0 lp0 h => by cases h; exact ⟨t, rfl, h3, h4, h5, h6, h7, h8⟩⟩
def flatP : List (LCode × LCode × LCode) → Nat → LCode
  | [], _ => []
  | (c1, c2, c3) :: r, o => c1 ++ c2 ++ [(6, ((o + c1.length + c2.length + 1 + c3.length + 1 : Nat) : Int))] ++ c3 ++ [(7, 0)] ++ flatP r (o + c1.length + c2.length + 1 + c3.length + 1)
theorem flatP_L : ∀ {r : List (LCode × LCode × LCode)} {c : LCode} {o : Nat}, flatL r c o = flatP r o ++ (c ++ [(7, 0)])
  | [], c, o => rfl
  | (c1, c2, c3) :: r, c, o => by
    show c1 ++ c2 ++ [(6, ((o + c1.length + c2.length + 1 + c3.length + 1 : Nat) : Int))] ++ c3 ++ [(7, 0)] ++ flatL r c _ = (c1 ++ c2 ++ [(6, ((o + c1.length + c2.length + 1 + c3.length + 1 : Nat) : Int))] ++ c3 ++ [(7, 0)] ++ flatP r _) ++ _
    rw [flatP_L (r := r)]
    simp only [List.append_assoc]
theorem flatP_1len {q : LCode × LCode × LCode} {o : Nat} : (flatP [q] o).length = q.1.length + q.2.1.length + 1 + q.2.2.length + 1 := by
  obtain ⟨c1, c2, c3⟩ := q
  simp only [flatP, List.length_append, List.length_cons, List.length_nil]
  try omega
theorem flatP_cons {q : LCode × LCode × LCode} {r : List (LCode × LCode × LCode)} {o : Nat} : flatP (q :: r) o = flatP [q] o ++ flatP r (o + (flatP [q] o).length) := by
  rw [flatP_1len]
  obtain ⟨c1, c2, c3⟩ := q
  simp only [flatP, List.append_nil]
  rw [show o + c1.length + c2.length + 1 + c3.length + 1 = o + (c1.length + c2.length + 1 + c3.length + 1) by omega]
theorem flatP_app : ∀ {r : List (LCode × LCode × LCode)} {q : LCode × LCode × LCode} {o : Nat}, flatP (r ++ [q]) o = flatP r o ++ flatP [q] (o + (flatP r o).length)
  | [], q, o => rfl
  | q0 :: r, q, o => by
    have e1 := flatP_cons (q := q0) (r := r) (o := o)
    have e2 := flatP_cons (q := q0) (r := r ++ [q]) (o := o)
    rw [List.cons_append, e2, e1, flatP_app (r := r), List.length_append, List.append_assoc, Nat.add_assoc]
theorem ifX {F n nt w : Nat} (hF : 1000000 ≤ F) (hw : 10 < w) {B : Nat → Int} {x2 : Int} {I : MI} {r : Ctl} {p : Nat} (hT : TkX I B n nt) (hC : CtX nt I r) (h4 : I w 4 = (p : Int)) (hp : p ≤ 402) (hpr : ∀ t l lp, r = .inr (t, l, lp) → p ≤ t) : ∃ I', f_E_readLaw_b68in28 F w x2 I = some (.inr (w32 (x2 + 1), I')) ∧ CtX nt I' (ifA B n nt r).1 ∧ FrL w I I' ∧ (∃ p' : Nat, p' ≤ 402 ∧ I' w 4 = (p' : Int)) ∧ ∀ t l lp, (ifA B n nt r).1 = .inr (t, l, lp) → ∃ t0, r = .inr (t0, l, lp) ∧ t0 < t ∧ I' w 4 = ((p + (flatP [(ifA B n nt r).2] p).length : Nat) : Int) ∧ (flatP [(ifA B n nt r).2] p).length + t0 ≤ t ∧ SegR (I' (w + 1)) (I' (w + 2)) p (flatP [(ifA B n nt r).2] p) ∧ (∀ j, j < p → I' (w + 1) j = I (w + 1) j ∧ I' (w + 2) j = I (w + 2) j) ∧ BalC 16 (ifA B n nt r).2.1 ∧ BalC 16 (ifA B n nt r).2.2.1 ∧ BalC 16 (ifA B n nt r).2.2.2 := by
  unfold f_E_readLaw_b68in28
  obtain ⟨M1, e1, a1, f1⟩ := takeX (F := F) (k := 264) hT hC (by decide)
  have g1 := fr4_L (w := w) (by omega) f1
  have p1 : M1 w 4 = (p : Int) := by rw [f1.1 w (by omega)]; exact h4
  obtain ⟨M2, e2, a2, f2, ⟨p2, b2, b2'⟩, d2⟩ := exX (F := F) hF hw (tkx_L hw hT g1) a1 p1 hp (fun t l lp h => by
    obtain ⟨t0, h1, h2, _⟩ := takeA_inr h
    have := hpr t0 l lp h1
    omega)
  have g2 := frL_trans g1 f2
  obtain ⟨M3, e3, a3, f3⟩ := takeX (F := F) (k := 60) (tkx_L hw hT g2) a2 (by decide)
  have g3 := frL_trans g2 (fr4_L (w := w) (by omega) f3)
  have p3 : M3 w 4 = (p2 : Int) := by rw [f3.1 w (by omega)]; exact b2'
  -- while it is open, so many steps and so many tokens
  have k3 : ∀ t l lp, takeA (Kt B n nt) (PP B n nt) 60 (exA B n nt (takeA (Kt B n nt) (PP B n nt) 264 r)).1 = .inr (t, l, lp) → p2 ≤ t := fun t l lp h => by
    obtain ⟨t1, h1, h2, _⟩ := takeA_inr h
    obtain ⟨t2, h3, h4', h5, h6, _⟩ := d2 t1 l lp h1
    obtain ⟨t3, h7, h8, _⟩ := takeA_inr h3
    have := hpr t3 l lp h7
    rw [b2'] at h5
    omega
  obtain ⟨M4, e4, a4, f4, ⟨p4, b4, b4'⟩, d4⟩ := exX (F := F) hF hw (tkx_L hw hT g3) a3 p3 b2 k3
  have g4 := frL_trans g3 f4
  obtain ⟨M5, e5, a5, f5⟩ := takeX (F := F) (k := 265) (tkx_L hw hT g4) a4 (by decide)
  have g5 := frL_trans g4 (fr4_L (w := w) (by omega) f5)
  have p5 : M5 w 4 = (p4 : Int) := by rw [f5.1 w (by omega)]; exact b4'
  obtain ⟨v6, M6, p6, e6, b6, b6', f6, f6', d6⟩ := putX (F := F) (op := 6) (x := 0) p5 b4
  have g6 := frL_trans g5 (put_L hw f6 f6')
  have a6 := cx_put hw a5 f6
  have k5 : ∀ t l lp, takeA (Kt B n nt) (PP B n nt) 265 (exA B n nt (takeA (Kt B n nt) (PP B n nt) 60 (exA B n nt (takeA (Kt B n nt) (PP B n nt) 264 r)).1)).1 = .inr (t, l, lp) → p4 + 1 ≤ t ∧ t ≤ 400 := fun t l lp h => by
    obtain ⟨t1, h1, h2, _, h400⟩ := takeA_inr h
    obtain ⟨t2, h3, h4', h5, h6, _⟩ := d4 t1 l lp h1
    have := k3 t2 l lp h3
    rw [b4'] at h5
    omega
  obtain ⟨M7, e7, a7, f7, ⟨p7, b7, b7'⟩, d7⟩ := exX (F := F) hF hw (tkx_L hw hT g6) a6 b6' b6 (fun t l lp h => by
    have h1 := k5 t l lp h
    have h2 := (d6 (by omega)).2.1
    omega)
  have g7 := frL_trans g6 f7
  obtain ⟨M8, e8, a8, f8⟩ := takeX (F := F) (k := 266) (tkx_L hw hT g7) a7 (by decide)
  have g8 := frL_trans g7 (fr4_L (w := w) (by omega) f8)
  have p8 : M8 w 4 = (p7 : Int) := by rw [f8.1 w (by omega)]; exact b7'
  obtain ⟨v9, M9, p9, e9, b9, b9', f9, f9', d9⟩ := putX (F := F) (op := 7) (x := 0) p8 b7
  have g9 := frL_trans g8 (put_L hw f9 f9')
  have a9 := cx_put hw a8 f9
  -- the aim
  obtain ⟨M10, e10, f10, f10', d10⟩ : ∃ M10, f_W_aimAtEnd F w v6 M9 = some M10 ∧ (∀ a, a ≠ w + 2 → M10 a = M9 a) ∧ (∀ j : Nat, (j : Int) ≠ v6 → M10 (w + 2) j = M9 (w + 2) j) ∧ (∀ u : Nat, v6 = (u : Int) → u < p9 → M10 (w + 2) u = (p9 : Int)) := by
    unfold f_W_aimAtEnd
    by_cases h1 : v6 < 0
    · rw [if_pos h1]
      exact ⟨M9, rfl, fun _ _ => rfl, fun _ _ => rfl, fun u h2 => by omega⟩
    · rw [if_neg h1, b9']
      by_cases h2 : (p9 : Int) ≤ v6
      · rw [if_pos h2]
        exact ⟨M9, rfl, fun _ _ => rfl, fun _ _ => rfl, fun u h3 h5 => by omega⟩
      · rw [if_neg h2, if_pos (by omega)]
        refine ⟨_, rfl, fun a ha => up2_off ha, fun j hj => up2_k (by omega), fun u h3 h5 => ?_⟩
        rw [show v6.toNat = u by omega, up2_same]
  have g10 : FrL w I M10 := frL_trans g9 ⟨fun a c1 c2 c3 c4 => f10 a c4, fun j _ _ _ => by rw [f10 4 (by omega)], fun k _ => by rw [f10 w (by omega)]⟩
  have a10 := cx_put (I' := M10) hw a9 (fun a c1 c2 c3 => f10 a c3)
  refine ⟨M10, ?_, a10, g10, ⟨p9, b9, by rw [f10 w (by omega)]; exact b9'⟩, fun t l lp h => ?_⟩
  · rw [e1, Option.bind_some, e2, Option.bind_some, e3, Option.bind_some, e4, Option.bind_some, e5, Option.bind_some, e6, Option.bind_some]
    dsimp only
    rw [e7, Option.bind_some, e8, Option.bind_some, e9, Option.bind_some]
    dsimp only
    rw [e10, Option.bind_some]
  · -- it stayed open
    have hlen := flatP_1len (q := (ifA B n nt r).2) (o := p)
    have hdef : (ifA B n nt r).2 = ((exA B n nt (takeA (Kt B n nt) (PP B n nt) 264 r)).2, (exA B n nt (takeA (Kt B n nt) (PP B n nt) 60 (exA B n nt (takeA (Kt B n nt) (PP B n nt) 264 r)).1)).2, (exA B n nt (takeA (Kt B n nt) (PP B n nt) 265 (exA B n nt (takeA (Kt B n nt) (PP B n nt) 60 (exA B n nt (takeA (Kt B n nt) (PP B n nt) 264 r)).1)).1)).2) := rfl
    have h' : takeA (Kt B n nt) (PP B n nt) 266 (exA B n nt (takeA (Kt B n nt) (PP B n nt) 265 (exA B n nt (takeA (Kt B n nt) (PP B n nt) 60 (exA B n nt (takeA (Kt B n nt) (PP B n nt) 264 r)).1)).1)).1 = .inr (t, l, lp) := h
    obtain ⟨t8, h8, h8', _, h400⟩ := takeA_inr h'
    obtain ⟨t7, h7, c1, c2, c3, c4, c5, c6⟩ := d7 t8 l lp h8
    have kk := k5 t7 l lp h7
    obtain ⟨t5, h5, h5', _⟩ := takeA_inr h7
    obtain ⟨t4, h4', x1, x2, x3, x4, x5, x6⟩ := d4 t5 l lp h5
    obtain ⟨t3, h3, h3', _⟩ := takeA_inr h4'
    obtain ⟨t2, h2, y1, y2, y3, y4, y5, y6⟩ := d2 t3 l lp h3
    obtain ⟨t0, h0, h0', _⟩ := takeA_inr h2
    have hpt := hpr t0 l lp h0
    obtain ⟨w1, w2, w3, w4, w5⟩ := d6 (by omega)
    rw [hdef]
    generalize (exA B n nt (takeA (Kt B n nt) (PP B n nt) 265 (exA B n nt (takeA (Kt B n nt) (PP B n nt) 60 (exA B n nt (takeA (Kt B n nt) (PP B n nt) 264 r)).1)).1)).2 = cc3 at *
    generalize (exA B n nt (takeA (Kt B n nt) (PP B n nt) 60 (exA B n nt (takeA (Kt B n nt) (PP B n nt) 264 r)).1)).2 = cc2 at *
    generalize (exA B n nt (takeA (Kt B n nt) (PP B n nt) 264 r)).2 = cc1 at *
    rw [hdef] at hlen
    dsimp only at hlen
    have q2 : p2 = p + cc1.length := by rw [b2'] at y2; omega
    have q4 : p4 = p2 + cc2.length := by rw [b4'] at x2; omega
    have q7 : p7 = p6 + cc3.length := by rw [b7'] at c2; omega
    obtain ⟨z1, z2, z3, z4, z5⟩ := d9 (by omega)
    have lo1 : ∀ j, j < p7 → M10 (w + 1) j = M7 (w + 1) j ∧ (j ≠ p4 → M10 (w + 2) j = M7 (w + 2) j) := fun j hj => by
      rw [f10 (w + 1) (by omega), (z5 j (by omega)).1, f8.1 (w + 1) (by omega)]
      refine ⟨rfl, fun hne => ?_⟩
      rw [f10' j (by omega), (z5 j (by omega)).2, f8.1 (w + 2) (by omega)]
    have lo2 : ∀ j, j < p4 → M10 (w + 1) j = M4 (w + 1) j ∧ M10 (w + 2) j = M4 (w + 2) j := fun j hj => by
      obtain ⟨u1, u2⟩ := lo1 j (by omega)
      rw [u1, u2 (by omega), (c5 j (by omega)).1, (c5 j (by omega)).2, (w5 j (by omega)).1, (w5 j (by omega)).2, f5.1 (w + 1) (by omega), f5.1 (w + 2) (by omega)]
      exact ⟨rfl, rfl⟩
    have lo3 : ∀ j, j < p2 → M10 (w + 1) j = M2 (w + 1) j ∧ M10 (w + 2) j = M2 (w + 2) j := fun j hj => by
      obtain ⟨u1, u2⟩ := lo2 j (by omega)
      rw [u1, u2, (x5 j hj).1, (x5 j hj).2, f3.1 (w + 1) (by omega), f3.1 (w + 2) (by omega)]
      exact ⟨rfl, rfl⟩
    refine ⟨t0, h0, by omega, by rw [f10 w (by omega), b9']; omega, by omega, ?_, fun j hj => ?_, y6, x6, c6⟩
    · show SegR _ _ p (cc1 ++ cc2 ++ [(6, ((p + cc1.length + cc2.length + 1 + cc3.length + 1 : Nat) : Int))] ++ cc3 ++ [(7, 0)] ++ [])
      rw [List.append_nil, seg_app, seg_app, seg_app, seg_app]
      refine ⟨⟨⟨⟨?_, ?_⟩, ?_⟩, ?_⟩, ?_⟩
      · exact seg_congr y4 (fun k h1 h2 => (lo3 k (by omega)).1) (fun k h1 h2 => (lo3 k (by omega)).2)
      · rw [← q2]
        exact seg_congr x4 (fun k h1 h2 => (lo2 k (by omega)).1) (fun k h1 h2 => (lo2 k (by omega)).2)
      · have e : p + (cc1 ++ cc2).length = p4 := by simp only [List.length_append]; omega
        rw [e]
        refine ⟨?_, ?_, trivial⟩
        · rw [(lo1 p4 (by omega)).1, (c5 p4 (by omega)).1]; exact w3
        · rw [d10 p4 w1 (by omega)]; omega
      · have e : p + (cc1 ++ cc2 ++ [((6 : Int), ((p + cc1.length + cc2.length + 1 + cc3.length + 1 : Nat) : Int))]).length = p6 := by simp only [List.length_append, List.length_cons, List.length_nil]; omega
        rw [e]
        exact seg_congr c4 (fun k h1 h2 => (lo1 k (by omega)).1) (fun k h1 h2 => (lo1 k (by omega)).2 (by omega))
      · have e : p + (cc1 ++ cc2 ++ [((6 : Int), ((p + cc1.length + cc2.length + 1 + cc3.length + 1 : Nat) : Int))] ++ cc3).length = p7 := by simp only [List.length_append, List.length_cons, List.length_nil]; omega
        rw [e]
        refine ⟨?_, ?_, trivial⟩
        · rw [f10 (w + 1) (by omega)]; exact z3
        · rw [f10' p7 (by omega)]; exact z4
    · obtain ⟨u1, u2⟩ := lo3 j (by omega)
      rw [u1, u2, (y5 j hj).1, (y5 j hj).2, f1.1 (w + 1) (by omega), f1.1 (w + 2) (by omega)]
      exact ⟨rfl, rfl⟩
