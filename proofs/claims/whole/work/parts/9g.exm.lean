/-! texts: the model's terms, what waits -/
def wdR (a : Nat) : Nat := if a ≤ 307 then 1 else if a = 308 then 96 else if a = 309 then 8 else if a ≤ 311 then 1 else if a ≤ 315 then 8 else if a = 316 then 1 else if a ≤ 318 then 8 else if a ≤ 320 then 2 else if a ≤ 325 then 130 else 420
/-- the other half stays -/
def OthM (h : Nat) (I I' : MI) : Prop := ∀ a, 305 ≤ a → a ≤ 327 → ∀ k, (k < wdR a * h ∨ wdR a * h + wdR a ≤ k) → I' a k = I a k
theorem othM_refl {h : Nat} {I : MI} : OthM h I I := fun _ _ _ _ _ => rfl
theorem othM_trans {h : Nat} {I I' I2 : MI} (a : OthM h I I') (b : OthM h I' I2) : OthM h I I2 := fun x h1 h2 k h3 => (b x h1 h2 k h3).trans (a x h1 h2 k h3)
theorem othM_put {h a k : Nat} {v : Int} {I : MI} (hk : 305 ≤ a ∧ a ≤ 327 → wdR a * h ≤ k ∧ k < wdR a * h + wdR a) : OthM h I (up2 I a k v) := fun x h1 h2 j h3 => by
  by_cases e : x = a
  · subst e
    have := hk ⟨h1, h2⟩
    exact up2_k (by omega)
  · exact up2_r e
def keyE (k : Nat) : Prop := (11 ≤ k ∧ k ≤ 16) ∨ k = 44 ∨ k = 48
/-- frames of a term -/
def FrE (p0 h : Nat) (I I' : MI) : Prop := (∀ a, a ≠ 296 → a ≠ 326 → a ≠ 327 → a ≠ 328 → I' a = I a) ∧ (∀ k, (k < p0 ∨ 420 * h + 420 ≤ k) → I' 326 k = I 326 k ∧ I' 327 k = I 327 k) ∧ ∀ k, ¬ keyE k → I' 296 k = I 296 k
theorem frE_refl {p0 h : Nat} {I : MI} : FrE p0 h I I := ⟨fun _ _ _ _ _ => rfl, fun _ _ => ⟨rfl, rfl⟩, fun _ _ => rfl⟩
theorem frE_trans {p0 p1 h : Nat} {I I' I2 : MI} (hp : p0 ≤ p1) (a : FrE p0 h I I') (b : FrE p1 h I' I2) : FrE p0 h I I2 := ⟨fun x h1 h2 h3 h4 => (b.1 x h1 h2 h3 h4).trans (a.1 x h1 h2 h3 h4), fun k hk => ⟨(b.2.1 k (by omega)).1.trans (a.2.1 k hk).1, (b.2.1 k (by omega)).2.trans (a.2.1 k hk).2⟩, fun k hk => (b.2.2 k hk).trans (a.2.2 k hk)⟩
theorem fr5_E {p0 h : Nat} {I I' : MI} (a : Fr5 I I') : FrE p0 h I I' := ⟨fun x h1 _ _ _ => a.1 x h1, fun k _ => ⟨by rw [a.1 326 (by decide)], by rw [a.1 327 (by decide)]⟩, fun k hk => a.2 k (by unfold keyE at hk; omega) (by unfold keyE at hk; omega) (by unfold keyE at hk; omega) (by unfold keyE at hk; omega) (by unfold keyE at hk; omega)⟩
theorem frE_key {p0 h k : Nat} {v : Int} {I : MI} (hk : keyE k) : FrE p0 h I (up2 I 296 k v) := ⟨fun x h1 _ _ _ => up2_off h1, fun j _ => ⟨by rw [up2_off (by decide)], by rw [up2_off (by decide)]⟩, fun j hj => up2_k (fun e => hj (by rw [e]; exact hk))⟩
theorem frE_328 {p0 h k : Nat} {v : Int} {I : MI} : FrE p0 h I (up2 I 328 k v) := ⟨fun x h1 _ _ h4 => up2_off h4, fun j _ => ⟨by rw [up2_off (by decide)], by rw [up2_off (by decide)]⟩, fun j _ => by rw [up2_r (by decide)]⟩
theorem tkm_E {p0 h : Nat} {I I' J : MI} {B : Nat → Int} {n nt : Nat} (hT : TkM I J B n nt) (hf : FrE p0 h I I') : TkM I' J B n nt := tkm_congr hT (fun a b1 b2 => hf.1 a (by omega) (by omega) (by omega) (by omega)) rfl
/-! the stack of what waits -/
def wc (w : Int) : Int := if w = 2 then 8 else if w = 3 then 9 else if w = 4 then 10 else if w = 5 then 15 else 6
def okW : List Int → Prop
  | [] => True
  | w :: W => okW W ∧ (w = 6 ∨ ((w = 2 ∨ w = 3) ∧ topS W) ∨ ((w = 4 ∨ w = 5) ∧ topP W))
theorem okW_len : ∀ {W : List Int}, okW W → W.length ≤ 3 * opens W + 2 ∧ (topP W → W.length ≤ 3 * opens W + 1) ∧ (topS W → W.length ≤ 3 * opens W)
  | [], _ => ⟨by simp [opens], fun _ => by simp [opens], fun _ => by simp [opens]⟩
  | w :: W, h => by
    obtain ⟨h1, h2⟩ := h
    obtain ⟨i1, i2, i3⟩ := okW_len h1
    rcases h2 with e | ⟨e, ht⟩ | ⟨e, ht⟩
    · subst e
      rw [opens_6, List.length_cons]
      exact ⟨by omega, fun _ => by omega, fun _ => by omega⟩
    · have := i3 ht
      rw [opens_cons (by omega), List.length_cons]
      refine ⟨by omega, fun _ => by omega, fun hs => ?_⟩
      have := hs w W rfl
      omega
    · have := i2 ht
      rw [opens_cons (by omega), List.length_cons]
      refine ⟨by omega, fun hp => ?_, fun hs => ?_⟩
      · have := hp w W rfl
        omega
      · have := hs w W rfl
        omega
theorem popS_opens {s : Bool} : ∀ {W : List Int} {c : LCode}, opens (popS s W c).1 = opens W
  | [], _ => rfl
  | w :: W, c => by
    show opens (if w = 6 ∨ (s = true ∧ (w = 2 ∨ w = 3)) then (w :: W, c) else popS s W (c ++ [(w, 0)])).1 = _
    split
    · rfl
    · rw [popS_opens, opens_cons (by omega)]
theorem popS_top {s : Bool} : ∀ {W : List Int} {c : LCode}, okW W → okW (popS s W c).1 ∧ (s = false → topS (popS s W c).1) ∧ topP (popS s W c).1
  | [], _, _ => ⟨trivial, fun _ w W' e => (by cases e), fun w W' e => (by cases e)⟩
  | w :: W, c, h => by
    show okW (if w = 6 ∨ (s = true ∧ (w = 2 ∨ w = 3)) then (w :: W, c) else popS s W (c ++ [(w, 0)])).1 ∧ (s = false → topS (if w = 6 ∨ (s = true ∧ (w = 2 ∨ w = 3)) then (w :: W, c) else popS s W (c ++ [(w, 0)])).1) ∧ topP (if w = 6 ∨ (s = true ∧ (w = 2 ∨ w = 3)) then (w :: W, c) else popS s W (c ++ [(w, 0)])).1
    by_cases g : w = 6 ∨ (s = true ∧ (w = 2 ∨ w = 3))
    · rw [if_pos g]
      refine ⟨h, fun hs x W' e => ?_, fun x W' e => ?_⟩
      · cases e
        rcases g with g | ⟨g, _⟩
        · exact g
        · rw [hs] at g; cases g
      · cases e
        rcases g with g | ⟨_, g⟩
        · exact Or.inl g
        · omega
    · rw [if_neg g]
      exact popS_top h.1
theorem popS_len {s : Bool} : ∀ {W : List Int} {c : LCode}, (popS s W c).1.length + (popS s W c).2.length = W.length + c.length
  | [], _ => rfl
  | w :: W, c => by
    show (if w = 6 ∨ (s = true ∧ (w = 2 ∨ w = 3)) then (w :: W, c) else popS s W (c ++ [(w, 0)])).1.length + (if w = 6 ∨ (s = true ∧ (w = 2 ∨ w = 3)) then (w :: W, c) else popS s W (c ++ [(w, 0)])).2.length = _
    split
    · rfl
    · rw [popS_len]
      simp only [List.length_cons, List.length_append, List.length_nil]
      omega
/-- a term in the middle -/
def CfE (p0 h : Nat) (I0 I : MI) (W : List Int) (c : LCode) : Prop := FrE p0 h I0 I ∧ I 296 12 = ((opens W : Nat) : Int) ∧ I 296 48 = ((W.length : Nat) : Int) ∧ StkR (I 328) (W.map wc) ∧ I 296 44 = ((p0 + c.length : Nat) : Int) ∧ SegR (I 326) (I 327) p0 c ∧ okW W ∧ opens W ≤ 6
theorem cfe_len {p0 h : Nat} {I0 I : MI} {W : List Int} {c : LCode} (H : CfE p0 h I0 I W c) : W.length ≤ 20 := by
  have := (okW_len H.2.2.2.2.2.2.1).1
  have := H.2.2.2.2.2.2.2
  omega
theorem cfe_5 {p0 h : Nat} {I0 I I' : MI} {W : List Int} {c : LCode} (H : CfE p0 h I0 I W c) (hf : Fr5 I I') : CfE p0 h I0 I' W c := by
  obtain ⟨h1, h2, h3, h4, h5, h6, h7, h8⟩ := H
  refine ⟨frE_trans (Nat.le_refl _) h1 (fr5_E hf), by rw [hf.2 12 (by decide) (by decide) (by decide) (by decide) (by decide)]; exact h2, by rw [hf.2 48 (by decide) (by decide) (by decide) (by decide) (by decide)]; exact h3, by rw [hf.1 328 (by decide)]; exact h4, by rw [hf.2 44 (by decide) (by decide) (by decide) (by decide) (by decide)]; exact h5, by rw [hf.1 326 (by decide), hf.1 327 (by decide)]; exact h6, h7, h8⟩
theorem emitM {F p : Nat} {a b : Int} {I J : MI} (h : I 296 44 = (p : Int)) (hp : p < 840) : f_M_emit F a b I J = some (up2 (up2 (up2 I 326 p a) 327 p b) 296 44 ((p + 1 : Nat) : Int)) := by
  have e1 : up2 I 326 p a 296 44 = (p : Int) := by rw [up2_r (by decide)]; exact h
  have e2 : up2 (up2 I 326 p a) 327 p b 296 44 = (p : Int) := by rw [up2_r (by decide)]; exact e1
  unfold f_M_emit
  rw [h, if_pos (by omega), Int.toNat_natCast, e1, if_pos (by omega), Int.toNat_natCast, e2, w32i (by omega) (by omega)]
  rfl
/-- a step of the law is laid -/
theorem cfe_emit {p0 h : Nat} {I0 I : MI} {W : List Int} {c : LCode} {a b : Int} (H : CfE p0 h I0 I W c) (hb : p0 + c.length < 420 * h + 420) : CfE p0 h I0 (up2 (up2 (up2 I 326 (p0 + c.length) a) 327 (p0 + c.length) b) 296 44 ((p0 + c.length + 1 : Nat) : Int)) W (c ++ [(a, b)]) := by
  obtain ⟨h1, h2, h3, h4, h5, h6, h7, h8⟩ := H
  have z : ∀ k, k ≠ 44 → up2 (up2 (up2 I 326 (p0 + c.length) a) 327 (p0 + c.length) b) 296 44 ((p0 + c.length + 1 : Nat) : Int) 296 k = I 296 k := fun k hk => by rw [up2_k hk, up2_r (by decide), up2_r (by decide)]
  have z6 : ∀ k, k ≠ p0 + c.length → up2 (up2 (up2 I 326 (p0 + c.length) a) 327 (p0 + c.length) b) 296 44 ((p0 + c.length + 1 : Nat) : Int) 326 k = I 326 k := fun k hk => by rw [up2_r (by decide), up2_r (by decide), up2_k hk]
  have z7 : ∀ k, k ≠ p0 + c.length → up2 (up2 (up2 I 326 (p0 + c.length) a) 327 (p0 + c.length) b) 296 44 ((p0 + c.length + 1 : Nat) : Int) 327 k = I 327 k := fun k hk => by rw [up2_r (by decide), up2_k hk, up2_r (by decide)]
  have zo : ∀ x, x ≠ 296 → x ≠ 326 → x ≠ 327 → up2 (up2 (up2 I 326 (p0 + c.length) a) 327 (p0 + c.length) b) 296 44 ((p0 + c.length + 1 : Nat) : Int) x = I x := fun x b1 b2 b3 => by rw [up2_off b1, up2_off b3, up2_off b2]
  refine ⟨frE_trans (Nat.le_refl _) h1 ⟨fun x b1 b2 b3 b4 => zo x b1 b2 b3, fun k hk => ⟨z6 k (by omega), z7 k (by omega)⟩, fun k hk => z k (by unfold keyE at hk; omega)⟩, by rw [z 12 (by decide)]; exact h2, by rw [z 48 (by decide)]; exact h3, by rw [zo 328 (by decide) (by decide) (by decide)]; exact h4, by rw [up2_same, List.length_append]; simp only [List.length_cons, List.length_nil]; omega, seg_app.mpr ⟨seg_congr h6 (fun k b1 b2 => z6 k (by omega)) (fun k b1 b2 => z7 k (by omega)), ?_, ?_, trivial⟩, h7, h8⟩
  · rw [up2_r (by decide), up2_r (by decide), up2_same]
  · rw [up2_r (by decide), up2_same]
/-- the top goes -/
theorem cfe_pop {p0 h : Nat} {I0 I : MI} {W : List Int} {w : Int} {c : LCode} (H : CfE p0 h I0 I (w :: W) c) (h6 : w ≠ 6) : CfE p0 h I0 (up2 I 296 48 ((W.length : Nat) : Int)) W c := by
  obtain ⟨h1, h2, h3, h4, h5, h6', h7, h8⟩ := H
  rw [opens_cons h6] at h2 h8
  exact ⟨frE_trans (Nat.le_refl _) h1 (frE_key (Or.inr (Or.inr rfl))), by rw [up2_k (by decide)]; exact h2, up2_same, by rw [up2_off (by decide)]; exact h4.2, by rw [up2_k (by decide)]; exact h5, by rw [up2_off (by decide), up2_off (by decide)]; exact h6', h7.1, h8⟩
theorem outM {F p0 h : Nat} {I0 I J : MI} {W : List Int} {c : LCode} {s : Bool} {x : Int} (hF : 1000000 ≤ F) (hx : x = if s = true then 1 else 0) (H : CfE p0 h I0 I W c) (hh : h < 2) (hb : p0 + c.length + W.length ≤ 420 * h + 420) : ∃ I', f_M_comesOut F x I J = some I' ∧ CfE p0 h I0 I' (popS s W c).1 (popS s W c).2 ∧ ∀ k, k ≠ 44 → k ≠ 48 → I' 296 k = I 296 k := by
  have key := wpo_iter (step := fun q : MI => f_M_comesOut_L0 F x q J) (Q := fun e => ∃ I', (e = .inl I' ∨ e = .inr I') ∧ CfE p0 h I0 I' (popS s W c).1 (popS s W c).2 ∧ ∀ k, k ≠ 44 → k ≠ 48 → I' 296 k = I 296 k) (fun N => ∃ W' c', CfE p0 h I0 N W' c' ∧ p0 + c'.length + W'.length ≤ 420 * h + 420 ∧ popS s W' c' = popS s W c ∧ ∀ k, k ≠ 44 → k ≠ 48 → N 296 k = I 296 k) (fun N => (N 296 48).toNat) ?_ (F := F) (s := I) (by rw [H.2.2.1]; have := cfe_len H; omega) ⟨W, c, H, hb, rfl, fun _ _ _ => rfl⟩
  · obtain ⟨e, e1, I', q1, q2, q3⟩ := key
    unfold f_M_comesOut
    rw [e1]
    rcases q1 with q1 | q1
    · subst q1; exact ⟨I', rfl, q2, q3⟩
    · subst q1; exact ⟨I', rfl, q2, q3⟩
  rintro N ⟨W', c', a1, a2, a3, a4⟩
  have h48 := a1.2.2.1
  have hst := a1.2.2.2.1
  have hlen := cfe_len a1
  unfold f_M_comesOut_L0
  match W', a1, a2, a3, h48, hst, hlen with
  | [], a1, a2, a3, h48, hst, hlen =>
    rw [h48]
    refine wpo_g (by simp) (wpo_s ⟨N, Or.inr rfl, ?_, a4⟩)
    rw [← a3]; exact a1
  | w :: W'', a1, a2, a3, h48, hst, hlen =>
    simp only [List.length_cons] at h48 hlen a2
    have e1 : N 296 48 - 1 = ((W''.length : Nat) : Int) := by omega
    have hw6 := a1.2.2.2.2.2.2.1.2
    have htop : N 328 W''.length = wc w := by
      have := hst.1
      rw [List.length_map] at this
      exact this
    rw [e1, w32i (by omega) (by omega)]
    refine wpo_n (by omega) (wpo_g (by omega) ?_)
    rw [Int.toNat_natCast, htop]
    -- it comes out
    have out : w ≠ 6 → popS s (w :: W'') c' = popS s W'' (c' ++ [(w, 0)]) → wpo (f_M_comesOut_b42in0 F x (wc w) N J) (fun r => Sum.elim (fun e => ∃ I', (e = .inl I' ∨ e = .inr I') ∧ CfE p0 h I0 I' (popS s W c).1 (popS s W c).2 ∧ ∀ k, k ≠ 44 → k ≠ 48 → I' 296 k = I 296 k) (fun s' => (∃ W' c', CfE p0 h I0 s' W' c' ∧ p0 + c'.length + W'.length ≤ 420 * h + 420 ∧ popS s W' c' = popS s W c ∧ ∀ k, k ≠ 44 → k ≠ 48 → s' 296 k = I 296 k) ∧ (s' 296 48).toNat < (N 296 48).toNat) r) := by
      intro w6 hp
      have hop : ∀ v : Int, v = w → wpo (f_M_comesOut_b84in0 F x v (up2 N 296 48 ((W''.length : Nat) : Int)) J) (fun r => Sum.elim (fun e => ∃ I', (e = .inl I' ∨ e = .inr I') ∧ CfE p0 h I0 I' (popS s W c).1 (popS s W c).2 ∧ ∀ k, k ≠ 44 → k ≠ 48 → I' 296 k = I 296 k) (fun s' => (∃ W' c', CfE p0 h I0 s' W' c' ∧ p0 + c'.length + W'.length ≤ 420 * h + 420 ∧ popS s W' c' = popS s W c ∧ ∀ k, k ≠ 44 → k ≠ 48 → s' 296 k = I 296 k) ∧ (s' 296 48).toNat < (N 296 48).toNat) r) := by
        intro v hv
        subst hv
        have b1 := cfe_pop a1 w6
        unfold f_M_comesOut_b84in0
        rw [emitM b1.2.2.2.2.1 (by omega), Option.bind_some]
        refine wpo_s ⟨⟨W'', c' ++ [(v, 0)], cfe_emit b1 (by omega), by rw [List.length_append]; simp only [List.length_cons, List.length_nil]; omega, by rw [← hp]; exact a3, fun k k1 k2 => ?_⟩, ?_⟩
        · rw [up2_k k1, up2_r (by decide), up2_r (by decide), up2_k k2]; exact a4 k k1 k2
        · rw [up2_k (by decide), up2_r (by decide), up2_r (by decide), up2_same]; omega
      unfold f_M_comesOut_b42in0
      rw [e1, w32i (by omega) (by omega)]
      have h4 : w = 2 ∨ w = 3 ∨ w = 4 ∨ w = 5 := by omega
      rcases h4 with e | e | e | e
      · subst e
        exact wpo_n (by decide) (hop 2 rfl)
      · subst e
        exact wpo_g (by decide) (wpo_n (by decide) (hop 3 rfl))
      · subst e
        exact wpo_g (by decide) (wpo_g (by decide) (wpo_n (by decide) (hop 4 rfl)))
      · subst e
        exact wpo_g (by decide) (wpo_g (by decide) (wpo_g (by decide) (hop 5 rfl)))
    have stay : popS s (w :: W'') c' = (w :: W'', c') → ∃ I', ((Sum.inl N : MI ⊕ MI) = .inl I' ∨ (Sum.inl N : MI ⊕ MI) = .inr I') ∧ CfE p0 h I0 I' (popS s W c).1 (popS s W c).2 ∧ ∀ k, k ≠ 44 → k ≠ 48 → I' 296 k = I 296 k := fun hp => ⟨N, Or.inl rfl, by rw [← a3, hp]; exact a1, a4⟩
    by_cases g6 : w = 6
    · subst g6
      exact wpo_g (by decide) (wpo_s (stay popS_6))
    have n6 : ¬ wc w = 6 := by
      unfold wc
      omega
    refine wpo_n n6 ?_
    cases s with
    | false =>
      refine wpo_g (by rw [hx]; rfl) (out g6 (popS_op g6 (fun h => by cases h)))
    | true =>
      refine wpo_n (by rw [hx]; decide) ?_
      by_cases g8 : w = 2
      · subst g8
        exact wpo_g (by decide) (wpo_s (stay (if_pos (Or.inr ⟨rfl, Or.inl rfl⟩))))
      by_cases g9 : w = 3
      · subst g9
        exact wpo_n (by decide) (wpo_n (by decide) (wpo_s (stay (if_pos (Or.inr ⟨rfl, Or.inr rfl⟩)))))
      refine wpo_n (by unfold wc; omega) (wpo_g (by unfold wc; omega) (out g6 (popS_op g6 (fun _ => ⟨g8, g9⟩))))
