/-! texts: the model reads a law, its parts -/
def keyL (k : Nat) : Prop := keyE k ∨ k = 38
/-- frames of a law -/
def FrW (b p h : Nat) (I I' : MI) : Prop := (∀ a, a ≠ 296 → (a < 321 ∨ 328 < a) → I' a = I a) ∧ (∀ a k, 321 ≤ a → a ≤ 325 → (k < b ∨ 130 * h + 130 ≤ k) → I' a k = I a k) ∧ (∀ k, (k < p ∨ 420 * h + 420 ≤ k) → I' 326 k = I 326 k ∧ I' 327 k = I 327 k) ∧ ∀ k, ¬ keyL k → I' 296 k = I 296 k
theorem frW_refl {b p h : Nat} {I : MI} : FrW b p h I I := ⟨fun _ _ _ => rfl, fun _ _ _ _ _ => rfl, fun _ _ => ⟨rfl, rfl⟩, fun _ _ => rfl⟩
theorem frW_trans {b p b' p' h : Nat} {I I' I2 : MI} (hb : b ≤ b') (hp : p ≤ p') (x : FrW b p h I I') (y : FrW b' p' h I' I2) : FrW b p h I I2 := ⟨fun a h1 h2 => (y.1 a h1 h2).trans (x.1 a h1 h2), fun a k h1 h2 h3 => (y.2.1 a k h1 h2 (by omega)).trans (x.2.1 a k h1 h2 h3), fun k hk => ⟨(y.2.2.1 k (by omega)).1.trans (x.2.2.1 k hk).1, (y.2.2.1 k (by omega)).2.trans (x.2.2.1 k hk).2⟩, fun k hk => (y.2.2.2 k hk).trans (x.2.2.2 k hk)⟩
theorem frE_W {b p h : Nat} {I I' : MI} (x : FrE p h I I') : FrW b p h I I' := ⟨fun a h1 h2 => x.1 a h1 (by omega) (by omega) (by omega), fun a k h1 h2 _ => by rw [x.1 a (by omega) (by omega) (by omega) (by omega)], x.2.1, fun k hk => x.2.2 k (fun h => hk (Or.inl h))⟩
theorem fr5_W {b p h : Nat} {I I' : MI} (x : Fr5 I I') : FrW b p h I I' := frE_W (fr5_E x)
theorem put_W {b p h a k : Nat} {v : Int} {I : MI} (ha : 321 ≤ a ∧ a ≤ 325) (hk : b ≤ k ∧ k < 130 * h + 130) : FrW b p h I (up2 I a k v) := ⟨fun x h1 h2 => up2_off (by omega), fun x j h1 h2 h3 => by
  by_cases e : x = a
  · subst e; exact up2_k (by omega)
  · exact up2_r e, fun j _ => ⟨by rw [up2_off (by omega)], by rw [up2_off (by omega)]⟩, fun j _ => by rw [up2_off (by omega)]⟩
theorem key_W {b p h k : Nat} {v : Int} {I : MI} (hk : keyL k) : FrW b p h I (up2 I 296 k v) := ⟨fun x h1 h2 => up2_off h1, fun x j h1 h2 h3 => by rw [up2_off (by omega)], fun j _ => ⟨by rw [up2_off (by omega)], by rw [up2_off (by omega)]⟩, fun j hj => up2_k (fun e => hj (by rw [e]; exact hk))⟩
theorem frW_oth {b p h : Nat} {I I' : MI} (x : FrW b p h I I') (hb : 130 * h ≤ b) (hp : 420 * h ≤ p) : OthM h I I' := fun a h1 h2 k hk => by
  by_cases g1 : a < 321
  · rw [x.1 a (by omega) (by omega)]
  by_cases g2 : a ≤ 325
  · have hw : wdR a = 130 := by
      have : a = 321 ∨ a = 322 ∨ a = 323 ∨ a = 324 ∨ a = 325 := by omega
      rcases this with e | e | e | e | e <;> rw [e] <;> rfl
    rw [hw] at hk
    exact x.2.1 a k (by omega) g2 (by omega)
  have : a = 326 ∨ a = 327 := by omega
  rcases this with e | e
  · subst e
    have hk' : k < 420 * h ∨ 420 * h + 420 ≤ k := hk
    exact (x.2.2.1 k (by omega)).1
  · subst e
    have hk' : k < 420 * h ∨ 420 * h + 420 ≤ k := hk
    exact (x.2.2.1 k (by omega)).2
theorem tkm_W {b p h : Nat} {I I' J : MI} {B : Nat → Int} {n nt : Nat} (hT : TkM I J B n nt) (hf : FrW b p h I I') : TkM I' J B n nt := tkm_congr hT (fun a b1 b2 => hf.1 a (by omega) (by omega)) rfl
section
variable {F n nt h : Nat} {B : Nat → Int} {J : MI}
/-- where a law stands -/
def StL (B : Nat → Int) (n nt h : Nat) (I : MI) (r : Ctl) (b p : Nat) : Prop := CtM B n nt I r ∧ I 296 38 = (b : Int) ∧ ∀ t l lp, r = .inr (t, l, lp) → I 296 12 = 0 ∧ I 296 44 = (p : Int) ∧ p ≤ 420 * h + t
theorem exA_inr {r : Ctl} {t : Nat} {l lp : Int} (h : (exA B n nt r).1 = .inr (t, l, lp)) : ∃ t0, r = .inr (t0, l, lp) ∧ t0 < t := by
  match r, h with
  | .inl e, h => cases h
  | .inr (t0, l0, lp0), h =>
    have h' : (match pE B n nt t0 with | .inl e => ((.inl e, []) : Ctl × LCode) | .inr (t', c) => (.inr (t', l0, lp0), c)).1 = .inr (t, l, lp) := h
    match hp : pE B n nt t0 with
    | .inl e => rw [hp] at h'; cases h'
    | .inr (t', c) =>
      rw [hp] at h'
      have := (mach_adv _ _ _ _ _ _ _ hp).2 rfl
      cases h'
      exact ⟨t0, rfl, this⟩
theorem stl_ex {I : MI} {r : Ctl} {b p : Nat} (hF : 1000000 ≤ F) (hh : h < 2) (hT : TkM I J B n nt) (H : StL B n nt h I r b p) : ∃ I', f_M_expression F I J = some I' ∧ StL B n nt h I' (exA B n nt r).1 b (p + (exA B n nt r).2.length) ∧ FrE p h I I' ∧ ∀ t l lp, (exA B n nt r).1 = .inr (t, l, lp) → SegR (I' 326) (I' 327) p (exA B n nt r).2 := by
  obtain ⟨h1, h2, h3⟩ := H
  match r, h1, h3 with
  | .inl e, h1, _ =>
    have w : I 296 13 ≠ 0 := by have := h1.1; rw [h1.2.1]; omega
    have hd : f_M_expression F I J = some (up2 I 296 48 0) := by
      unfold f_M_expression
      have key := wpo_iter (step := fun s : Int × MI => f_M_expression_L12 F (up2 I 296 48 0 296 12) s.1 s.2 J) (Q := fun e => e = .inr (.inr (up2 I 296 48 0))) (fun s => s = (1, up2 I 296 48 0)) (fun _ => 0) ?_ (F := F) (s := ((1 : Int), up2 I 296 48 0)) (by omega) rfl
      · obtain ⟨e', e1, e2⟩ := key
        rw [e1, e2]
        rfl
      · rintro s rfl
        unfold f_M_expression_L12
        exact wpo_n (show ¬ (1 : Int) = 0 by decide) (wpo_g (by show ¬ up2 I 296 48 0 296 13 = 0; rw [up2_k (by decide)]; exact w) (wpo_s rfl))
    refine ⟨_, hd, ⟨ctm_key (by omega) h1, by rw [up2_k (by decide)]; exact h2, fun t l lp e => by cases e⟩, frE_key (Or.inr (Or.inr rfl)), fun t l lp e => by cases e⟩
  | .inr (t, l, lp), h1, h3 =>
    obtain ⟨a1, a2, a3⟩ := h3 t l lp rfl
    obtain ⟨I', e1, c1, f1, d1⟩ := exprM (F := F) hF hh hT h1 a1 a2 a3
    refine ⟨I', e1, ⟨c1, by rw [f1.2.2 38 (by unfold keyE; omega)]; exact h2, fun t' l' lp' hr => ?_⟩, f1, fun t' l' lp' hr => (d1 t' l' lp' hr).2.2.2.2.2.1⟩
    obtain ⟨_, _, _, k1, k2, k3, k4⟩ := d1 t' l' lp' hr
    exact ⟨k1, k2, k4⟩
theorem stl_must {I : MI} {r : Ctl} {b p : Nat} {x c : Int} (hT : TkM I J B n nt) (hx : VK x) (hc : c = mkK x) (h3 : x ≠ 302) (H : StL B n nt h I r b p) : ∃ I', f_M_must F c I J = some I' ∧ StL B n nt h I' (takeA (Kt B n nt) (PP B n nt) x r) b p ∧ Fr5 I I' := by
  obtain ⟨h1, h2, h3'⟩ := H
  obtain ⟨I', e1, a1, f1⟩ := mustM (F := F) hT h1 hx hc h3
  refine ⟨I', e1, ⟨a1, by rw [f1.2 38 (by decide) (by decide) (by decide) (by decide) (by decide)]; exact h2, fun t l lp hr => ?_⟩, f1⟩
  obtain ⟨t0, e, e2, _⟩ := takeA_inr hr
  obtain ⟨k1, k2, k3⟩ := h3' t0 l lp e
  exact ⟨by rw [f1.2 12 (by decide) (by decide) (by decide) (by decide) (by decide)]; exact k1, by rw [f1.2 44 (by decide) (by decide) (by decide) (by decide) (by decide)]; exact k2, by omega⟩
theorem stl_put {I : MI} {r : Ctl} {b p a k : Nat} {v : Int} (ha : a ≠ 296) (H : StL B n nt h I r b p) : StL B n nt h (up2 I a k v) r b p := by
  have z : up2 I a k v 296 = I 296 := up2_off (fun e => ha e.symm)
  obtain ⟨h1, h2, h3⟩ := H
  exact ⟨ctm_k h1 (fun k _ _ _ => by rw [z]), by rw [z]; exact h2, fun t l lp hr => by rw [z]; exact h3 t l lp hr⟩
theorem termM {I : MI} {r : Ctl} {b p : Nat} (hF : 1000000 ≤ F) (hh : h < 2) (hT : TkM I J B n nt) (H : StL B n nt h I r b p) (hb : b < 130 * h + 130) : ∃ I', f_M_term F I J = some I' ∧ StL B n nt h I' (exA B n nt r).1 (b + 1) (p + (exA B n nt r).2.length) ∧ FrW b p h I I' ∧ (∀ a, 321 ≤ a → a ≤ 323 → I' a b = I a b) ∧ ∀ t l lp, (exA B n nt r).1 = .inr (t, l, lp) → I' 324 b = (p : Int) ∧ I' 325 b = ((p + (exA B n nt r).2.length : Nat) : Int) ∧ SegR (I' 326) (I' 327) p (exA B n nt r).2 := by
  have h38 := H.2.1
  have ht4 : I 296 44 = up2 I 324 b (I 296 44) 296 44 := by rw [up2_r (by decide)]
  unfold f_M_term
  rw [h38, if_pos (by omega), Int.toNat_natCast]
  have H1 := stl_put (a := 324) (k := b) (v := I 296 44) (by decide) H
  have f1 : FrW b p h I (up2 I 324 b (I 296 44)) := put_W (by omega) (by omega)
  have hz : up2 I 324 b (I 296 44) 324 b = I 296 44 := up2_same
  have hz2 : ∀ a, 321 ≤ a → a ≤ 323 → up2 I 324 b (I 296 44) a b = I a b := fun a b1 b2 => up2_r (by omega)
  have hT1 := tkm_W hT f1
  generalize up2 I 324 b (I 296 44) = Z at *
  have fin : ∀ N : MI, StL B n nt h N (exA B n nt r).1 b (p + (exA B n nt r).2.length) → FrE p h Z N → (∀ t l lp, (exA B n nt r).1 = .inr (t, l, lp) → SegR (N 326) (N 327) p (exA B n nt r).2) → ∃ I', f_M_term_b24 F N J = some I' ∧ StL B n nt h I' (exA B n nt r).1 (b + 1) (p + (exA B n nt r).2.length) ∧ FrW b p h I I' ∧ (∀ a, 321 ≤ a → a ≤ 323 → I' a b = I a b) ∧ ∀ t l lp, (exA B n nt r).1 = .inr (t, l, lp) → I' 324 b = (p : Int) ∧ I' 325 b = ((p + (exA B n nt r).2.length : Nat) : Int) ∧ SegR (I' 326) (I' 327) p (exA B n nt r).2 := by
    intro N n1 n2 n3
    obtain ⟨m1, m2, m3⟩ := n1
    have z : ∀ k v, up2 N 325 b v 296 k = N 296 k := fun k v => up2_r (by decide)
    unfold f_M_term_b24
    rw [m2, if_pos (by omega), Int.toNat_natCast, z, m2, w32i (by omega) (by omega)]
    have y : ∀ a, a ≠ 296 → a ≠ 325 → up2 (up2 N 325 b (N 296 44)) 296 38 ((b : Int) + 1) a = N a := fun a a1 a2 => by rw [up2_off a1, up2_off a2]
    have y6 : ∀ k, k ≠ 38 → up2 (up2 N 325 b (N 296 44)) 296 38 ((b : Int) + 1) 296 k = N 296 k := fun k hk => by rw [up2_k hk, z]
    refine ⟨_, rfl, ⟨ctm_k m1 (fun k k1 k2 k3 => y6 k (by omega)), by rw [up2_same]; omega, fun t l lp hr => by rw [y6 12 (by decide), y6 44 (by decide)]; exact m3 t l lp hr⟩, frW_trans (Nat.le_refl _) (Nat.le_refl _) f1 (frW_trans (Nat.le_refl _) (Nat.le_refl _) (frE_W n2) (frW_trans (Nat.le_refl _) (Nat.le_refl _) (put_W (by omega) (by omega)) (key_W (Or.inr rfl)))), fun a a1 a2 => by rw [y a (by omega) (by omega), n2.1 a (by omega) (by omega) (by omega) (by omega)]; exact hz2 a a1 a2, fun t l lp hr => ⟨?_, ?_, ?_⟩⟩
    · rw [y 324 (by decide) (by decide), n2.1 324 (by decide) (by decide) (by decide) (by decide), hz]
      obtain ⟨t0, e, _⟩ := exA_inr hr
      exact (H.2.2 t0 l lp e).2.1
    · rw [up2_r (by decide), up2_same]
      exact (m3 t l lp hr).2.1
    · rw [y 326 (by decide) (by decide), y 327 (by decide) (by decide)]
      exact n3 t l lp hr
  match r, H1, fin with
  | .inl e, H1, fin =>
    rw [if_pos (by have := H1.1.1; rw [H1.1.2.1]; omega)]
    exact fin Z H1 frE_refl (fun t l lp e => by cases e)
  | .inr (t, l, lp), H1, fin =>
    rw [if_neg (by simp [H1.1.2.2.1])]
    obtain ⟨N, e1, n1, n2, n3⟩ := stl_ex (F := F) hF hh hT1 H1
    rw [e1, Option.bind_some]
    exact fin N n1 n2 n3
/-- branches that stand one after another -/
def BrL (I : MI) : Nat → Nat → List (LCode × LCode × LCode) → Prop
  | _, _, [] => True
  | b, p, (c1, c2, c3) :: r => (I 321 b = 1 ∧ I 322 b = (p : Int) ∧ I 323 b = ((p + c1.length : Nat) : Int) ∧ I 324 b = ((p + c1.length + c2.length : Nat) : Int) ∧ I 325 b = ((p + c1.length + c2.length + c3.length : Nat) : Int) ∧ SegR (I 326) (I 327) p c1 ∧ SegR (I 326) (I 327) (p + c1.length) c2 ∧ SegR (I 326) (I 327) (p + c1.length + c2.length) c3) ∧ BrL I (b + 1) (p + c1.length + c2.length + c3.length) r
def lenQ : List (LCode × LCode × LCode) → Nat
  | [] => 0
  | (c1, c2, c3) :: r => c1.length + c2.length + c3.length + lenQ r
theorem lenQ_app : ∀ {r s : List (LCode × LCode × LCode)}, lenQ (r ++ s) = lenQ r + lenQ s
  | [], s => by simp [lenQ]
  | (c1, c2, c3) :: r, s => by
    show c1.length + c2.length + c3.length + lenQ (r ++ s) = c1.length + c2.length + c3.length + lenQ r + lenQ s
    rw [lenQ_app]; omega
theorem brL_app {I : MI} : ∀ {r s : List (LCode × LCode × LCode)} {b p : Nat}, BrL I b p r → BrL I (b + r.length) (p + lenQ r) s → BrL I b p (r ++ s)
  | [], s, b, p, _, h => h
  | (c1, c2, c3) :: r, s, b, p, h1, h2 => by
    refine ⟨h1.1, brL_app h1.2 ?_⟩
    have e1 : b + 1 + r.length = b + ((c1, c2, c3) :: r).length := by rw [List.length_cons]; omega
    have e2 : p + c1.length + c2.length + c3.length + lenQ r = p + lenQ ((c1, c2, c3) :: r) := by
      show _ = p + (c1.length + c2.length + c3.length + lenQ r)
      omega
    rw [e1, e2]
    exact h2
theorem brL_stay {I I' : MI} : ∀ {r : List (LCode × LCode × LCode)} {b p b2 p2 h : Nat}, BrL I b p r → FrW b2 p2 h I I' → b + r.length ≤ b2 → p + lenQ r ≤ p2 → BrL I' b p r
  | [], b, p, b2, p2, h, _, _, _, _ => trivial
  | (c1, c2, c3) :: r, b, p, b2, p2, h, h1, hf, hb, hp => by
    rw [List.length_cons] at hb
    have hp' : p + (c1.length + c2.length + c3.length + lenQ r) ≤ p2 := hp
    obtain ⟨⟨g1, g2, g3, g4, g5, g6, g7, g8⟩, g9⟩ := h1
    have z : ∀ a, 321 ≤ a → a ≤ 325 → I' a b = I a b := fun a a1 a2 => hf.2.1 a b a1 a2 (by omega)
    have s : ∀ q (c : LCode), q + c.length ≤ p2 → SegR (I 326) (I 327) q c → SegR (I' 326) (I' 327) q c := fun q c hq hs => seg_congr hs (fun k k1 k2 => (hf.2.2.1 k (by omega)).1) (fun k k1 k2 => (hf.2.2.1 k (by omega)).2)
    exact ⟨⟨by rw [z 321 (by omega) (by omega)]; exact g1, by rw [z 322 (by omega) (by omega)]; exact g2, by rw [z 323 (by omega) (by omega)]; exact g3, by rw [z 324 (by omega) (by omega)]; exact g4, by rw [z 325 (by omega) (by omega)]; exact g5, s _ _ (by omega) g6, s _ _ (by omega) g7, s _ _ (by omega) g8⟩, brL_stay g9 hf (by omega) (by omega)⟩
/-- with a last term they are the law's branches -/
theorem brL_M {I : MI} {c : LCode} : ∀ {r : List (LCode × LCode × LCode)} {b p : Nat}, BrL I b p r → p + lenQ r + c.length ≤ 840 → I 321 (b + r.length) = 0 → I 324 (b + r.length) = ((p + lenQ r : Nat) : Int) → I 325 (b + r.length) = ((p + lenQ r + c.length : Nat) : Int) → SegR (I 326) (I 327) (p + lenQ r) c → BrM I b r c ∧ RgP I b (b + r.length + 1) (p : Int) ((p + lenQ r + c.length : Nat) : Int)
  | [], b, p, _, h0, h1, h2, h3, h4 => by
    refine ⟨⟨h1, p + lenQ [], h2, h3, h0, h4⟩, fun j j1 j2 => ?_⟩
    have : j = b := by simp only [List.length_nil] at j2; omega
    subst this
    simp only [List.length_nil, Nat.add_zero] at h1 h2 h3
    rw [h1, h2, h3]
    refine ⟨?_, Int.le_refl _, fun hx => absurd hx (by decide)⟩
    show (p : Int) ≤ ((p + lenQ [] : Nat) : Int)
    omega
  | (c1, c2, c3) :: r, b, p, h, h0, h1, h2, h3, h4 => by
    obtain ⟨⟨g1, g2, g3, g4, g5, g6, g7, g8⟩, g9⟩ := h
    have e1 : b + ((c1, c2, c3) :: r).length = b + 1 + r.length := by rw [List.length_cons]; omega
    have e2 : p + lenQ ((c1, c2, c3) :: r) = p + c1.length + c2.length + c3.length + lenQ r := by
      show p + (c1.length + c2.length + c3.length + lenQ r) = _
      omega
    rw [e1] at h1 h2 h3 ⊢
    rw [e2] at h0 h2 h3 h4 ⊢
    obtain ⟨k1, k2⟩ := brL_M g9 h0 h1 h2 h3 h4
    refine ⟨⟨g1, ⟨p, g2, g3, g4, g5, by omega, g6, g7, g8⟩, k1⟩, fun j j1 j2 => ?_⟩
    by_cases e : j = b
    · subst e
      rw [g2, g4, g5]
      exact ⟨by omega, by omega, fun _ => Int.le_refl _⟩
    · obtain ⟨x1, x2, x3⟩ := k2 j (by omega) (by omega)
      exact ⟨by omega, x2, fun hx => by have := x3 hx; omega⟩
end
