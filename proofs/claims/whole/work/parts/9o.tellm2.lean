/-! texts: the model's data of the half that is told -/
def keyR (k : Nat) : Prop := keyL k ∨ k = 20
def FrR (h : Nat) (I I' : MI) : Prop := (∀ a, a ≠ 296 → (a < 305 ∨ 328 < a) → I' a = I a) ∧ OthM h I I' ∧ ∀ k, ¬ keyR k → I' 296 k = I 296 k
theorem frR_refl {h : Nat} {I : MI} : FrR h I I := ⟨fun _ _ _ => rfl, othM_refl, fun _ _ => rfl⟩
theorem frR_trans {h : Nat} {I I' I2 : MI} (x : FrR h I I') (y : FrR h I' I2) : FrR h I I2 := ⟨fun a h1 h2 => (y.1 a h1 h2).trans (x.1 a h1 h2), othM_trans x.2.1 y.2.1, fun k hk => (y.2.2 k hk).trans (x.2.2 k hk)⟩
theorem frW_R {b p h : Nat} {I I' : MI} (x : FrW b p h I I') (hb : 130 * h ≤ b) (hp : 420 * h ≤ p) : FrR h I I' := ⟨fun a h1 h2 => x.1 a h1 (by omega), frW_oth x hb hp, fun k hk => x.2.2.2 k (fun g => hk (Or.inl g))⟩
theorem fr5_R {h : Nat} {I I' : MI} (x : Fr5 I I') : FrR h I I' := frW_R (b := 130 * h) (p := 420 * h) (fr5_W x) (Nat.le_refl _) (Nat.le_refl _)
theorem put_R {h a k : Nat} {v : Int} {I : MI} (ha : 305 ≤ a ∧ a ≤ 327) (hk : wdR a * h ≤ k ∧ k < wdR a * h + wdR a) : FrR h I (up2 I a k v) := ⟨fun x h1 h2 => up2_off (by omega), othM_put (fun _ => hk), fun j _ => up2_r (by omega)⟩
theorem key_R {h k : Nat} {v : Int} {I : MI} (hk : keyR k) : FrR h I (up2 I 296 k v) := ⟨fun x h1 _ => up2_off h1, othM_put (fun e => by omega), fun j hj => up2_k (fun e => hj (by rw [e]; exact hk))⟩
def mcA (a : Nat) : Nat := if a ≤ 2 then 307 + a else if a ≤ 6 then 309 + a else 310 + a
def moA (a : Nat) : Nat := if a = 1 then 96 else 8
def mzA (j : Nat) : Nat := if j = 0 then 305 else if j = 1 then 306 else 310
def RvF (I : MI) (h : Nat) (ρ : RIV) : Prop := I 305 h = aL ρ ∧ I 306 h = aW ρ ∧ I 310 h = aJ ρ ∧ (∀ c, c < 96 → I 308 (96 * h + c) = dep ρ c) ∧ (∀ y, y < 8 → I 309 (8 * h + y) = flo ρ y) ∧ (∀ m : Nat, (m : Int) < aN ρ → I 312 (8 * h + m) = fsd ρ m ∧ I 313 (8 * h + m) = siz ρ m ∧ I 314 (8 * h + m) = man ρ m ∧ I 315 (8 * h + m) = gri ρ m) ∧ ∀ f : Nat, (f : Int) < aF ρ → I 317 (8 * h + f) = fld ρ f ∧ I 318 (8 * h + f) = frc ρ f
theorem mc_both {I ρ : Nat → Nat → Int} {h a b k j : Nat} {v : Int} (ha : 1 ≤ a ∧ a ≤ 8) (hb : 1 ≤ b ∧ b ≤ 8) (H : I (mcA b) (moA b * h + j) = ρ b j) : up2 I (mcA a) (moA a * h + k) v (mcA b) (moA b * h + j) = up2 ρ a k v b j := by
  by_cases g : b = a
  · subst g
    by_cases g2 : j = k
    · subst g2; rw [up2_same, up2_same]
    · rw [up2_k (by omega), up2_k g2]; exact H
  · have : mcA b ≠ mcA a := by
      unfold mcA
      split <;> split <;> (try split) <;> (try split) <;> omega
    rw [up2_r this, up2_r g]; exact H
theorem mc_off {a b : Nat} (ha : 1 ≤ a ∧ a ≤ 8) (hb : b = 305 ∨ b = 306 ∨ b = 310 ∨ b = 307 ∨ b = 311 ∨ b = 316) : b ≠ mcA a := by
  unfold mcA
  split
  · omega
  · split <;> omega
theorem rvf_put {I : MI} {h a k : Nat} {v : Int} {ρ : RIV} (H : RvF I h ρ) (ha : 1 ≤ a ∧ a ≤ 8) : RvF (up2 I (mcA a) (moA a * h + k) v) h (upR ρ a k v) := by
  obtain ⟨h1, h2, h3, h4, h5, h6, h7⟩ := H
  have z0 : ∀ j, (upR ρ a k v).1 0 j = ρ.1 0 j := fun j => up2_r (by omega)
  have zn : aN (upR ρ a k v) = aN ρ := z0 3
  have zf : aF (upR ρ a k v) = aF ρ := z0 4
  refine ⟨(up2_r (mc_off ha (by omega))).trans (h1.trans (z0 0).symm), (up2_r (mc_off ha (by omega))).trans (h2.trans (z0 1).symm), (up2_r (mc_off ha (by omega))).trans (h3.trans (z0 2).symm), fun c hc => mc_both (b := 1) ha (by omega) (h4 c hc), fun y hy => mc_both (b := 2) ha (by omega) (h5 y hy), fun m hm => ?_, fun f hf => ?_⟩
  · rw [zn] at hm
    obtain ⟨b1, b2, b3, b4⟩ := h6 m hm
    exact ⟨mc_both (b := 3) ha (by omega) b1, mc_both (b := 4) ha (by omega) b2, mc_both (b := 5) ha (by omega) b3, mc_both (b := 6) ha (by omega) b4⟩
  · rw [zf] at hf
    obtain ⟨b1, b2⟩ := h7 f hf
    exact ⟨mc_both (b := 7) ha (by omega) b1, mc_both (b := 8) ha (by omega) b2⟩
theorem rvf_put0 {I : MI} {h j : Nat} {v : Int} {ρ : RIV} (H : RvF I h ρ) (hj : j ≤ 2) : RvF (up2 I (mzA j) h v) h (upR ρ 0 j v) := by
  obtain ⟨h1, h2, h3, h4, h5, h6, h7⟩ := H
  have hz : mzA j = 305 ∧ j = 0 ∨ mzA j = 306 ∧ j = 1 ∨ mzA j = 310 ∧ j = 2 := by
    have : j = 0 ∨ j = 1 ∨ j = 2 := by omega
    rcases this with e | e | e <;> subst e <;> decide
  have o : ∀ a, a ≠ 305 → a ≠ 306 → a ≠ 310 → ∀ i, up2 I (mzA j) h v a i = I a i := fun a a1 a2 a3 i => up2_r (by omega)
  have z1 : ∀ b i, (upR ρ 0 j v).1 (b + 1) i = ρ.1 (b + 1) i := fun b i => by
    show up2 ρ.1 0 j v (b + 1) i = _
    exact up2_r (by omega)
  have zn : aN (upR ρ 0 j v) = aN ρ := up2_k (by omega)
  have zf : aF (upR ρ 0 j v) = aF ρ := up2_k (by omega)
  have b0 : ∀ a i, mzA i = a → i ≤ 2 → I a h = ρ.1 0 i → up2 I (mzA j) h v a h = (upR ρ 0 j v).1 0 i := fun a i ha hi hv => by
    by_cases e : i = j
    · subst e
      rw [← ha, up2_same]; exact upR_s.symm
    · have : mzA i ≠ mzA j := by
        have hi' : i = 0 ∨ i = 1 ∨ i = 2 := by omega
        have hj' : j = 0 ∨ j = 1 ∨ j = 2 := by omega
        rcases hi' with x | x | x <;> rcases hj' with y | y | y <;> subst x <;> subst y <;> first | exact absurd rfl e | decide
      rw [up2_r (by rw [← ha]; exact this), hv]
      exact (upR_k e).symm
  refine ⟨b0 305 0 rfl (by omega) h1, b0 306 1 rfl (by omega) h2, b0 310 2 rfl (by omega) h3, fun c hc => (o 308 (by decide) (by decide) (by decide) _).trans ((h4 c hc).trans (z1 0 c).symm), fun y hy => (o 309 (by decide) (by decide) (by decide) _).trans ((h5 y hy).trans (z1 1 y).symm), fun m hm => ?_, fun f hf => ?_⟩
  · rw [zn] at hm
    obtain ⟨c1, c2, c3, c4⟩ := h6 m hm
    exact ⟨(o 312 (by decide) (by decide) (by decide) _).trans (c1.trans (z1 2 m).symm), (o 313 (by decide) (by decide) (by decide) _).trans (c2.trans (z1 3 m).symm), (o 314 (by decide) (by decide) (by decide) _).trans (c3.trans (z1 4 m).symm), (o 315 (by decide) (by decide) (by decide) _).trans (c4.trans (z1 5 m).symm)⟩
  · rw [zf] at hf
    obtain ⟨c1, c2⟩ := h7 f hf
    exact ⟨(o 317 (by decide) (by decide) (by decide) _).trans (c1.trans (z1 6 f).symm), (o 318 (by decide) (by decide) (by decide) _).trans (c2.trans (z1 7 f).symm)⟩
theorem rvf_congr {I I' : MI} {h : Nat} {ρ : RIV} (H : RvF I h ρ) (hf : ∀ a, 305 ≤ a → a ≤ 318 → a ≠ 307 → a ≠ 311 → a ≠ 316 → I' a = I a) : RvF I' h ρ := by
  unfold RvF
  rw [hf 305 (by omega) (by omega) (by omega) (by omega) (by omega), hf 306 (by omega) (by omega) (by omega) (by omega) (by omega), hf 310 (by omega) (by omega) (by omega) (by omega) (by omega), hf 308 (by omega) (by omega) (by omega) (by omega) (by omega), hf 309 (by omega) (by omega) (by omega) (by omega) (by omega), hf 312 (by omega) (by omega) (by omega) (by omega) (by omega), hf 313 (by omega) (by omega) (by omega) (by omega) (by omega), hf 314 (by omega) (by omega) (by omega) (by omega) (by omega), hf 315 (by omega) (by omega) (by omega) (by omega) (by omega), hf 317 (by omega) (by omega) (by omega) (by omega) (by omega), hf 318 (by omega) (by omega) (by omega) (by omega) (by omega)]
  exact H
theorem rvf_lea {I : MI} {h m : Nat} {ρ : RIV} (H : RvF I h ρ) (hm : (m : Int) = aN ρ) (h3 : I 312 (8 * h + m) = fsd ρ m) (h4 : I 313 (8 * h + m) = siz ρ m) (h5 : I 314 (8 * h + m) = man ρ m) (h6 : I 315 (8 * h + m) = gri ρ m) : RvF I h (upR ρ 0 3 (aN ρ + 1)) := by
  obtain ⟨k1, k2, k3, k4, k5, k6, k7⟩ := H
  have zz : aN (upR ρ 0 3 (aN ρ + 1)) = aN ρ + 1 := upR_s
  refine ⟨k1, k2, k3, k4, k5, fun j hj => ?_, k7⟩
  rw [zz] at hj
  by_cases e : j = m
  · subst e; exact ⟨h3, h4, h5, h6⟩
  · exact k6 j (by omega)
theorem rvf_fl {I : MI} {h m : Nat} {ρ : RIV} (H : RvF I h ρ) (hm : (m : Int) = aF ρ) (h3 : I 317 (8 * h + m) = fld ρ m) (h4 : I 318 (8 * h + m) = frc ρ m) : RvF I h (upR ρ 0 4 (aF ρ + 1)) := by
  obtain ⟨k1, k2, k3, k4, k5, k6, k7⟩ := H
  have zz : aF (upR ρ 0 4 (aF ρ + 1)) = aF ρ + 1 := upR_s
  refine ⟨k1, k2, k3, k4, k5, k6, fun j hj => ?_⟩
  rw [zz] at hj
  by_cases e : j = m
  · subst e; exact ⟨h3, h4⟩
  · exact k7 j (by omega)
def DaM (B : Nat → Int) (n nt h : Nat) (I J : MI) (s : RIV × Nat × (Nat → Nat)) (b p : Nat) (full : Prop) : Prop :=
  (I 296 12 = 0 ∧ I 296 38 = (b : Int) ∧ I 296 44 = (p : Int)) ∧ (I 311 h = aN s.1 ∧ 0 ≤ aN s.1 ∧ aN s.1 ≤ 8) ∧ (I 316 h = aF s.1 ∧ 0 ≤ aF s.1 ∧ aF s.1 ≤ 8) ∧ (I 307 h = ((s.2.1 : Nat) : Int) ∧ s.2.1 ≤ 20) ∧ I 296 20 = aN s.1 ∧ (∀ j : Nat, (j : Int) < aN s.1 → J 304 j = wnum (Wt B n (s.2.2 j)) ∧ Kt B n nt (s.2.2 j) = 300) ∧ LwO I h b p (2 * h) s.1.2.1 ∧ LwO I h b p (2 * h + 1) s.1.2.2 ∧ (full → RvF I h s.1)
theorem lwO_congr {I I' : MI} {h b p q : Nat} {Λ : LawT} (H : LwO I h b p q Λ) (hf : ∀ a, 319 ≤ a → a ≤ 327 → I' a = I a) : LwO I' h b p q Λ := by
  obtain ⟨f, l, h1, h2, h3, h4⟩ := H
  refine ⟨f, l, by rw [hf 319 (by omega) (by omega)]; exact h1, by rw [hf 320 (by omega) (by omega)]; exact h2, h3, ?_⟩
  rcases h4 with h4 | ⟨h4, h5, h6, h7⟩
  · exact Or.inl h4
  · refine Or.inr ⟨h4, h5, brM_congr h6 (fun a a1 a2 => hf a (by omega) a2), ?_⟩
    unfold RgP at *
    rw [hf 321 (by omega) (by omega), hf 322 (by omega) (by omega), hf 324 (by omega) (by omega), hf 325 (by omega) (by omega)]
    exact h7
def SgM (B : Nat → Int) (n nt h : Nat) (I0 J0 I J : MI) (σ : SgT) : Prop := TkM I J B n nt ∧ CtM B n nt I σ.1 ∧ FrR h I0 I ∧ (∀ a, a ≠ 304 → J a = J0 a) ∧ ∀ t l lp, σ.1 = .inr (t, l, lp) → ∃ b p, DaM B n nt h I J σ.2 b p (l = 0) ∧ 4 * b ≤ 520 * h + t ∧ 130 * h ≤ b ∧ 420 * h ≤ p ∧ p ≤ 420 * h + t
/-- a statement without a law ends -/
theorem sgm_fin {B : Nat → Int} {n nt h t : Nat} {l lp : Int} {I0 J0 I1 J G I' J' : MI} {s s' : RIV × Nat × (Nat → Nat)} {r' : Ctl} (hs : SgM B n nt h I0 J0 I1 J (.inr (t, l, lp), s)) (hG : FrR h I1 G) (hG3 : ∀ a, 319 ≤ a → a ≤ 327 → G a = I1 a) (hG2 : ∀ k, k ≠ 20 → G 296 k = I1 296 k) (H : MdM B n nt J G I' r') (hge : Ge r' (t + 1)) (hJ : ∀ a, a ≠ 304 → J' a = J a) (hl : s'.1.2 = s.1.2) (hd : ∀ b p, DaM B n nt h I1 J s b p (l = 0) → ∀ t' l' lp', r' = .inr (t', l', lp') → (G 311 h = aN s'.1 ∧ 0 ≤ aN s'.1 ∧ aN s'.1 ≤ 8) ∧ (G 316 h = aF s'.1 ∧ 0 ≤ aF s'.1 ∧ aF s'.1 ≤ 8) ∧ (G 307 h = ((s'.2.1 : Nat) : Int) ∧ s'.2.1 ≤ 20) ∧ G 296 20 = aN s'.1 ∧ (∀ j : Nat, (j : Int) < aN s'.1 → J' 304 j = wnum (Wt B n (s'.2.2 j)) ∧ Kt B n nt (s'.2.2 j) = 300) ∧ (l' = 0 → RvF G h s'.1)) : SgM B n nt h I0 J0 I' J' (r', s') := by
  obtain ⟨h1, h2, h3, h4, h5⟩ := hs
  obtain ⟨k1, k2, k3⟩ := H
  refine ⟨tkm_congr k1 (fun a _ _ => rfl) (by rw [hJ 302 (by decide)]), k2, frR_trans h3 (frR_trans hG (fr5_R k3)), fun a ha => (hJ a ha).trans (h4 a ha), fun t' l' lp' hr => ?_⟩
  obtain ⟨b, p, d, e1, e2, e3, e4⟩ := h5 t l lp rfl
  have ht := hge t' l' lp' hr
  obtain ⟨d1, d2, d3, d4, d5, d6⟩ := hd b p d t' l' lp' hr
  obtain ⟨⟨g1, g2, g3⟩, _, _, _, _, _, g8, g9, _⟩ := d
  refine ⟨b, p, ⟨⟨?_, ?_, ?_⟩, by rw [k3.1 311 (by decide)]; exact d1, by rw [k3.1 316 (by decide)]; exact d2, by rw [k3.1 307 (by decide)]; exact d3, by rw [k3.2 20 (by decide) (by decide) (by decide) (by decide) (by decide)]; exact d4, d5, ?_, ?_, fun hf => rvf_congr (d6 hf) (fun a a1 a2 _ _ _ => k3.1 a (by omega))⟩, by omega, e2, e3, by omega⟩
  · rw [k3.2 12 (by decide) (by decide) (by decide) (by decide) (by decide), hG2 12 (by decide)]; exact g1
  · rw [k3.2 38 (by decide) (by decide) (by decide) (by decide) (by decide), hG2 38 (by decide)]; exact g2
  · rw [k3.2 44 (by decide) (by decide) (by decide) (by decide) (by decide), hG2 44 (by decide)]; exact g3
  · show LwO I' h b p (2 * h) s'.1.2.1
    rw [hl]
    exact lwO_congr (lwO_congr g8 hG3) (fun a a1 a2 => k3.1 a (by omega))
  · show LwO I' h b p (2 * h + 1) s'.1.2.2
    rw [hl]
    exact lwO_congr (lwO_congr g9 hG3) (fun a a1 a2 => k3.1 a (by omega))
