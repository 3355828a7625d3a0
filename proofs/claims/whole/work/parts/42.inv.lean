/-! the picture of both halves between calls -/
theorem bedq_congr {I I' : MI} {b : Nat} {ρ : RIV} {s : BSt} (h : BedQ I b ρ s) (hf : ∀ a, b ≤ a → a ≤ b + 6 → I' a = I a) : BedQ I' b ρ s :=
  ⟨h.1, bedx_congr h.2.1 (hf _ (by omega) (by omega)) (hf _ (by omega) (by omega)) (hf _ (by omega) (by omega)) (hf _ (by omega) (by omega)) (hf _ (by omega) (by omega)) (hf _ (by omega) (by omega)), by rw [hf b (by omega) (by omega)]; exact h.2.2⟩
theorem bedq_copy {I I' : MI} {b b' : Nat} {ρ : RIV} {s : BSt} (h : BedQ I b ρ s) (h0 : I' b' 0 = I b 0) (h1 : ∀ c, c < 96 → I' (b' + 1) c = I (b + 1) c) (h2 : ∀ c, c < 96 → I' (b' + 2) c = I (b + 2) c) (h3 : ∀ c, c < 96 → I' (b' + 3) c = I (b + 3) c) (h4 : ∀ c, c < 72 → I' (b' + 4) c = I (b + 4) c) (h5 : ∀ c, c < 8 → I' (b' + 5) c = I (b + 5) c) (h6 : ∀ c, c < 8 → I' (b' + 6) c = I (b + 6) c) : BedQ I' b' ρ s := by
  obtain ⟨hv, ⟨b1, b2, b3, b4, b5, b6, b7, b8⟩, hd⟩ := h
  refine ⟨hv, ⟨fun c hc => (h1 c hc).trans (b1 c hc), fun c hc h => (h2 c hc).trans (b2 c hc h), fun k hk hk0 hl => ?_, fun k hk hk0 hl => (h4 k hk).trans (b4 k hk hk0 hl), fun j k hj hk hj0 e hl => (h4 j hj).trans (b5 j k hj hk hj0 e hl), fun c hc hc0 => by rw [h3 c hc]; exact b6 c hc hc0, fun m hm => (h5 m hm).trans (b7 m hm), fun m hm => (h6 m hm).trans (b8 m hm)⟩, h0.trans hd⟩
  have := hv.1 k hk
  exact (h2 _ (by omega)).trans (b3 k hk hk0 hl)
/-- another vector, alike where it matters -/
theorem vok_congr {ρ : RIV} {s t : BSt} (h : VOK ρ s) (h1 : ∀ k, k < 250 → t.1 k = s.1 k) (h2 : ∀ c, c < 96 → t.2 c = s.2 c) : VOK ρ t := by
  obtain ⟨v1, v2, v3, v4, v5, v6⟩ := h
  refine ⟨fun k hk => ?_, fun j k hj hk => ?_, fun c l hc h0 hl => ?_, fun c hc => ?_, fun m j hm hj => ?_, ?_⟩
  · rw [h1 k (by omega), h1 (72 + k) (by omega)]
    rcases v1 k hk with a | a | a
    · exact Or.inl a
    · exact Or.inr (Or.inl a)
    · rw [h2 _ (by omega)]; exact Or.inr (Or.inr a)
  · rw [h1 j (by omega), h1 k (by omega), h1 (72 + j) (by omega), h1 (72 + k) (by omega)]; exact v2 j k hj hk
  · rw [h2 c hc] at hl
    obtain ⟨k, hk, a, b⟩ := v3 c l hc h0 hl
    exact ⟨k, hk, by rw [h1 k (by omega)]; exact a, by rw [h1 _ (by omega)]; exact b⟩
  · rw [h2 c hc, h1 _ (by omega)]; exact v4 c hc
  · rw [h1 _ (by omega)]
    intro h
    obtain ⟨a, b, c⟩ := v5 m j hm hj h
    exact ⟨a, b, fun i hi => by rw [h1 _ (by omega)]; exact c i hi⟩
  · rw [h1 _ (by omega)]; exact v6
def cpA7 (I : MI) (r0 r1 : Nat) : MI := cpA (cpA (cpA (cpA (cpA (cpA (up2 I r0 0 (I r1 0)) (r1 + 1) (r0 + 1) 96) (r1 + 2) (r0 + 2) 96) (r1 + 3) (r0 + 3) 96) (r1 + 4) (r0 + 4) 72) (r1 + 5) (r0 + 5) 8) (r1 + 6) (r0 + 6) 8
theorem cp_off {I : MI} {r0 r n a : Nat} (h : a ≠ r) : cpA I r0 r n a = I a := by
  funext y; unfold cpA; rw [if_neg (by omega)]
theorem cp_in {I : MI} {r0 r n y : Nat} (h : y < n) : cpA I r0 r n r y = I r0 y := by
  unfold cpA; rw [if_pos ⟨rfl, h⟩]
theorem copy_eq {F r0 r1 : Nat} {I : MI} {ρ : RIV} {s : BSt} (h : BedQ I r1 ρ s) (hd : r0 + 7 ≤ r1 ∨ r1 + 7 ≤ r0) : ∃ I', f_B_copyFrom F r0 r1 I = some I' ∧ BedQ I' r0 ρ s ∧ ∀ a, a < r0 ∨ r0 + 6 < a → I' a = I a := by
  refine ⟨_, rfl, bedq_copy h ?_ (fun c hc => ?_) (fun c hc => ?_) (fun c hc => ?_) (fun c hc => ?_) (fun c hc => ?_) (fun c hc => ?_), fun a ha => ?_⟩
  · simp (disch := omega) only [cp_off, up2_same]
  · simp (disch := omega) only [cp_off, cp_in, up2_r, up2_off]
  · simp (disch := omega) only [cp_off, cp_in, up2_r, up2_off]
  · simp (disch := omega) only [cp_off, cp_in, up2_r, up2_off]
  · simp (disch := omega) only [cp_off, cp_in, up2_r, up2_off]
  · simp (disch := omega) only [cp_off, cp_in, up2_r, up2_off]
  · simp (disch := omega) only [cp_off, cp_in, up2_r, up2_off]
  · simp (disch := omega) only [cp_off, up2_off]
def TapQ (I : MI) : Prop := ∃ n : Nat, n ≤ 2000 ∧ I 2 1 = (n : Int) ∧ I 296 2 = (n : Int) ∧ ∀ k, k < n → I 3 k = I 297 k
def PlaQ (I : MI) : Prop := I 1 2 = I 296 17
def PasQ (I : MI) (ρ : RIV) (d : Int) : Prop := ∃ u nx : Nat, u ≤ 25 ∧ nx < 25 ∧ I 63 1 = (nx : Int) ∧ I 63 2 = (u : Int) ∧ I 296 55 = (u : Int) ∧ ∀ j, j < u → ∃ t : BSt, BedQ I (65 + 7 * ((nx + 25 - u + j) % 25)) ρ t ∧ (∀ k, k < 250 → I 334 (250 * j + k) = t.1 k) ∧ t.1 240 ≤ d
def SloQ (I : MI) (ρ : RIV) (d : Int) : Prop := ∀ i, i < 3 → I 241 i = I 352 i ∧ (I 241 i = 0 ∨ I 241 i = 1) ∧ (I 241 i = 1 → ∃ t : BSt, BedQ I (275 + 7 * i) ρ t ∧ (∀ k, k < 250 → I 353 (250 * i + k) = t.1 k) ∧ t.1 240 ≤ d)
def TolQ (I : MI) (ρ : RIV) : Prop := ∃ td : Nat, td ≤ 20 ∧ I 1 12 = (td : Int) ∧ I 296 76 = (td : Int) ∧ ∀ i, i < td → (∃ c : Nat, c < 96 ∧ I 242 i = (c : Int) ∧ I 350 i = (c : Int) ∧ ((c % 12 : Nat) : Int) < aL ρ ∧ ((c / 12 : Nat) : Int) < aW ρ) ∧ I 243 i = I 351 i
def ltr (a : Int) : Int := a - 96
def keyW : List (List Int) := [[114, 105, 118, 101, 114], [100, 101, 112, 116, 104], [102, 108, 111, 119], [108, 101, 97, 112], [108, 101, 97, 118, 101, 114], [102, 108, 111, 111, 100], [99, 97, 114, 114, 121], [115, 108, 105, 112], [105, 102], [116, 104, 101, 110], [101, 108, 115, 101], [115, 116, 111, 110, 101, 115], [100, 101, 101, 112], [102, 111, 114, 99, 101], [109, 111, 115, 115], [97, 99, 114, 111, 115, 115], [97, 108, 111, 110, 103]]
/-- a word as a number -/
def wnum (w : List Int) : Int := w.foldl (fun n a => 27 * n + (a - 96)) 0
def KeyQ (J : MI) : Prop := ∀ k, k < 17 → J 303 k = wnum (keyW.getD k [])
def isPair (rv sp : Nat) : Prop := (rv = 11 ∧ sp = 30) ∨ (rv = 30 ∧ sp = 11)
def InvQ (n : Nat) (I J : MI) (rv sp : Nat) : Prop := ∃ (ρ : RIV) (s : BSt) (lv : Nat), isPair rv sp ∧ RivOK ρ ∧ RivX I rv ρ ∧ RivM I lv ρ ∧ I 296 18 = (lv : Int) ∧ BedQ I 49 ρ s ∧ (∀ k, k < 250 → I 331 k = s.1 k) ∧ s.1 240 ≤ 100 * (n : Int) ∧ TapQ I ∧ PlaQ I ∧ PasQ I ρ (100 * (n : Int)) ∧ SloQ I ρ (100 * (n : Int)) ∧ TolQ I ρ ∧ KeyQ J
theorem tapq_congr {I I' : MI} (h : TapQ I) (h1 : I' 2 1 = I 2 1) (h2 : I' 296 2 = I 296 2) (h3 : I' 3 = I 3) (h4 : I' 297 = I 297) : TapQ I' := by
  unfold TapQ at *
  rw [h1, h2, h3, h4]
  exact h
theorem pasq_congr {I I' : MI} {ρ : RIV} {d d' : Int} (h : PasQ I ρ d) (hd : d ≤ d') (h1 : ∀ a, 63 ≤ a → a ≤ 239 → I' a = I a) (h2 : I' 296 55 = I 296 55) (h3 : I' 334 = I 334) : PasQ I' ρ d' := by
  obtain ⟨u, nx, hu, hn, a, b, c, e⟩ := h
  refine ⟨u, nx, hu, hn, by rw [h1 63 (by omega) (by omega)]; exact a, by rw [h1 63 (by omega) (by omega)]; exact b, by rw [h2]; exact c, fun j hj => ?_⟩
  obtain ⟨t, t1, t2, t3⟩ := e j hj
  refine ⟨t, bedq_congr t1 (fun a h3 h4 => h1 a (by omega) (by omega)), by rw [h3]; exact t2, by omega⟩
theorem sloq_congr {I I' : MI} {ρ : RIV} {d d' : Int} (h : SloQ I ρ d) (hd : d ≤ d') (h1 : I' 241 = I 241) (h2 : ∀ a, 275 ≤ a → a ≤ 295 → I' a = I a) (h3 : I' 352 = I 352) (h4 : I' 353 = I 353) : SloQ I' ρ d' := by
  intro i hi
  obtain ⟨a, b, c⟩ := h i hi
  rw [h1, h3, h4]
  refine ⟨a, b, fun h => ?_⟩
  obtain ⟨t, t1, t2, t3⟩ := c h
  exact ⟨t, bedq_congr t1 (fun a h3 h4 => h2 a (by omega) (by omega)), t2, by omega⟩
theorem tolq_congr {I I' : MI} {ρ : RIV} (h : TolQ I ρ) (h1 : I' 1 12 = I 1 12) (h2 : I' 296 76 = I 296 76) (h3 : I' 242 = I 242) (h4 : I' 243 = I 243) (h5 : I' 350 = I 350) (h6 : I' 351 = I 351) : TolQ I' ρ := by
  unfold TolQ at *
  rw [h1, h2, h3, h4, h5, h6]
  exact h
/-- scratch of questions: the class's -/
def scrX (rv a : Nat) : Prop := (56 ≤ a ∧ a ≤ 62) ∨ (244 ≤ a ∧ a ≤ 274) ∨ a = rv + 12 ∨ a = rv + 13 ∨ a = rv + 17 ∨ a = rv + 18
def FrX (rv : Nat) (I I' : MI) : Prop := ∀ a, ¬ scrX rv a → I' a = I a
/-- .. the model's -/
def scrM (a : Nat) : Prop := (329 ≤ a ∧ a ≤ 330) ∨ (332 ≤ a ∧ a ≤ 333) ∨ (335 ≤ a ∧ a ≤ 349)
def FrQ (I I' : MI) : Prop := (∀ a, ¬ scrM a → a ≠ 296 → I' a = I a) ∧ ∀ k, k ≠ 51 → (k ≤ 55 ∨ k = 76) → I' 296 k = I 296 k
theorem frX_refl {rv : Nat} {I : MI} : FrX rv I I := fun _ _ => rfl
theorem frX_trans {rv : Nat} {I I' I2 : MI} (h : FrX rv I I') (h2 : FrX rv I' I2) : FrX rv I I2 := fun a ha => (h2 a ha).trans (h a ha)
theorem frQ_refl {I : MI} : FrQ I I := ⟨fun _ _ _ => rfl, fun _ _ _ => rfl⟩
theorem frQ_trans {I I' I2 : MI} (h : FrQ I I') (h2 : FrQ I' I2) : FrQ I I2 := ⟨fun a h3 h4 => (h2.1 a h3 h4).trans (h.1 a h3 h4), fun k h3 h4 => (h2.2 k h3 h4).trans (h.2 k h3 h4)⟩
theorem frM_Q {I I' : MI} (h : FrM I I') : FrQ I I' := by
  refine ⟨fun a h1 h2 => ?_, fun k h1 h2 => h.2 k h1⟩
  unfold scrM at h1
  exact h.1 a (by omega) (by omega) (by omega) (by omega) h2
theorem fr32_Q {I I' : MI} (h : ∀ a, a ≠ 332 → a ≠ 333 → I' a = I a) : FrQ I I' := by
  refine ⟨fun a h1 h2 => ?_, fun k h1 h2 => by rw [h 296 (by decide) (by decide)]⟩
  unfold scrM at h1
  exact h a (by omega) (by omega)
/-- a question leaves the picture -/
theorem invq_keep {n : Nat} {I I1 I2 J : MI} {rv sp : Nat} (h : InvQ n I J rv sp) (h1 : FrX rv I I1) (h2 : FrQ I1 I2) : InvQ (n + 1) I2 J rv sp := by
  obtain ⟨ρ, s, lv, hp, hρ, hx, hm, hl, hb, hn, hd, ht, hpl, hpa, hs, htl, hk⟩ := h
  have hp' := hp
  unfold isPair at hp'
  have a1 : ∀ a, a ≤ 55 → a ≠ rv + 12 → a ≠ rv + 13 → a ≠ rv + 17 → a ≠ rv + 18 → I2 a = I a := fun a b1 b2 b3 b4 b5 => by
    rw [h2.1 a (by unfold scrM; omega) (by omega), h1 a (by unfold scrX; omega)]
  have a2 : ∀ a, 63 ≤ a → a ≤ 243 → I2 a = I a := fun a b1 b2 => by
    rw [h2.1 a (by unfold scrM; omega) (by omega), h1 a (by unfold scrX; omega)]
  have a3 : ∀ a, 275 ≤ a → a ≤ 295 → I2 a = I a := fun a b1 b2 => by
    rw [h2.1 a (by unfold scrM; omega) (by omega), h1 a (by unfold scrX; omega)]
  have a4 : ∀ a, (297 ≤ a ∧ a ≤ 328) ∨ a = 331 ∨ a = 334 ∨ (350 ≤ a ∧ a ≤ 353) → I2 a = I a := fun a b1 => by
    rw [h2.1 a (by unfold scrM; omega) (by omega), h1 a (by unfold scrX; omega)]
  have a5 : ∀ k, k ≠ 51 → (k ≤ 55 ∨ k = 76) → I2 296 k = I 296 k := fun k b1 b2 => by
    rw [h2.2 k b1 b2, h1 296 (by unfold scrX; omega)]
  refine ⟨ρ, s, lv, hp, hρ, rivx_congr hx (fun a b1 b2 b3 b4 => a1 a (by omega) (by omega) (by omega) (by omega) (by omega)), rivm_congr hm (fun a b1 b2 => a4 a (by omega)), by rw [a5 18 (by decide) (by decide)]; exact hl, bedq_congr hb (fun a b1 b2 => a1 a (by omega) (by omega) (by omega) (by omega) (by omega)), fun k hk => by rw [a4 331 (by omega)]; exact hn k hk, by omega, tapq_congr ht (by rw [a1 2 (by omega) (by omega) (by omega) (by omega) (by omega)]) (a5 2 (by decide) (by decide)) (a1 3 (by omega) (by omega) (by omega) (by omega) (by omega)) (a4 297 (by omega)), ?_, pasq_congr hpa (by omega) (fun a b1 b2 => a2 a (by omega) (by omega)) (a5 55 (by decide) (by decide)) (a4 334 (by omega)), sloq_congr hs (by omega) (a2 241 (by omega) (by omega)) (fun a b1 b2 => a3 a b1 b2) (a4 352 (by omega)) (a4 353 (by omega)), tolq_congr htl (by rw [a1 1 (by omega) (by omega) (by omega) (by omega) (by omega)]) (a5 76 (by decide) (by decide)) (a2 242 (by omega) (by omega)) (a2 243 (by omega) (by omega)) (a4 350 (by omega)) (a4 351 (by omega)), hk⟩
  unfold PlaQ
  rw [a1 1 (by omega) (by omega) (by omega) (by omega) (by omega), a5 17 (by decide) (by decide)]
  exact hpl
theorem invq_more (j : Nat) (I J : MI) (rv sp : Nat) (h : InvQ j I J rv sp) : InvQ (j + 1) I J rv sp := invq_keep h frX_refl frQ_refl
/-- the model's copy of what is -/
theorem M_copyq {F : Nat} (hF : 1000000 ≤ F) {I J : MI} {ρ : RIV} {s : BSt} (hv : VOK ρ s) (hn : ∀ k, k < 250 → I 331 k = s.1 k) : ∃ I', f_M_copies F I J = some I' ∧ MSt I' s ∧ ∀ a, a ≠ 332 → a ≠ 333 → I' a = I a := by
  obtain ⟨I', e, h1, h2, h3⟩ := M_copies (F := F) (I := I) (J := J) hF (fun k hk => by rw [hn k (by omega)]; have := hv.1 k hk; omega)
  refine ⟨I', e, ⟨fun k hk => by rw [h1 k hk, hn k hk], fun c hc => ?_⟩, h3⟩
  rw [h2 c hc, hcn_congr (fun k hk => hn k (by omega)), vok_h hv c hc]
theorem ag_mk {fx : Option (Int × MI)} {fm : MI → Option (Int × MI)} {V : MI → Prop} {A B : Prop} {r : Int} {M N : MI} (h1 : fx = some (r, M)) (h2 : fm M = some (r, N)) (h3 : V N) (a : A) (b : B) : ∃ rx rm, fx = some rx ∧ fm rx.2 = some rm ∧ rx.1 = rm.1 ∧ V rm.2 ∧ A ∧ B := ⟨(r, M), (r, N), h1, h2, rfl, h3, a, b⟩
theorem FU_big : 1000000 ≤ FU := by decide +kernel
theorem ag_feed (j : Nat) (hj : j < 512) : ag_0 (InvQ j) (InvQ (j + 1)) := by
  intro I J rv sp x1 x2 x3 x4 x5 hrr hss hI _ _ _ _ _
  have hF := FU_big
  have hI0 := hI
  obtain ⟨ρ, s, lv, hp, hρ, hx, hm, hl, hb, hn, hd, ht, hpl, hpa, hs, htl, hk⟩ := hI
  obtain ⟨n, n1, n2, n3, n4⟩ := ht
  by_cases hc : n + 20 ≤ 2000
  · have st : ∀ (x : Int) (M : MI) (m : Nat), M 2 1 = (m : Int) → m + 4 ≤ 2000 → f_T_put FU x M = some (tpA M 2 1 3 m 4 (btX x)) := fun x M m h1 h2 => T_put hF h1 h2 x
    have sm : ∀ (x : Int) (M : MI) (m : Nat), M 296 2 = (m : Int) → m + 4 ≤ 2000 → f_M_put FU x M J = some (tpA M 296 2 297 m 4 (btM x)) := fun x M m h1 h2 => M_put hF h1 h2 x
    have p : ∀ (x : Int) (M : MI) (m k : Nat), tpA M 2 1 3 m 4 (btX x) 2 1 = ((m + 4 : Nat) : Int) := fun x M m k => tpA_len
    have e1 : f_X_feed FU x1 x2 x3 x4 x5 I = some (((n + 20 : Nat) : Int), tpA (tpA (tpA (tpA (tpA I 2 1 3 n 4 (btX x1)) 2 1 3 (n + 4) 4 (btX x2)) 2 1 3 (n + 4 + 4) 4 (btX x3)) 2 1 3 (n + 4 + 4 + 4) 4 (btX x4)) 2 1 3 (n + 4 + 4 + 4 + 4) 4 (btX x5)) := by
      unfold f_X_feed
      rw [n2, w32i (by omega) (by omega), if_pos (by omega)]
      rw [st x1 I n n2 (by omega), Option.bind_some, st x2 _ (n + 4) tpA_len (by omega), Option.bind_some, st x3 _ (n + 4 + 4) tpA_len (by omega), Option.bind_some, st x4 _ (n + 4 + 4 + 4) tpA_len (by omega), Option.bind_some, st x5 _ (n + 4 + 4 + 4 + 4) tpA_len (by omega), Option.bind_some, tpA_len]
    revert e1
    generalize hM : tpA (tpA (tpA (tpA (tpA I 2 1 3 n 4 (btX x1)) 2 1 3 (n + 4) 4 (btX x2)) 2 1 3 (n + 4 + 4) 4 (btX x3)) 2 1 3 (n + 4 + 4 + 4) 4 (btX x4)) 2 1 3 (n + 4 + 4 + 4 + 4) 4 (btX x5) = M
    have fM : ∀ a, a ≠ 2 → a ≠ 3 → M a = I a := by
      intro a h2 h3
      funext k
      rw [← hM]
      unfold tpA
      simp [h2, h3]
    have lM : M 2 1 = ((n + 20 : Nat) : Int) := by rw [← hM, tpA_len]
    have bM : M 3 = tpA (tpA (tpA (tpA (tpA I 2 1 3 n 4 (btX x1)) 2 1 3 (n + 4) 4 (btX x2)) 2 1 3 (n + 4 + 4) 4 (btX x3)) 2 1 3 (n + 4 + 4 + 4) 4 (btX x4)) 2 1 3 (n + 4 + 4 + 4 + 4) 4 (btX x5) 3 := by rw [hM]
    intro e1
    have e2 : f_M_feed FU x1 x2 x3 x4 x5 M J = some (((n + 20 : Nat) : Int), tpA (tpA (tpA (tpA (tpA M 296 2 297 n 4 (btM x1)) 296 2 297 (n + 4) 4 (btM x2)) 296 2 297 (n + 4 + 4) 4 (btM x3)) 296 2 297 (n + 4 + 4 + 4) 4 (btM x4)) 296 2 297 (n + 4 + 4 + 4 + 4) 4 (btM x5)) := by
      unfold f_M_feed
      rw [fM 296 (by decide) (by decide), n3, w32i (by omega) (by omega), if_pos (by omega)]
      rw [sm x1 M n (by rw [fM 296 (by decide) (by decide)]; exact n3) (by omega), Option.bind_some, sm x2 _ (n + 4) tpA_len (by omega), Option.bind_some, sm x3 _ (n + 4 + 4) tpA_len (by omega), Option.bind_some, sm x4 _ (n + 4 + 4 + 4) tpA_len (by omega), Option.bind_some, sm x5 _ (n + 4 + 4 + 4 + 4) tpA_len (by omega), Option.bind_some, tpA_len]
    revert e2
    generalize hN : tpA (tpA (tpA (tpA (tpA M 296 2 297 n 4 (btM x1)) 296 2 297 (n + 4) 4 (btM x2)) 296 2 297 (n + 4 + 4) 4 (btM x3)) 296 2 297 (n + 4 + 4 + 4) 4 (btM x4)) 296 2 297 (n + 4 + 4 + 4 + 4) 4 (btM x5) = N
    have lN : N 296 2 = ((n + 20 : Nat) : Int) := by rw [← hN, tpA_len]
    have fN : ∀ a k, ¬ (a = 296 ∧ k = 2) → a ≠ 297 → N a k = M a k := by
      intro a k h2 h3
      rw [← hN]
      unfold tpA
      simp [h2, h3]
    have fN2 : ∀ a, a ≠ 296 → a ≠ 297 → N a = M a := fun a h2 h3 => by
      funext k; exact fN a k (by omega) h3
    intro e2
    refine ag_mk (fm := fun M => f_M_feed FU x1 x2 x3 x4 x5 M J) (V := fun M => InvQ (j + 1) M J rv sp) e1 e2 ?_ hrr hss
    show InvQ (j + 1) N J rv sp
    have g : ∀ a, a ≠ 2 → a ≠ 3 → a ≠ 296 → a ≠ 297 → N a = I a := fun a h2 h3 h4 h5 => (fN2 a h4 h5).trans (fM a h2 h3)
    have g2 : ∀ k, k ≠ 2 → N 296 k = I 296 k := fun k hk => (fN 296 k (by omega) (by decide)).trans (by rw [fM 296 (by decide) (by decide)])
    have hp' := hp
    unfold isPair at hp'
    refine ⟨ρ, s, lv, hp, hρ, rivx_congr hx (fun a b1 b2 b3 b4 => g a (by omega) (by omega) (by omega) (by omega)), rivm_congr hm (fun a b1 b2 => g a (by omega) (by omega) (by omega) (by omega)), by rw [g2 18 (by decide)]; exact hl, bedq_congr hb (fun a b1 b2 => g a (by omega) (by omega) (by omega) (by omega)), fun k hk => by rw [g 331 (by decide) (by decide) (by decide) (by decide)]; exact hn k hk, by omega, ⟨n + 20, by omega, ?_, lN, fun k hk => ?_⟩, ?_, pasq_congr hpa (by omega) (fun a b1 b2 => g a (by omega) (by omega) (by omega) (by omega)) (g2 55 (by decide)) (g 334 (by decide) (by decide) (by decide) (by decide)), sloq_congr hs (by omega) (g 241 (by decide) (by decide) (by decide) (by decide)) (fun a b1 b2 => g a (by omega) (by omega) (by omega) (by omega)) (g 352 (by decide) (by decide) (by decide) (by decide)) (g 353 (by decide) (by decide) (by decide) (by decide)), tolq_congr htl (by rw [g 1 (by decide) (by decide) (by decide) (by decide)]) (g2 76 (by decide)) (g 242 (by decide) (by decide) (by decide) (by decide)) (g 243 (by decide) (by decide) (by decide) (by decide)) (g 350 (by decide) (by decide) (by decide) (by decide)) (g 351 (by decide) (by decide) (by decide) (by decide)), hk⟩
    · rw [fN2 2 (by decide) (by decide), lM]
    · rw [fN2 3 (by decide) (by decide), bM, ← hN]
      unfold tpA
      simp only [show ¬ ((3 : Nat) = 2 ∧ k = 1) by omega, show ¬ ((297 : Nat) = 296 ∧ k = 2) by omega, if_false, true_and]
      have b1 : ∀ x i, i < 4 → btX x i = btM x i := fun x i hi => bt_eq x i hi
      by_cases e5 : n + 4 + 4 + 4 + 4 ≤ k ∧ k < n + 4 + 4 + 4 + 4 + 4
      · rw [if_pos e5, if_pos e5]; exact b1 _ _ (by omega)
      rw [if_neg e5, if_neg e5]
      by_cases e4 : n + 4 + 4 + 4 ≤ k ∧ k < n + 4 + 4 + 4 + 4
      · rw [if_pos e4, if_pos e4]; exact b1 _ _ (by omega)
      rw [if_neg e4, if_neg e4]
      by_cases e3 : n + 4 + 4 ≤ k ∧ k < n + 4 + 4 + 4
      · rw [if_pos e3, if_pos e3]; exact b1 _ _ (by omega)
      rw [if_neg e3, if_neg e3]
      by_cases e2 : n + 4 ≤ k ∧ k < n + 4 + 4
      · rw [if_pos e2, if_pos e2]; exact b1 _ _ (by omega)
      rw [if_neg e2, if_neg e2]
      by_cases e1 : n ≤ k ∧ k < n + 4
      · rw [if_pos e1, if_pos e1]; exact b1 _ _ (by omega)
      rw [if_neg e1, if_neg e1, fM 297 (by decide) (by decide)]
      exact n4 k (by omega)
    · unfold PlaQ
      rw [g 1 (by decide) (by decide) (by decide) (by decide), g2 17 (by decide)]
      exact hpl
  · refine ag_mk (r := -1) (M := I) (N := I) (fm := fun M => f_M_feed FU x1 x2 x3 x4 x5 M J) (V := fun M => InvQ (j + 1) M J rv sp) ?_ ?_ (invq_more j I J rv sp hI0) hrr hss
    · unfold f_X_feed
      rw [n2, w32i (by omega) (by omega), if_neg (by omega)]
    · show f_M_feed FU x1 x2 x3 x4 x5 I J = _
      unfold f_M_feed
      rw [n3, w32i (by omega) (by omega), if_neg (by omega)]
theorem ag_place (j : Nat) (hj : j < 512) : ag_3 (InvQ j) (InvQ (j + 1)) := by
  intro I J rv sp hrr hss hI
  refine ⟨_, _, rfl, rfl, ?_, invq_more j I J rv sp hI, hrr, hss⟩
  obtain ⟨ρ, s, lv, hp, hρ, hx, hm, hl, hb, hn, hd, ht, hpl, _⟩ := hI
  exact hpl
theorem ag_back (j : Nat) (hj : j < 512) : ag_1 (InvQ j) (InvQ (j + 1)) := by
  intro I J rv sp x1 hrr hss hI _
  have hI0 := hI
  obtain ⟨ρ, s, lv, hp, hρ, hx, hm, hl, hb, hn, hd, ht, hpl, hpa, hs, htl, hk⟩ := hI
  obtain ⟨n, n1, n2, n3, n4⟩ := ht
  by_cases h1 : x1 < 0
  · exact ⟨(-1, I), (-1, I), by unfold f_X_back; rw [if_pos h1], by unfold f_M_back; rw [if_pos h1], rfl, invq_more j I J rv sp hI0, hrr, hss⟩
  by_cases h2 : x1 ≤ (n : Int)
  · refine ag_mk (r := (n : Int) - x1) (M := up2 I 2 1 ((n : Int) - x1)) (N := up2 (up2 I 2 1 ((n : Int) - x1)) 296 2 ((n : Int) - x1)) (fm := fun M => f_M_back FU x1 M J) (V := fun M => InvQ (j + 1) M J rv sp) ?_ ?_ ?_ hrr hss
    · unfold f_X_back
      rw [if_neg h1, n2, if_pos h2, w32i (by omega) (by omega), up2_same]
    · show f_M_back FU x1 _ J = _
      unfold f_M_back
      rw [if_neg h1, up2_r (show (296 : Nat) ≠ 2 by decide), n3, if_pos h2, w32i (by omega) (by omega), up2_same]
    show InvQ (j + 1) (up2 (up2 I 2 1 ((n : Int) - x1)) 296 2 ((n : Int) - x1)) J rv sp
    generalize hN : up2 (up2 I 2 1 ((n : Int) - x1)) 296 2 ((n : Int) - x1) = N
    have g : ∀ a, a ≠ 2 → a ≠ 296 → N a = I a := fun a h2 h3 => by rw [← hN, up2_off h3, up2_off h2]
    have g2 : ∀ k, k ≠ 2 → N 296 k = I 296 k := fun k hk => by rw [← hN, up2_k hk, up2_r (by decide)]
    have hp' := hp
    unfold isPair at hp'
    refine ⟨ρ, s, lv, hp, hρ, rivx_congr hx (fun a b1 b2 b3 b4 => g a (by omega) (by omega)), rivm_congr hm (fun a b1 b2 => g a (by omega) (by omega)), by rw [g2 18 (by decide)]; exact hl, bedq_congr hb (fun a b1 b2 => g a (by omega) (by omega)), fun k hk => by rw [g 331 (by decide) (by decide)]; exact hn k hk, by omega, ⟨n - x1.toNat, by omega, ?_, ?_, fun k hk => ?_⟩, ?_, pasq_congr hpa (by omega) (fun a b1 b2 => g a (by omega) (by omega)) (g2 55 (by decide)) (g 334 (by decide) (by decide)), sloq_congr hs (by omega) (g 241 (by decide) (by decide)) (fun a b1 b2 => g a (by omega) (by omega)) (g 352 (by decide) (by decide)) (g 353 (by decide) (by decide)), tolq_congr htl (by rw [g 1 (by decide) (by decide)]) (g2 76 (by decide)) (g 242 (by decide) (by decide)) (g 243 (by decide) (by decide)) (g 350 (by decide) (by decide)) (g 351 (by decide) (by decide)), hk⟩
    · rw [← hN, up2_r (by decide), up2_same]; omega
    · rw [← hN, up2_same]; omega
    · rw [g 3 (by decide) (by decide), g 297 (by decide) (by decide)]; exact n4 k (by omega)
    · unfold PlaQ
      rw [g 1 (by decide) (by decide), g2 17 (by decide)]
      exact hpl
  · refine ag_mk (r := -1) (M := I) (N := I) (fm := fun M => f_M_back FU x1 M J) (V := fun M => InvQ (j + 1) M J rv sp) ?_ ?_ (invq_more j I J rv sp hI0) hrr hss
    · unfold f_X_back
      rw [if_neg h1, n2, if_neg h2]
    · show f_M_back FU x1 I J = _
      unfold f_M_back
      rw [if_neg h1, n3, if_neg h2]
