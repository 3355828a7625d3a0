/-! fords: the class's search -/
def fsX (cf : Nat → Int) (c : Nat) : Int := if cf c = -1 then 1 else 0
def fvX (gt : Nat → Int) (c : Nat) : Int := if gt c = -3 then 0 else 1
def ftX (gt : Nat → Int) (c : Nat) : Int := if gt c = -2 then 1 else 0
def faX (gt : Nat → Int) (d c : Nat) : Int := if gt d = (c : Int) then 1 else 0
theorem fsX_0 {cf : Nat → Int} {c : Nat} : fsX cf c = 0 ↔ cf c ≠ -1 := by unfold fsX; split <;> simp_all
theorem fvX_0 {gt : Nat → Int} {c : Nat} : fvX gt c = 0 ↔ gt c = -3 := by unfold fvX; split <;> simp_all
theorem fvX_1 {gt : Nat → Int} {c : Nat} : fvX gt c = 1 ↔ gt c ≠ -3 := by unfold fvX; split <;> simp_all
theorem ftX_1 {gt : Nat → Int} {c : Nat} : ftX gt c = 1 ↔ gt c = -2 := by unfold ftX; split <;> simp_all
theorem faX_1 {gt : Nat → Int} {d c : Nat} : faX gt d c = 1 ↔ gt d = (c : Int) := by unfold faX; split <;> simp_all
theorem faX_0 {gt : Nat → Int} {d c : Nat} : faX gt d c = 0 ↔ gt d ≠ (c : Int) := by unfold faX; split <;> simp_all
def FlV (ρ : RIV) (w cf gt : Nat → Int) : Prop := FlX cf gt ∧ ∀ c, c < 96 → (cf c = -1 → lpB ρ 96 c = true ∧ 0 ≤ w c) ∧ (gt c = -2 → enB ρ c = true) ∧ ∀ d : Nat, d < 96 → gt c = (d : Int) → lpB ρ c d = true ∧ 0 ≤ w d
theorem flv_val {ρ : RIV} {w cf gt : Nat → Int} (h : FlV ρ w cf gt) : FVal ρ w (fsX cf) (fvX gt) (ftX gt) (faX gt) := by
  refine ⟨flx_flo h.1, fun c hc => ⟨?_, ?_, ?_⟩, fun d c hd hc => ?_⟩
  · unfold fsX
    by_cases g : cf c = -1
    · rw [if_pos g]; exact Or.inr ⟨rfl, (h.2 c hc).1 g⟩
    · rw [if_neg g]; exact Or.inl rfl
  · unfold fvX; split
    · exact Or.inl rfl
    · exact Or.inr rfl
  · unfold ftX
    by_cases g : gt c = -2
    · rw [if_pos g]; exact Or.inr ⟨rfl, (h.2 c hc).2.1 g⟩
    · rw [if_neg g]; exact Or.inl rfl
  · unfold faX
    by_cases g : gt d = (c : Int)
    · rw [if_pos g]; exact Or.inr ⟨rfl, (h.2 d hd).2.2 c hc g⟩
    · rw [if_neg g]; exact Or.inl rfl
abbrev BX (ρ : RIV) (w cf gt : Nat → Int) (I : MI) (tail : Nat) : Prop := BQ 253 254 250 4 (-3) (-1) (SrG ρ w (fsX cf)) (RsG ρ w (fvX gt) (faX gt)) I tail
abbrev GrX (t t' : Nat) (I I' : MI) : Prop := Gro 253 254 250 4 (-3) t t' I I'
abbrev DX (ρ : RIV) (w gt : Nat → Int) (I : MI) (head : Nat) : Prop := Dn 253 254 (-3) (RsG ρ w (fvX gt) (faX gt)) (SkG ρ (ftX gt)) I head
theorem comeTo_eq {F c tail : Nat} {ρ : RIV} {w cf gt : Nat → Int} {I : MI} (hf : FlX cf gt) (h1 : I 251 = cf) (h2 : I 252 = gt) (hq : BX ρ w cf gt I tail) (hc : c < 96) (hp : I 253 c ≠ -3) : ∃ I' tail', f_F_comeTo F (c : Int) I = some I' ∧ BX ρ w cf gt I' tail' ∧ GrX tail tail' I I' ∧ ∀ y, y < 192 → RsG ρ w (fvX gt) (faX gt) c y → I' 253 y ≠ -3 := by
  obtain ⟨f1, f2, f3, f4⟩ := hf c hc
  unfold f_F_comeTo
  rw [if_pos (by omega), Int.toNat_natCast, h1, h2]
  have from_in : ∀ y, RsG ρ w (fvX gt) (faX gt) c y → (y = 96 + c ∧ gt c = -3) ∨ ∃ d : Nat, d < 96 ∧ y = 96 + d ∧ cf c = (d : Int) := by
    intro y hr
    rcases hr with ⟨c', b1, b2, b3, b4⟩ | ⟨c', d, b1, b2, b3, b4, b5⟩ | ⟨d, c', b1, b2, b3, b4, _⟩ | ⟨c', b1, b2, b3, _⟩
    · subst b2
      exact Or.inl ⟨b3, fvX_0.mp b4⟩
    · subst b3
      exact Or.inr ⟨d, b2, b4, (f4 d b2).mpr (faX_1.mp b5)⟩
    · omega
    · omega
  by_cases g : gt c = -3
  · rw [if_neg (fun h => h g), w32i (by omega) (by omega), show (96 : Int) + (c : Int) = ((96 + c : Nat) : Int) by omega, reach_g]
    obtain ⟨I', t', e1, e2, e3, e4⟩ := reach_q (by decide) hq (y := 96 + c) (v := (c : Int)) (by omega) (by omega) (Or.inr ⟨c, by omega, rfl, hp, Or.inl ⟨c, hc, rfl, rfl, fvX_0.mpr g⟩⟩)
    rw [e1, Option.bind_some]
    refine ⟨I', t', rfl, e2, e3, fun y hy hr => ?_⟩
    rcases from_in y hr with ⟨b, _⟩ | ⟨d, b1, b2, b3⟩
    · rw [b]; exact e4
    · have := f3.mpr g; omega
  · rw [if_pos g]
    by_cases g2 : cf c < 0
    · rw [if_pos g2]
      refine ⟨I, tail, rfl, hq, gro_refl, fun y hy hr => ?_⟩
      rcases from_in y hr with ⟨_, b⟩ | ⟨d, b1, b2, b3⟩
      · exact absurd b g
      · omega
    · rw [if_neg g2, w32i (by omega) (by omega)]
      obtain ⟨d, hd⟩ : ∃ d : Nat, cf c = (d : Int) := ⟨(cf c).toNat, by omega⟩
      have hdl : d < 96 := by omega
      rw [hd, show (96 : Int) + (d : Int) = ((96 + d : Nat) : Int) by omega, reach_g]
      obtain ⟨I', t', e1, e2, e3, e4⟩ := reach_q (by decide) hq (y := 96 + d) (v := (c : Int)) (by omega) (by omega) (Or.inr ⟨c, by omega, rfl, hp, Or.inr (Or.inl ⟨c, d, hc, hdl, rfl, rfl, faX_1.mpr ((f4 d hdl).mp hd)⟩)⟩)
      rw [e1, Option.bind_some]
      refine ⟨I', t', rfl, e2, e3, fun y hy hr => ?_⟩
      rcases from_in y hr with ⟨_, b⟩ | ⟨d', b1, b2, b3⟩
      · exact absurd b g
      · have : d' = d := by omega
        rw [b2, this]; exact e4
theorem goOn_loop {F rv c tail : Nat} (hF : 1000000 ≤ F) (hrv : rv = 11 ∨ rv = 30) {ρ : RIV} {w cf gt : Nat → Int} {I : MI} (hρ : RivOK ρ) (hx : RivX I rv ρ) (hw : ∀ c, c < 96 → I 245 c = w c) (hwr : ∀ c, c < 96 → 0 ≤ w c → inRv ρ c = true) (h2 : I 252 = gt) (hq : BX ρ w cf gt I tail) (hc : c < 96) (hp : I 253 (96 + c) ≠ -3) : ∃ I' tail', f_F_goOnFrom_b20 F rv (c : Int) I = some I' ∧ BX ρ w cf gt I' tail' ∧ GrX tail tail' I I' ∧ ∀ v : Nat, v < 96 → 0 ≤ w v → lpB ρ c v = true → gt c ≠ (v : Int) → I' 253 v ≠ -3 := by
  have h40 := (clN_le hρ).1
  unfold f_F_goOnFrom_b20
  rw [cl_eq hρ hx.2.2.1, Option.bind_some]
  have k := wpo_iter (step := fun q : Int × MI => f_F_goOnFrom_L29 F rv (c : Int) ((clN ρ : Nat) : Int) q.1 q.2) (Q := fun I' => ∃ tail', BX ρ w cf gt I' tail' ∧ GrX tail tail' I I' ∧ ∀ v : Nat, v < 96 → 0 ≤ w v → lpB ρ c v = true → gt c ≠ (v : Int) → I' 253 v ≠ -3) (fun q => ∃ n tail' : Nat, n ≤ clN ρ ∧ q.1 = (n : Int) ∧ BX ρ w cf gt q.2 tail' ∧ GrX tail tail' I q.2 ∧ ∀ v i : Nat, v < 96 → i < n → lfA ρ c i = (v : Int) → 0 ≤ w v → gt c ≠ (v : Int) → q.2 253 v ≠ -3) (fun q => clN ρ - q.1.toNat) ?_ (F := F) (s := ((0 : Int), I)) (by dsimp only; omega) ⟨0, tail, by omega, rfl, hq, gro_refl, fun v i _ hi => absurd hi (by omega)⟩
  · obtain ⟨I', e, t', q1, q2, q3⟩ := k
    rw [e, Option.bind_some]
    exact ⟨I', t', rfl, q1, q2, q3⟩
  rintro ⟨x, N⟩ ⟨n, t', p1, p2, p3, p4, p5⟩
  dsimp only at p2 p3 p4 p5 ⊢
  subst p2
  have fr : ∀ a, a ≠ 250 → a ≠ 253 → a ≠ 254 → N a = I a := fun a b1 b2 b3 => gro_off p4 b1 b2 b3
  unfold f_F_goOnFrom_L29
  refine wpo_i (fun hc2 => wpo_s ?_) (fun hc2 => ?_)
  · have : n = clN ρ := by omega
    subst this
    refine ⟨t', p3, p4, fun v hv hwv hl hg => ?_⟩
    obtain ⟨i', q1, q2⟩ := lf_out hρ hc hv (hwr v hv hwv) hl
    exact p5 v i' hv q1 q2 hwv hg
  have hi : n < clN ρ := by omega
  rw [lf_eq (ρ := ρ) hρ (by rw [fr rv (by omega) (by omega) (by omega)]; exact hx.1) (by rw [fr rv (by omega) (by omega) (by omega)]; exact hx.2.1) hc (by omega), Option.bind_some, w32i (x := (n : Int) + 1) (by omega) (by omega)]
  have keep : (∀ v : Nat, v < 96 → lfA ρ c n = (v : Int) → 0 ≤ w v → gt c ≠ (v : Int) → N 253 v ≠ -3) → ((∃ n' tail' : Nat, n' ≤ clN ρ ∧ (n : Int) + 1 = (n' : Int) ∧ BX ρ w cf gt N tail' ∧ GrX tail tail' I N ∧ ∀ v i : Nat, v < 96 → i < n' → lfA ρ c i = (v : Int) → 0 ≤ w v → gt c ≠ (v : Int) → N 253 v ≠ -3) ∧ clN ρ - ((n : Int) + 1).toNat < clN ρ - ((n : Int)).toNat) := by
    intro hk
    refine ⟨⟨n + 1, t', by omega, by omega, p3, p4, fun v i hv hi' e hwv hg => ?_⟩, by omega⟩
    by_cases ei : i = n
    · rw [ei] at e; exact hk v hv e hwv hg
    · exact p5 v i hv (by omega) e hwv hg
  rcases lf_in hρ hc hi with e | ⟨to, e, t1, t2⟩
  · rw [e]
    refine wpo_g rfl (wpo_s (keep (fun v hv ev => ?_)))
    rw [e] at ev
    omega
  · rw [e]
    refine wpo_n (by clear keep; omega) (wpo_g (by clear keep; omega) ?_)
    rw [Int.toNat_natCast, fr 245 (by decide) (by decide) (by decide), hw to t1]
    refine wpo_i (fun hc2 => wpo_s (keep (fun v hv ev hwv => ?_))) (fun hc2 => wpo_g (by clear keep; omega) ?_)
    · rw [e] at ev
      have : v = to := by clear keep; omega
      rw [this] at hwv
      clear keep
      omega
    rw [Int.toNat_natCast, fr 252 (by decide) (by decide) (by decide), h2]
    refine wpo_i (fun hc3 => wpo_s (keep (fun v hv ev hwv hg => ?_))) (fun hc3 => ?_)
    · rw [e] at ev
      exact absurd (hc3.trans ev) hg
    clear keep
    rw [w32i (by omega) (by omega), show (96 : Int) + (c : Int) = ((96 + c : Nat) : Int) by omega, reach_g]
    obtain ⟨I', t2', e1, e2, e3, e4⟩ := reach_q (by decide) p3 (y := to) (v := ((96 + c : Nat) : Int)) (by omega) (by omega) (Or.inr ⟨96 + c, by omega, rfl, p4.2.1 _ (by omega) hp, Or.inr (Or.inr (Or.inl ⟨c, to, t1, hc, rfl, rfl, t2, by omega, faX_0.mpr hc3⟩))⟩)
    rw [e1, Option.bind_some]
    refine wpo_s ⟨⟨n + 1, t2', by omega, by dsimp only; omega, e2, gro_trans p4 e3, fun v i hv hi' ev hwv hg => ?_⟩, by dsimp only; omega⟩
    by_cases ei : i = n
    · rw [ei, e] at ev
      have : v = to := by omega
      rw [this]; exact e4
    · exact e3.2.1 v (by omega) (p5 v i hv (by omega) ev hwv hg)
theorem goOn_eq {F rv c tail : Nat} (hF : 1000000 ≤ F) (hrv : rv = 11 ∨ rv = 30) {ρ : RIV} {w cf gt : Nat → Int} {I : MI} (hρ : RivOK ρ) (hx : RivX I rv ρ) (hw : ∀ c, c < 96 → I 245 c = w c) (hwr : ∀ c, c < 96 → 0 ≤ w c → inRv ρ c = true) (h2 : I 252 = gt) (hq : BX ρ w cf gt I tail) (hc : c < 96) (hp : I 253 (96 + c) ≠ -3) : ∃ I' tail', f_F_goOnFrom F rv (c : Int) I = some I' ∧ BX ρ w cf gt I' tail' ∧ GrX tail tail' I I' ∧ ∀ y, y < 192 → RsG ρ w (fvX gt) (faX gt) (96 + c) y → I' 253 y ≠ -3 := by
  have from_out : ∀ y, RsG ρ w (fvX gt) (faX gt) (96 + c) y → (y < 96 ∧ 0 ≤ w y ∧ lpB ρ c y = true ∧ gt c ≠ (y : Int)) ∨ (y = c ∧ gt c ≠ -3) := by
    intro y hr
    rcases hr with ⟨c', b1, b2, b3, b4⟩ | ⟨c', d, b1, b2, b3, b4, b5⟩ | ⟨d, c', b1, b2, b3, b4, b5, b6, b7⟩ | ⟨c', b1, b2, b3, b4⟩
    · omega
    · omega
    · have : d = c := by omega
      subst this
      subst b4
      exact Or.inl ⟨b1, b6, b5, faX_0.mp b7⟩
    · have : c' = c := by omega
      subst this
      exact Or.inr ⟨b3, fvX_1.mp b4⟩
  unfold f_F_goOnFrom
  rw [if_pos (by omega), Int.toNat_natCast, h2]
  by_cases g : gt c = -3
  · rw [if_pos g]
    obtain ⟨I', t', e1, e2, e3, e4⟩ := goOn_loop (F := F) hF hrv hρ hx hw hwr h2 hq hc hp
    refine ⟨I', t', e1, e2, e3, fun y hy hr => ?_⟩
    rcases from_out y hr with ⟨b1, b2, b3, b4⟩ | ⟨_, b⟩
    · exact e4 y b1 b2 b3 b4
    · exact absurd g b
  · rw [if_neg g, w32i (by omega) (by omega), show (96 : Int) + (c : Int) = ((96 + c : Nat) : Int) by omega, reach_g]
    obtain ⟨I1, t1, e1, e2, e3, e4⟩ := reach_q (by decide) hq (y := c) (v := ((96 + c : Nat) : Int)) (by omega) (by omega) (Or.inr ⟨96 + c, by omega, rfl, hp, Or.inr (Or.inr (Or.inr ⟨c, hc, rfl, rfl, fvX_1.mpr g⟩))⟩)
    have fr : ∀ a, a ≠ 250 → a ≠ 253 → a ≠ 254 → I1 a = I a := fun a b1 b2 b3 => gro_off e3 b1 b2 b3
    rw [e1, Option.bind_some]
    obtain ⟨I', t', q1, q2, q3, q4⟩ := goOn_loop (F := F) (rv := rv) (I := I1) hF hrv hρ (rivx_congr hx (fun a b1 b2 b3 b4 => fr a (by omega) (by omega) (by omega))) (fun k hk => by rw [fr 245 (by decide) (by decide) (by decide)]; exact hw k hk) hwr (by rw [fr 252 (by decide) (by decide) (by decide)]; exact h2) e2 hc (e3.2.1 _ (by omega) hp)
    refine ⟨I', t', q1, q2, gro_trans e3 q3, fun y hy hr => ?_⟩
    rcases from_out y hr with ⟨b1, b2, b3, b4⟩ | ⟨b, _⟩
    · exact q4 y b1 b2 b3 b4
    · rw [b]; exact q3.2.1 c (by omega) e4
theorem seek_eq {F rv : Nat} (hF : 1000000 ≤ F) (hrv : rv = 11 ∨ rv = 30) {ρ : RIV} {w cf gt : Nat → Int} {I : MI} (hρ : RivOK ρ) (hx : RivX I rv ρ) (hw : ∀ c, c < 96 → I 245 c = w c) (hwr : ∀ c, c < 96 → 0 ≤ w c → inRv ρ c = true) (h1 : I 251 = cf) (h2 : I 252 = gt) (hf : FlV ρ w cf gt) : ∃ (r : Int) (I' : MI), f_F_seek F rv I = some (r, I') ∧ (∀ a, a ≠ 250 → a ≠ 253 → a ≠ 254 → I' a = I a) ∧ ((∃ tail c : Nat, c < 96 ∧ r = (c : Int) ∧ BX ρ w cf gt I' tail ∧ I' 253 (96 + c) ≠ -3 ∧ enB ρ c = true ∧ gt c ≠ -2) ∨ (r = -1 ∧ FMax ρ w (sumN (fsX cf) 96))) := by
  unfold f_F_seek
  have z0 : ∀ a, a ≠ 250 → a ≠ 253 → up2 (fillA I 253 192 (-3)) 250 4 0 a = I a := fun a b1 b2 => by
    rw [up2_off b1]; funext k; unfold fillA; rw [if_neg (by omega)]
  have z1 : ∀ y, y < 192 → up2 (fillA I 253 192 (-3)) 250 4 0 253 y = -3 := fun y hy => by
    rw [up2_r (by decide)]; unfold fillA; rw [if_pos ⟨rfl, hy⟩]
  have z2 : up2 (fillA I 253 192 (-3)) 250 4 0 250 4 = 0 := up2_same
  revert z0 z1 z2
  generalize up2 (fillA I 253 192 (-3)) 250 4 0 = Z
  intro z0 z1 z2
  have bz : BX ρ w cf gt Z 0 := ⟨fun _ => 0, z2, cnt_none (fun y hy => by simp [z1 y hy]), fun i hi => absurd hi (by omega), fun y hy h => absurd (z1 y hy) h⟩
  have k1 := wpo_iter (step := fun q : Int × MI => f_F_seek_L16 F rv q.1 q.2) (Q := fun N => ∃ t, BX ρ w cf gt N t ∧ GrX 0 t Z N ∧ ∀ y, SrG ρ w (fsX cf) y → N 253 y ≠ -3) (fun q => ∃ n t : Nat, n ≤ 96 ∧ q.1 = (n : Int) ∧ BX ρ w cf gt q.2 t ∧ GrX 0 t Z q.2 ∧ ∀ y, y < n → SrG ρ w (fsX cf) y → q.2 253 y ≠ -3) (fun q => 96 - q.1.toNat) ?_ (F := F) (s := ((0 : Int), Z)) (by dsimp only; omega) ⟨0, 0, by omega, rfl, bz, gro_refl, fun y hy => absurd hy (by omega)⟩
  · obtain ⟨I1, e1, t1, b1, g1, s1⟩ := k1
    rw [e1, Option.bind_some]
    have k2 := wpo_iter (step := fun q : Int × MI => f_F_seek_L72 F rv q.1 q.2) (Q := fun e => ∃ (N : MI) (tail : Nat), BX ρ w cf gt N tail ∧ GrX t1 tail I1 N ∧ ((∃ c : Nat, c < 96 ∧ e = .inl ((c : Int), N) ∧ N 253 (96 + c) ≠ -3 ∧ enB ρ c = true ∧ gt c ≠ -2) ∨ (e = .inr N ∧ DX ρ w gt N tail))) (fun q => ∃ head tail : Nat, head ≤ tail ∧ q.1 = (head : Int) ∧ BX ρ w cf gt q.2 tail ∧ GrX t1 tail I1 q.2 ∧ DX ρ w gt q.2 head) (fun q => 192 - q.1.toNat) ?_ (F := F) (s := ((0 : Int), I1)) (by dsimp only; omega) ⟨0, t1, by omega, rfl, b1, gro_refl, fun i x hi => absurd hi (by omega)⟩
    · obtain ⟨e, e2, N, tail, q1, q2, q3⟩ := k2
      rw [e2, Option.bind_some]
      have frN : ∀ a, a ≠ 250 → a ≠ 253 → a ≠ 254 → N a = I a := fun a c1 c2 c3 => by
        rw [gro_off q2 c1 c2 c3, gro_off g1 c1 c2 c3, z0 a c1 c2]
      rcases q3 with ⟨c, c1, c2, c3, c4, c5⟩ | ⟨c2, c3⟩
      · rw [c2]
        exact ⟨(c : Int), N, rfl, frN, Or.inl ⟨tail, c, c1, rfl, q1, c3, c4, c5⟩⟩
      · rw [c2]
        exact ⟨-1, N, rfl, frN, Or.inr ⟨rfl, none_max (flv_val hf) q1 c3 (fun y hy => q2.2.1 y (by have := hy.1; omega) (s1 y hy))⟩⟩
    · rintro ⟨x, N⟩ ⟨head, tail, p1, p2, p3, p4, p5⟩
      dsimp only at p2 p3 p4 p5 ⊢
      subst p2
      have fr : ∀ a, a ≠ 250 → a ≠ 253 → a ≠ 254 → N a = I a := fun a c1 c2 c3 => by
        rw [gro_off p4 c1 c2 c3, gro_off g1 c1 c2 c3, z0 a c1 c2]
      have hxN : RivX N rv ρ := rivx_congr hx (fun a b1 b2 b3 b4 => fr a (by omega) (by omega) (by omega))
      obtain ⟨l1, l2⟩ := bq_le p3
      unfold f_F_seek_L72
      rw [l1]
      refine wpo_i (fun hc => wpo_s ?_) (fun hc => wpo_n (by omega) (wpo_g (by omega) ?_))
      · have : head = tail := by omega
        subst this
        exact ⟨N, head, p3, p4, Or.inr ⟨rfl, p5⟩⟩
      rw [Int.toNat_natCast]
      obtain ⟨y, y1, y2, y3⟩ : ∃ y : Nat, y < 192 ∧ N 254 head = (y : Int) ∧ N 253 y ≠ -3 := by
        obtain ⟨_, _, _, q, _⟩ := p3
        exact q head (by omega)
      rw [y2]
      refine wpo_i (fun hc2 => ?_) (fun hc2 => ?_)
      · obtain ⟨c, hc3⟩ : ∃ c, y = 96 + c := ⟨y - 96, by omega⟩
        subst hc3
        have hcl : c < 96 := by omega
        have ew : w32 (((96 + c : Nat) : Int) - 96) = (c : Int) := by rw [w32i (by omega) (by omega)]; omega
        rw [ew, far_eq hρ (by rw [fr rv (by omega) (by omega) (by omega)]; exact hx.2.1) (by rw [fr rv (by omega) (by omega) (by omega)]; exact hx.2.2.1) hcl, Option.bind_some]
        have go : (enB ρ c = true → gt c = -2) → wpo (f_F_seek_b142in72 F rv (head : Int) (c : Int) N) (fun r => Sum.elim (fun e : (Int × MI) ⊕ MI => ∃ (N : MI) (tail : Nat), BX ρ w cf gt N tail ∧ GrX t1 tail I1 N ∧ ((∃ c : Nat, c < 96 ∧ e = .inl ((c : Int), N) ∧ N 253 (96 + c) ≠ -3 ∧ enB ρ c = true ∧ gt c ≠ -2) ∨ (e = .inr N ∧ DX ρ w gt N tail))) (fun s' : Int × MI => (∃ head tail : Nat, head ≤ tail ∧ s'.1 = (head : Int) ∧ BX ρ w cf gt s'.2 tail ∧ GrX t1 tail I1 s'.2 ∧ DX ρ w gt s'.2 head) ∧ 192 - s'.1.toNat < 192 - ((head : Int)).toNat) r) := by
          intro hk
          unfold f_F_seek_b142in72
          obtain ⟨I', t', q1, q2, q3, q4⟩ := goOn_eq (F := F) hF hrv hρ hxN (fun k hk => by rw [fr 245 (by decide) (by decide) (by decide)]; exact hw k hk) hwr (by rw [fr 252 (by decide) (by decide) (by decide)]; exact h2) p3 hcl y3
          rw [q1, Option.bind_some, w32i (by omega) (by omega)]
          refine wpo_s ⟨⟨head + 1, t', by have := q3.1; omega, by dsimp only; omega, q2, gro_trans p4 q3, dn_s p5 (by omega) q3 y2 (fun c' hc' e he => ?_) q4⟩, by dsimp only; omega⟩
          have : c' = c := by omega
          rw [this] at he ⊢
          exact ftX_1.mpr (hk he)
        by_cases gf : enB ρ c = true
        · rw [if_pos gf]
          refine wpo_n (by decide) (wpo_g (by omega) ?_)
          rw [Int.toNat_natCast, fr 252 (by decide) (by decide) (by decide), h2]
          refine wpo_i (fun hc3 => go (fun _ => hc3)) (fun hc3 => wpo_s ?_)
          exact ⟨N, tail, p3, p4, Or.inl ⟨c, hcl, rfl, y3, gf, hc3⟩⟩
        · rw [if_neg gf]
          exact wpo_g rfl (go (fun h => absurd h gf))
      · obtain ⟨I', t', q1, q2, q3, q4⟩ := comeTo_eq (F := F) (c := y) hf.1 (by rw [fr 251 (by decide) (by decide) (by decide)]; exact h1) (by rw [fr 252 (by decide) (by decide) (by decide)]; exact h2) p3 (by omega) y3
        rw [q1, Option.bind_some, w32i (by omega) (by omega)]
        exact wpo_s ⟨⟨head + 1, t', by have := q3.1; omega, by dsimp only; omega, q2, gro_trans p4 q3, dn_s p5 (by omega) q3 y2 (fun c' hc' e he => by omega) q4⟩, by dsimp only; omega⟩
  · rintro ⟨x, N⟩ ⟨n, t, p1, p2, p3, p4, p5⟩
    dsimp only at p2 p3 p4 p5 ⊢
    subst p2
    have fr : ∀ a, a ≠ 250 → a ≠ 253 → a ≠ 254 → N a = I a := fun a c1 c2 c3 => by
      rw [gro_off p4 c1 c2 c3, z0 a c1 c2]
    unfold f_F_seek_L16
    refine wpo_i (fun hc => wpo_s ?_) (fun hc => wpo_g (by omega) ?_)
    · have : n = 96 := by omega
      subst this
      exact ⟨t, p3, p4, fun y hy => p5 y hy.1 hy⟩
    have hi : n < 96 := by omega
    rw [Int.toNat_natCast, fr 245 (by decide) (by decide) (by decide), hw n hi]
    have ew : w32 ((n : Int) + 1) = (n : Int) + 1 := w32i (by omega) (by omega)
    have no : ¬ SrG ρ w (fsX cf) n → wpo (f_F_seek_b50in16 F rv (n : Int) N) (fun r => Sum.elim (fun N : MI => ∃ t, BX ρ w cf gt N t ∧ GrX 0 t Z N ∧ ∀ y, SrG ρ w (fsX cf) y → N 253 y ≠ -3) (fun s' : Int × MI => (∃ n t : Nat, n ≤ 96 ∧ s'.1 = (n : Int) ∧ BX ρ w cf gt s'.2 t ∧ GrX 0 t Z s'.2 ∧ ∀ y, y < n → SrG ρ w (fsX cf) y → s'.2 253 y ≠ -3) ∧ 96 - s'.1.toNat < 96 - ((n : Int)).toNat) r) := by
      intro hno
      unfold f_F_seek_b50in16 f_F_seek_b51in16
      rw [ew]
      refine wpo_g rfl (wpo_s ⟨⟨n + 1, t, by omega, by dsimp only; omega, p3, p4, fun y hy hs => ?_⟩, by dsimp only; omega⟩)
      by_cases e : y = n
      · rw [e] at hs; exact absurd hs hno
      · exact p5 y (by omega) hs
    refine wpo_i (fun hc2 => no (fun h => by have := h.2.2.1; omega)) (fun hc2 => ?_)
    rw [near_eq hρ (by rw [fr rv (by omega) (by omega) (by omega)]; exact hx.2.2.1) hi, Option.bind_some]
    by_cases g : lpB ρ 96 n = true
    · rw [if_pos g]
      refine wpo_n (by decide) ?_
      rw [fr 251 (by decide) (by decide) (by decide), h1]
      refine wpo_i (fun hc3 => no (fun h => fsX_0.mp h.2.2.2 hc3)) (fun hc3 => ?_)
      clear no
      unfold f_F_seek_b51in16
      rw [ew]
      refine wpo_n (by decide) ?_
      rw [reach_g]
      obtain ⟨I', t2, e1, e2, e3, e4⟩ := reach_q (by decide) p3 (y := n) (v := -1) (by omega) (by decide) (Or.inl ⟨rfl, hi, g, by omega, fsX_0.mpr hc3⟩)
      rw [e1, Option.bind_some]
      refine wpo_s ⟨⟨n + 1, t2, by omega, by dsimp only; omega, e2, gro_trans p4 e3, fun y hy hs => ?_⟩, by dsimp only; omega⟩
      by_cases e : y = n
      · rw [e]; exact e4
      · exact e3.2.1 y (by omega) (p5 y (by omega) hs)
    · rw [if_neg g]
      exact wpo_g rfl (no (fun h => g h.2.1))
