/-! givers: both -/
theorem va_ok {N : Nat} {cap : Nat → Int} {ok ok' : Nat → Nat → Prop} {n : Nat} {T : Nat → Bool} {a : Nat → Nat} (h : VA N cap ok n T a) (hok : ∀ i m, i < n → m < N → ok i m → ok' i m) : VA N cap ok' n T a := ⟨fun i hi ht => ⟨(h.1 i hi ht).1, hok i (a i) hi (h.1 i hi ht).1 (h.1 i hi ht).2⟩, h.2⟩
theorem opt_ok {N : Nat} {cap g : Nat → Int} {ok ok' : Nat → Nat → Prop} {n : Nat} {T : Nat → Bool} {a : Nat → Nat} (h : OptA N cap g ok n T a) (hok : ∀ i m, i < n → m < N → (ok i m ↔ ok' i m)) : OptA N cap g ok' n T a := ⟨va_ok h.1 (fun i m h1 h2 => (hok i m h1 h2).mp), fun b hb => h.2 b (va_ok hb (fun i m h1 h2 => (hok i m h1 h2).mpr))⟩
theorem lex_ok {N : Nat} {cap g : Nat → Int} {ok ok' : Nat → Nat → Prop} {n k : Nat} {a : Nat → Nat} (h : LexA N cap g ok n k a) (hok : ∀ i m, i < n → m < N → (ok i m ↔ ok' i m)) : LexA N cap g ok' n k a := fun b hb i hi hpre => h b (opt_ok hb (fun i m h1 h2 => (hok i m h1 h2).symm)) i hi hpre
theorem M_givers {lv n : Nat} {I2 N J : MI} {ρ : RIV} {s : BSt} {g : Nat → Nat} (hρ : RivOK ρ) (hr : RivM N lv ρ) (hl : N 296 18 = (lv : Int)) (hv : VOK ρ s) (hm : MSt N s) (e0 : f_M_findsLack FU I2 J = some N) (h60 : N 296 60 = (n : Int)) (hn : n ≤ 96) (h38 : ∀ k, k < n → N 338 k = ((g k : Nat) : Int)) (hg : ∀ k, k < n → g k < 96 ∧ 0 ≤ wLk ρ s (g k)) (hP : PN (fW ρ s g) n ≤ 864) : ∃ (r : Int) (I' : MI), f_M_findsGivers FU I2 J = some (r, I') ∧ FrQ N I' ∧ ((72 < PN (fW ρ s g) n ∧ r = 0) ∨ (PN (fW ρ s g) n ≤ 72 ∧ ∃ wt : Nat → Int, (∀ k j : Nat, k < n → j < fW ρ s g k → LszP ρ (g k) (wt (PN (fW ρ s g) k + j))) ∧ ((r = 0 ∧ ∀ b, ¬ VA (aN ρ).toNat (capA ρ s) (fun i m => wt i ≤ siz ρ m) (PN (fW ρ s g) n) (uT (PN (fW ρ s g) n)) b) ∨ (r = 1 ∧ ∃ a, OptA (aN ρ).toNat (capA ρ s) (gri ρ) (fun i m => wt i ≤ siz ρ m) (PN (fW ρ s g) n) (uT (PN (fW ρ s g) n)) a ∧ LexA (aN ρ).toNat (capA ρ s) (gri ρ) (fun i m => wt i ≤ siz ρ m) (PN (fW ρ s g) n) (PN (fW ρ s g) n) a ∧ I' 296 68 = cost (gri ρ) (uT (PN (fW ρ s g) n)) (PN (fW ρ s g) n) a ∧ ∀ m : Nat, (m : Int) < aN ρ → I' 343 m = cT (uT (PN (fW ρ s g) n)) (PN (fW ρ s g) n) a m)))) := by
  have hF := FU_big
  have h8 := hρ.2.2.2.1
  have hgr : ∀ m, m < (aN ρ).toNat → 0 ≤ gri ρ m ∧ gri ρ m ≤ 99 := fun m hm => (hρ.2.2.2.2.2.2.2.1 m (by omega)).2.2.2
  obtain ⟨I3, e3, a1, a2, a3, a4⟩ := wants_line (F := FU) (J := J) hF hρ hr hl hv hm h60 hn h38 hg hP
  have hr3 : RivM I3 lv ρ := rivm_congr hr (fun a b1 b2 => a3 a (by clear a2; omega) (by clear a2; omega))
  have hl3 : I3 296 18 = (lv : Int) := by rw [a4 18 (by decide)]; exact hl
  obtain ⟨I4, e4, b1, b2⟩ := wants_has (F := FU) (J := J) hF hρ hr3 hl3 hv ⟨fun k hk => by rw [a3 332 (by decide) (by decide)]; exact hm.1 k hk, fun c hc => by rw [a3 333 (by decide) (by decide)]; exact hm.2 c hc⟩
  unfold f_M_findsGivers f_M_fillsWants
  rw [e0, Option.bind_some, e3, Option.bind_some, e4, Option.bind_some, Option.bind_some]
  rw [fill_loop 343 0 8 (fun _ => 0) (by omega) (fun M => by dsimp only; unfold f_M_findsGivers_L6; rw [if_pos (by clear a2; omega)]) (fun j hj => by
    dsimp only
    unfold f_M_findsGivers_L6
    rw [if_neg (by clear a2; omega), if_pos (by clear a2; omega), w32i (by clear a2; omega) (by clear a2; omega)]
    simp)]
  rw [Option.bind_some]
  have z1 : ∀ k, k < 8 → fillR I4 343 0 8 (fun _ => 0) 343 k = 0 := fun k hk => fillR_in0 hk
  have z2 : ∀ a, a ≠ 343 → fillR I4 343 0 8 (fun _ => 0) a = I4 a := fun a ha => fillR_r ha
  revert z1 z2
  generalize fillR I4 343 0 8 (fun _ => 0) = I5
  intro z1 z2
  have f5 : ∀ a, a ≠ 296 → a ≠ 339 → a ≠ 340 → a ≠ 343 → I5 a = N a := fun a c1 c2 c3 c4 => by rw [z2 a c4, b2 a c3, a3 a c1 c2]
  have f5b : ∀ k, k ≠ 63 → I5 296 k = N 296 k := fun k hk => by rw [z2 296 (by decide), b2 296 (by decide), a4 k hk]
  have h63 : I5 296 63 = ((PN (fW ρ s g) n : Nat) : Int) := by rw [z2 296 (by decide), b2 296 (by decide)]; exact a1
  have h39 : I5 339 = I3 339 := by rw [z2 339 (by decide), b2 339 (by decide)]
  have frq : ∀ M : MI, (∀ a, a ≠ 296 → a ≠ 339 → a ≠ 340 → a ≠ 341 → a ≠ 343 → M a = N a) → (∀ k, k ≠ 63 → k ≠ 68 → M 296 k = N 296 k) → FrQ N M := fun M h1 h2 => ⟨fun a c1 c2 => by unfold scrM at c1; exact h1 a c2 (by clear a2; omega) (by clear a2; omega) (by clear a2; omega) (by clear a2; omega), fun k c1 c2 => h2 k (by clear a2; omega) (by clear a2; omega)⟩
  rw [h63]
  by_cases h72 : 72 < PN (fW ρ s g) n
  · rw [if_neg (by clear a2; omega)]
    exact ⟨0, I5, rfl, frq I5 (fun a c1 c2 c3 c4 c5 => f5 a c1 c2 c3 c5) (fun k c1 c2 => f5b k c1), Or.inl ⟨h72, rfl⟩⟩
  rw [if_pos (by clear a2; omega)]
  have hwt : ∀ i, i < PN (fW ρ s g) n → 1 ≤ I3 339 i ∧ I3 339 i ≤ 10 := fun i hi => by
    obtain ⟨k, j, c1, c2, c3⟩ := PN_seg hi
    have := a2 k j c1 c2
    rw [← c3] at this
    exact ⟨this.1, this.2.1⟩
  have hK5 : KM I5 lv (PN (fW ρ s g) n) ρ (I3 339) := ⟨rivm_congr hr (fun a c1 c2 => f5 a (by clear a2; omega) (by clear a2; omega) (by clear a2; omega) (by clear a2; omega)), by rw [f5b 18 (by decide)]; exact hl, h63, fun i hi => by rw [h39]⟩
  have hcap : ∀ m : Nat, (m : Int) < aN ρ → I5 340 m = capA ρ s m ∧ 0 ≤ capA ρ s m ∧ capA ρ s m ≤ 9 := fun m hm => ⟨by rw [z2 340 (by decide)]; exact b1 m hm, capA_bd hρ hv hm⟩
  obtain ⟨r, I6, e6, c6, q6⟩ := LG_eq (F := FU) (J := J) (fr := 0) (has := capA ρ s) hF hρ hK5.1 hK5.2.1 hK5.2.2.1 (by clear a2; omega) (Nat.zero_le _) (fun i hi => ⟨hK5.2.2.2 i hi, hwt i hi⟩) hcap
  rw [show (((0 : Nat)) : Int) = 0 from rfl] at e6
  rw [e6, Option.bind_some]
  dsimp only
  rw [up2_same]
  have f7 : ∀ a, a ≠ 296 → up2 I6 296 68 r a = I6 a := fun a ha => up2_off ha
  have f7b : ∀ k, k ≠ 68 → up2 I6 296 68 r 296 k = I6 296 k := fun k hk => up2_k hk
  have f7c : up2 I6 296 68 r 296 68 = r := up2_same
  revert f7 f7b f7c
  generalize up2 I6 296 68 r = I7
  intro f7 f7b f7c
  have g7 : ∀ a, a ≠ 296 → a ≠ 339 → a ≠ 340 → a ≠ 341 → a ≠ 343 → I7 a = N a := fun a d1 d2 d3 d4 d5 => by rw [f7 a d1, c6 a d4, f5 a d1 d2 d3 d5]
  have g7b : ∀ k, k ≠ 63 → k ≠ 68 → I7 296 k = N 296 k := fun k d1 d2 => by rw [f7b k d2, c6 296 (by decide), f5b k d1]
  have huf : ∀ i, i < PN (fW ρ s g) n → uT (PN (fW ρ s g) n) i = fT 0 i := fun i hi => by rw [uT_n hi]; simp [fT]
  rcases q6 with ⟨q1, q2⟩ | ⟨a0, q1, q2⟩
  · rw [q1, if_neg (by decide)]
    exact ⟨0, I7, rfl, frq I7 g7 g7b, Or.inr ⟨by clear a2; omega, I3 339, a2, Or.inl ⟨rfl, fun b hb => q2 b (vaT_of hb (fun i hi => (huf i hi).symm))⟩⟩⟩
  · have hr0 : 0 ≤ r := by rw [q2]; exact cost_nn (fun m hm => (hgr m hm).1) (fun i hi ht => (q1.1.1 i hi ht).1)
    rw [if_pos hr0]
    have hK7 : KM I7 lv (PN (fW ρ s g) n) ρ (I3 339) := km_congr hK5 (fun a d1 d2 => by rw [f7 a (by clear a2; omega), c6 a (by clear a2; omega)]) (by rw [f7b 18 (by decide), c6 296 (by decide)]) (by rw [f7b 63 (by decide), c6 296 (by decide)]) (by rw [f7 339 (by decide), c6 339 (by decide)])
    obtain ⟨I8, a, e8, o1, o2, o3, o4⟩ := find_all (F := FU) (J := J) (rest := r) hF hρ (by clear a2; omega) hK7 hwt (fun m hm => by rw [f7 340 (by decide), c6 340 (by decide)]; exact hcap m hm) (fun m hm => by rw [f7 343 (by decide), c6 343 (by decide)]; exact z1 m (by clear a2; omega)) (optT_of q1 huf) (by rw [q2, costT_of huf])
    rw [e8, Option.bind_some]
    refine ⟨1, I8, rfl, frq I8 (fun b d1 d2 d3 d4 d5 => by rw [o4 b d3 d4 d5, g7 b d1 d2 d3 d4 d5]) (fun k d1 d2 => by rw [o4 296 (by decide) (by decide) (by decide), g7b k d1 d2]), Or.inr ⟨by clear a2; omega, I3 339, a2, Or.inr ⟨rfl, a, o1, o2, ?_, o3⟩⟩⟩
    rw [o4 296 (by decide) (by decide) (by decide), f7c, q2, opt_cost o1 (optT_of q1 huf), costT_of huf]
theorem givers_both {lv rv sp : Nat} {I J : MI} {ρ : RIV} {s : BSt} (hp : isPair rv sp) (hρ : RivOK ρ) (hx : RivX I rv ρ) (hm : RivM I lv ρ) (hl : I 296 18 = (lv : Int)) (hb : BedQ I 49 ρ s) (hn : ∀ k, k < 250 → I 331 k = s.1 k) : ∃ (r : Int) (I1 : MI), f_X_findGivers FU rv I = some (r, I1) ∧ FrX rv I I1 ∧ (r = 0 ∨ r = 1) ∧ ∀ I2 : MI, (∀ a, 275 ≤ a → I2 a = I a) → ∃ N, f_M_findsGivers FU I2 J = some (r, N) ∧ FrQ I2 N ∧ (r = 1 → (∃ v, f_V_sum FU I1 = some v ∧ N 296 68 = v) ∧ ∀ m : Nat, (m : Int) < aN ρ → N 343 m = I1 269 m) := by
  have hp' := hp
  unfold isPair at hp'
  have h8 := hρ.2.2.2.1
  obtain ⟨I0, n, S, g, e1, fr1, n1, s1, s2, s3, g1, n2, n3, w1, y1, hM⟩ := lack_both (J := J) hp hρ hx hm hl hb hn
  have hx0 : RivX I0 rv ρ := rivx_congr hx (fun a b1 b2 b3 b4 => fr1 a (by unfold scrX; omega))
  have hb0 : BedQ I0 49 ρ s := bedq_congr hb (fun a b1 b2 => fr1 a (by unfold scrX; omega))
  obtain ⟨r, I1, e2, f2, hSP, q2⟩ := X_settle (rv := rv) (n := n) (I := I0) (S := S) (g := g) (by omega) hρ hx0 hb0 n2 n1 n3 w1 g1 s3 y1
  have hP : PN (fW ρ s g) n ≤ 864 := by omega
  have ex : f_X_findGivers FU rv I = some (r, I1) := by
    unfold f_X_findGivers
    rw [e1, Option.bind_some, e2, Option.bind_some]
  have frx : FrX rv I I1 := frX_trans fr1 (fun a ha => by unfold scrX at ha; exact f2 a (by omega))
  have hr01 : r = 0 ∨ r = 1 := by
    rcases q2 with ⟨_, h⟩ | ⟨_, cs, _, _, ⟨h, _⟩ | ⟨h, _⟩⟩
    · exact Or.inl h
    · exact Or.inl h
    · exact Or.inr h
  refine ⟨r, I1, ex, frx, hr01, fun I2 hI2 => ?_⟩
  obtain ⟨N, e3, fr3, m1, m2, m3, _⟩ := hM I2 hI2
  have hmN : RivM N lv ρ := rivm_congr hm (fun a b1 b2 => by rw [fr3.1 a (by unfold scrM; omega) (by omega), hI2 a (by omega)])
  have hlN : N 296 18 = (lv : Int) := by rw [fr3.2 18 (by decide) (by decide), hI2 296 (by omega)]; exact hl
  obtain ⟨r', N', e4, fr4, q4⟩ := M_givers (I2 := I2) (J := J) hρ hmN hlN hb.1 m1 e3 m2 n1 m3 g1 hP
  have frq := frQ_trans fr3 fr4
  rcases q2 with ⟨h1, h2⟩ | ⟨h1, cs, sg, c96, q2⟩
  · rcases q4 with ⟨h3, h4⟩ | ⟨h3, _⟩
    · exact ⟨N', by rw [e4, h4, h2], frq, fun h => by omega⟩
    · omega
  · rcases q4 with ⟨h3, h4⟩ | ⟨h3, wt, lw, q4⟩
    · omega
    have hok : ∀ i m, i < PN (fW ρ s g) n → m < (aN ρ).toNat → (okX (drA ρ) cs i m ↔ wt i ≤ siz ρ m) := fun i m hi hm => by
      obtain ⟨k, j, c1, c2, c3⟩ := PN_seg hi
      have h5 := sg k j c1 c2
      have h6 := lw k j c1 c2
      rw [← c3] at h5 h6
      have hs := (hρ.2.2.2.2.2.2.2.1 m (by omega)).2.1
      have h7 := h6.2.2 (siz ρ m).toNat (by omega) (by omega)
      have e : (((siz ρ m).toNat : Nat) : Int) = siz ρ m := by omega
      rw [e] at h7
      unfold okX drA
      rw [h5]
      exact h7.symm
    rcases q2 with ⟨h5, h6⟩ | ⟨h5, h6, h7, a, h8', h9, h10⟩
    · rcases q4 with ⟨h7, h8⟩ | ⟨h7, a', h8, _⟩
      · exact ⟨N', by rw [e4, h7, h5], frq, fun h => by omega⟩
      · exact absurd (va_ok h8.1 (fun i m d1 d2 => (hok i m d1 d2).mpr)) (h6 a')
    · rcases q4 with ⟨h11, h12⟩ | ⟨h11, a', h12, h13, h14, h15⟩
      · exact absurd (va_ok h9.1 (fun i m d1 d2 => (hok i m d1 d2).mp)) (h12 a)
      · have heq := lex_uniq (opt_ok h9 hok) h12 (lex_ok h10 hok) h13
        refine ⟨N', by rw [e4, h11, h5], frq, fun _ => ⟨⟨cost (gri ρ) (uT (PN (fW ρ s g) n)) (PN (fW ρ s g) n) a, ?_, ?_⟩, fun m hm => ?_⟩⟩
        · refine V_sum (N := (aN ρ).toNat) FU_big (by omega) h1 (by rw [h6]; omega) (fun m hm => ?_) (fun i hi ht => (h9.1.1 i hi ht).1)
          have hgm := (hρ.2.2.2.2.2.2.2.1 m (by omega)).2.2.2
          exact ⟨h7 m (by omega), hgm.1, hgm.2, h8' m (by omega)⟩
        · rw [h14]
          exact (cost_congr (fun i hi _ => heq i hi)).symm
        · rw [h15 m hm, h8' m hm]
          exact (cT_congr (fun i hi _ => heq i hi)).symm
theorem ag_grief (j : Nat) (hj : j < 512) : ag_14 (InvQ j) (InvQ (j + 1)) := by
  intro I J rv sp hrr hss hI
  have hI0 := hI
  obtain ⟨ρ, s, lv, hp, hρ, hx, hm, hl, hb, hn, hd, ht, hpl, hpa, hs, htl, hk⟩ := hI
  obtain ⟨r, I1, e1, fr1, h01, hM⟩ := givers_both (J := J) hp hρ hx hm hl hb hn
  obtain ⟨N, e2, fr2, q⟩ := hM I1 (fun a ha => fr1 a (by unfold scrX; unfold isPair at hp; omega))
  rcases h01 with h | h
  · refine ag_mk (r := -2) (M := I1) (N := N) (fm := fun M => f_M_grief FU M J) (V := fun M => InvQ (j + 1) M J rv sp) ?_ ?_ (invq_keep hI0 fr1 fr2) hrr hss
    · unfold f_X_grief
      rw [e1, Option.bind_some, if_pos h]
    · show f_M_grief FU I1 J = _
      unfold f_M_grief
      rw [e2, Option.bind_some, if_pos h]
  · obtain ⟨⟨v, v1, v2⟩, _⟩ := q h
    refine ag_mk (r := v) (M := I1) (N := N) (fm := fun M => f_M_grief FU M J) (V := fun M => InvQ (j + 1) M J rv sp) ?_ ?_ (invq_keep hI0 fr1 fr2) hrr hss
    · unfold f_X_grief
      rw [e1, Option.bind_some, if_neg (by simp [h]), v1, Option.bind_some]
    · show f_M_grief FU I1 J = _
      unfold f_M_grief
      rw [e2, Option.bind_some, if_neg (by simp [h])]
      dsimp only
      rw [v2]
theorem ag_gives (j : Nat) (hj : j < 512) : ag_15 (InvQ j) (InvQ (j + 1)) := by
  intro I J rv sp x1 hrr hss hI _
  have hI0 := hI
  obtain ⟨ρ, s, lv, hp, hρ, hx, hm, hl, hb, hn, hd, ht, hpl, hpa, hs, htl, hk⟩ := hI
  have h8 := hρ.2.2.2.1
  obtain ⟨r, I1, e1, fr1, h01, hM⟩ := givers_both (J := J) hp hρ hx hm hl hb hn
  by_cases g : 0 ≤ x1 ∧ x1 < aN ρ
  · have fr275 : ∀ a, 275 ≤ a → I1 a = I a := fun a ha => fr1 a (by unfold scrX; unfold isPair at hp; omega)
    obtain ⟨N, e2, fr2, q⟩ := hM I1 fr275
    have exL : f_X_isLeaver FU x1 rv I = some 1 := by rw [X_isLeaver, hx.2.2.2.1, if_pos g]
    have emL : f_M_isLeaver FU x1 I1 J = some 1 := by
      rw [M_isLeaver (lv := lv) hρ (rivm_congr hm (fun a b1 b2 => fr275 a (by omega))) (by rw [fr275 296 (by omega)]; exact hl), if_pos g]
    rcases h01 with h | h
    · refine ag_mk (r := -2) (M := I1) (N := N) (fm := fun M => f_M_gives FU x1 M J) (V := fun M => InvQ (j + 1) M J rv sp) ?_ ?_ (invq_keep hI0 fr1 fr2) hrr hss
      · unfold f_X_gives
        rw [exL, Option.bind_some, if_pos (by decide), e1, Option.bind_some, if_pos h]
      · show f_M_gives FU x1 I1 J = _
        unfold f_M_gives
        rw [emL, Option.bind_some, if_pos (by decide), e2, Option.bind_some, if_pos h]
    · obtain ⟨_, q2⟩ := q h
      have e := q2 x1.toNat (by omega)
      refine ag_mk (r := I1 269 x1.toNat) (M := I1) (N := N) (fm := fun M => f_M_gives FU x1 M J) (V := fun M => InvQ (j + 1) M J rv sp) ?_ ?_ (invq_keep hI0 fr1 fr2) hrr hss
      · unfold f_X_gives
        rw [exL, Option.bind_some, if_pos (by decide), e1, Option.bind_some, if_neg (by simp [h]), if_pos (by omega)]
      · show f_M_gives FU x1 I1 J = _
        unfold f_M_gives
        rw [emL, Option.bind_some, if_pos (by decide), e2, Option.bind_some, if_neg (by simp [h]), if_pos (by omega)]
        dsimp only
        rw [e]
  · refine ag_mk (r := -1) (M := I) (N := I) (fm := fun M => f_M_gives FU x1 M J) (V := fun M => InvQ (j + 1) M J rv sp) ?_ ?_ (invq_more j I J rv sp hI0) hrr hss
    · unfold f_X_gives
      rw [X_isLeaver, hx.2.2.2.1, if_neg g, Option.bind_some, if_neg (by decide)]
    · show f_M_gives FU x1 I J = _
      unfold f_M_gives
      rw [M_isLeaver (lv := lv) hρ hm hl, if_neg g, Option.bind_some, if_neg (by decide)]
