/-! texts: the model tells laws; every statement; the whole text -/
theorem ge_if7 {B : Nat → Int} {n nt m : Nat} {r : Ctl} (h : Ge r m) : Ge (ifA B n nt r).1 (m + 7) := ge_up (ge_take (ge_ex (ge_take (ge_ex (ge_take (ge_ex (ge_take h))))))) (by omega)
theorem ge_lawL7 {B : Nat → Int} {n nt : Nat} : ∀ (f j m : Nat) (r : Ctl) (acc : List (LCode × LCode × LCode)), f + j = 5 → j ≤ 4 → Ge r m → ∀ t' l' lp', (lawL B n nt f j r acc).1 = .inr (t', l', lp') → m + 7 * (lawL B n nt f j r acc).2.1.length + 2 ≤ t' + 7 * acc.length
  | 0, j, _, _, _, h1, h2, _ => by omega
  | f + 1, j, m, .inl e, acc, _, _, h => fun t' l' lp' he => by cases he
  | f + 1, j, m, .inr (t, l, lp), acc, h1, h2, h => by
    have hgo : lawL B n nt (f + 1) j (.inr (t, l, lp)) acc = if Kt B n nt t = 264 then (if j = 4 then ((.inl (2, PP B n nt t), (acc, [])) : Ctl × LawT) else lawL B n nt f (j + 1) (ifA B n nt (.inr (t, l, lp))).1 (acc ++ [(ifA B n nt (.inr (t, l, lp))).2])) else (takeA (Kt B n nt) (PP B n nt) 59 (exA B n nt (.inr (t, l, lp))).1, (acc, (exA B n nt (.inr (t, l, lp))).2)) := rfl
    rw [hgo]
    intro t' l' lp' he
    by_cases g : Kt B n nt t = 264
    · rw [if_pos g] at he ⊢
      by_cases g4 : j = 4
      · rw [if_pos g4] at he; cases he
      · rw [if_neg g4] at he ⊢
        have := ge_lawL7 f (j + 1) (m + 7) _ _ (by omega) (by omega) (ge_if7 h) t' l' lp' he
        rw [List.length_append] at this
        simp only [List.length_cons, List.length_nil] at this
        omega
    · rw [if_neg g] at he ⊢
      have := ge_take (ge_ex h) t' l' lp' he
      dsimp only
      omega
theorem lwO_put {I : MI} {h b p q q' a : Nat} {v : Int} {Λ : LawT} (ha : a = 319 ∨ a = 320) (hq : q ≠ q') (H : LwO I h b p q Λ) : LwO (up2 I a q' v) h b p q Λ := by
  obtain ⟨f, l, h1, h2, h3, h4⟩ := H
  have z : ∀ x, up2 I a q' v x q = I x q := fun x => up2_ne (Or.inr hq)
  refine ⟨f, l, by rw [z]; exact h1, by rw [z]; exact h2, h3, ?_⟩
  rcases h4 with h4 | ⟨h4, h5, h6, h7⟩
  · exact Or.inl h4
  · refine Or.inr ⟨h4, h5, brM_congr h6 (fun x a1 a2 => up2_off (by omega)), ?_⟩
    unfold RgP at *
    rw [up2_off (show 321 ≠ a by omega), up2_off (show 322 ≠ a by omega), up2_off (show 324 ≠ a by omega), up2_off (show 325 ≠ a by omega)]
    exact h7
section
variable {F n nt h t : Nat} {B : Nat → Int} {I0 J0 I J : MI} {l lp : Int} {s : RIV × Nat × (Nat → Nat)}
theorem lawSM (k : Nat) (hk2 : k = 0 ∨ k = 1) (hF : 1000000 ≤ F) (hh : h < 2) (h19 : I0 296 19 = (h : Int)) (hs : SgM B n nt h I0 J0 I J (.inr (t, l, lp), s)) (hk : Kt B n nt t = 262 + (k : Int)) : ∃ I' J', f_M_tell F I J = some (I', J') ∧ SgM B n nt h I0 J0 I' J' (stA B n nt (.inr (t, l, lp), s)) := by
  have hk3 : k < 2 := by omega
  obtain ⟨c1, c2, c3, c4, _⟩ := hs.2.1
  have hi := sg_19 h19 hs
  have ht := (tkm_at hs.1 c2 c1).1
  rw [hk, mk_word (by omega) (by omega)] at ht
  have hst : stA B n nt (.inr (t, l, lp), s) = ((lawA B n nt (Kt B n nt t) (.inr (t, l, lp))).1, (if k = 0 then (s.1.1, (lawA B n nt (Kt B n nt t) (.inr (t, l, lp))).2, s.1.2.2) else (s.1.1, s.1.2.1, (lawA B n nt (Kt B n nt t) (.inr (t, l, lp))).2)), s.2) := by
    have h6 : stA B n nt (.inr (t, l, lp), s) = _ := (if_neg (show ¬ Kt B n nt t = 256 by omega)).trans ((if_neg (show ¬ Kt B n nt t = 257 by omega)).trans ((if_neg (show ¬ Kt B n nt t = 258 by omega)).trans ((if_neg (show ¬ Kt B n nt t = 259 by omega)).trans ((if_neg (show ¬ Kt B n nt t = 260 by omega)).trans (if_neg (show ¬ Kt B n nt t = 261 by omega))))))
    rw [h6]
    rcases hk2 with e | e
    · subst e
      have hk' : Kt B n nt t = 262 := by omega
      refine (if_pos (show Kt B n nt t = 262 by omega)).trans ?_
      rw [hk', if_pos rfl]
    · subst e
      have hk' : Kt B n nt t = 263 := by omega
      refine (if_neg (show ¬ Kt B n nt t = 262 by omega)).trans ((if_pos (show Kt B n nt t = 263 by omega)).trans ?_)
      rw [hk', if_neg (by decide)]
  rw [hst]
  obtain ⟨b, p, ⟨⟨w12, w38, w44⟩, w2, w3, w4, w5, w6, w7, w8, w9⟩, q1, q2, q3, q4⟩ := hs.2.2.2.2 t l lp rfl
  dsimp only at w2 w3 w4 w5 w6 w7 w8 w9
  obtain ⟨M1, e1, m1⟩ := md_go (F := F) (sg_md hs) hk (by clear hk2 ht hk; omega)
  have hM1 : StL B n nt h M1 (takeA (Kt B n nt) (PP B n nt) (262 + (k : Int)) (.inr (t, l, lp))) b p := by
    refine ⟨m1.2.1, by rw [m1.2.2.2 38 (by decide) (by decide) (by decide) (by decide) (by decide)]; exact w38, fun t' l' lp' hr => ?_⟩
    obtain ⟨t0, x0, x1, _⟩ := takeA_inr hr
    cases x0
    exact ⟨by rw [m1.2.2.2 12 (by decide) (by decide) (by decide) (by decide) (by decide)]; exact w12, by rw [m1.2.2.2 44 (by decide) (by decide) (by decide) (by decide) (by decide)]; exact w44, by omega⟩
  obtain ⟨M', b', p', e2, n1, n2, n3, n4, N, n5, n6, n7⟩ := tellLawM (F := F) (k := k) hF hh hk3 m1.1 hM1 (md_19 m1 hi) (by omega) q2 q3
  have htell : f_M_tell F I J = some (M', J) := by
    unfold f_M_tell
    rw [c4, if_pos (by omega), Int.toNat_natCast, ht, if_neg (by omega), if_neg (by omega), if_neg (by omega), if_neg (by omega), if_neg (by omega), if_neg (by omega)]
    have hw : w32 (262 + (k : Int) - 236 - 26) = (k : Int) := by
      clear hk2 ht hk
      rw [w32i (by omega) (by omega)]; omega
    rw [hw, e1, Option.bind_some, e2, Option.bind_some]
    rcases hk2 with e | e
    · rw [if_pos (by omega)]
    · rw [if_neg (by omega), if_pos (by omega)]
  refine ⟨M', J, htell, ?_⟩
  have hlw : lawA B n nt (Kt B n nt t) (.inr (t, l, lp)) = lawL B n nt 5 0 (takeA (Kt B n nt) (PP B n nt) 61 (takeA (Kt B n nt) (PP B n nt) (262 + (k : Int)) (.inr (t, l, lp)))) [] := by rw [hk]; rfl
  rw [hlw]
  have h7 := ge_lawL7 (B := B) (n := n) (nt := nt) 5 0 (t + 2) (takeA (Kt B n nt) (PP B n nt) 61 (takeA (Kt B n nt) (PP B n nt) (262 + (k : Int)) (.inr (t, l, lp)))) [] rfl (by omega) (ge_take (ge_take (ge_self (t := t) (l := l) (lp := lp))))
  have hl0 : ∀ t' l' lp', (lawL B n nt 5 0 (takeA (Kt B n nt) (PP B n nt) 61 (takeA (Kt B n nt) (PP B n nt) (262 + (k : Int)) (.inr (t, l, lp)))) []).1 = .inr (t', l', lp') → l' = l := by
    have gen : ∀ (f j : Nat) (r : Ctl) (acc : List (LCode × LCode × LCode)) (t' : Nat) (l' lp' : Int), (lawL B n nt f j r acc).1 = .inr (t', l', lp') → ∃ t0, r = .inr (t0, l', lp') := by
      intro f
      induction f with
      | zero => intro j r acc t' l' lp' hx; exact ⟨t', hx⟩
      | succ f ih =>
        intro j r acc t' l' lp' hx
        match r, hx with
        | .inl e, hx => cases hx
        | .inr (t0, l0, lp0), hx =>
          have hgo : lawL B n nt (f + 1) j (.inr (t0, l0, lp0)) acc = if Kt B n nt t0 = 264 then (if j = 4 then ((.inl (2, PP B n nt t0), (acc, [])) : Ctl × LawT) else lawL B n nt f (j + 1) (ifA B n nt (.inr (t0, l0, lp0))).1 (acc ++ [(ifA B n nt (.inr (t0, l0, lp0))).2])) else (takeA (Kt B n nt) (PP B n nt) 59 (exA B n nt (.inr (t0, l0, lp0))).1, (acc, (exA B n nt (.inr (t0, l0, lp0))).2)) := rfl
          rw [hgo] at hx
          by_cases g : Kt B n nt t0 = 264
          · rw [if_pos g] at hx
            by_cases g4 : j = 4
            · rw [if_pos g4] at hx; cases hx
            · rw [if_neg g4] at hx
              obtain ⟨t1, x1⟩ := ih _ _ _ _ _ _ hx
              obtain ⟨t2, x2, _⟩ := takeA_inr x1
              obtain ⟨t3, x3, _⟩ := exA_inr x2
              obtain ⟨t4, x4, _⟩ := takeA_inr x3
              obtain ⟨t5, x5, _⟩ := exA_inr x4
              obtain ⟨t6, x6, _⟩ := takeA_inr x5
              obtain ⟨t7, x7, _⟩ := exA_inr x6
              obtain ⟨t8, x8, _⟩ := takeA_inr x7
              exact ⟨t8, x8⟩
          · rw [if_neg g] at hx
            obtain ⟨t1, x1, _⟩ := takeA_inr hx
            obtain ⟨t2, x2, _⟩ := exA_inr x1
            exact ⟨t2, x2⟩
    intro t' l' lp' hx
    obtain ⟨t0, x0⟩ := gen _ _ _ _ _ _ _ hx
    obtain ⟨t1, x1, _⟩ := takeA_inr x0
    obtain ⟨t2, x2, _⟩ := takeA_inr x1
    cases x2
    rfl
  generalize lawL B n nt 5 0 (takeA (Kt B n nt) (PP B n nt) 61 (takeA (Kt B n nt) (PP B n nt) (262 + (k : Int)) (.inr (t, l, lp)))) [] = R at *
  have fN : FrR h I0 N := frR_trans hs.2.2.1 (frR_trans (fr5_R m1.2.2) (frW_R n5 q2 q3))
  rcases n7 with ⟨e, x1, x2⟩ | ⟨⟨t', l', lp', x1, x2, x3, x4⟩, x5, x6⟩
  · rw [x2]
    refine ⟨tkm_W m1.1 n5, by rw [← x2]; exact n1, fN, hs.2.2.2.1, fun t' l' lp' hr => ?_⟩
    dsimp only at hr
    rw [x1] at hr
    cases hr
  · have z : ∀ a, a ≠ 319 → a ≠ 320 → M' a = N a := fun a a1 a2 => by rw [x5, up2_off a2, up2_off a1]
    have p2 : ∀ (Z : MI) (a : Nat) (v : Int), a = 319 ∨ a = 320 → FrR h Z (up2 Z a (2 * h + k) v) := fun Z a v ha => put_R (by omega) (by
      have : wdR a = 2 := by rcases ha with e | e <;> rw [e] <;> rfl
      rw [this]; clear hk2 ht hk; omega)
    refine ⟨tkm_congr (tkm_W m1.1 n5) (fun a a1 a2 => z a (by omega) (by omega)) rfl, n1, frR_trans fN (by rw [x5]; exact frR_trans (p2 _ 319 _ (Or.inl rfl)) (p2 _ 320 _ (Or.inr rfl))), hs.2.2.2.1, fun t2 l2 lp2 hr => ?_⟩
    dsimp only at hr
    have hl2 := hl0 t2 l2 lp2 hr
    have h72 := h7 t2 l2 lp2 hr
    rw [x1] at hr
    cases hr
    have same : ∀ a, 305 ≤ a → a ≤ 318 → M' a = I a := fun a a1 a2 => by rw [z a (by omega) (by omega), n5.1 a (by omega) (by omega), m1.2.2.1 a (by omega)]
    -- how many branches
    have hb' : 4 * b' ≤ 520 * h + t' := by
      obtain ⟨f, l3, y1, y2, y3, y4⟩ := x6
      rw [x5, up2_r (by decide), up2_same] at y1
      rw [x5, up2_same] at y2
      simp only [List.length_nil] at h72
      rcases y4 with ⟨y4, _⟩ | ⟨y4, _⟩
      · omega
      · omega
    have other : ∀ q, q ≠ 2 * h + k → ∀ Λ, LwO I h b p q Λ → LwO M' h b' p' q Λ := fun q hq Λ hL => by
      have y1 : LwO M1 h b p q Λ := lwO_congr hL (fun a a1 a2 => m1.2.2.1 a (by omega))
      have y2 : LwO N h b' p' q Λ := lwO_stay y1 n5 n2 n4 (by omega) (by omega)
      rw [x5]
      exact lwO_put (Or.inr rfl) hq (lwO_put (Or.inl rfl) hq y2)
    have h20 : M' 296 20 = I 296 20 := by rw [z 296 (by decide) (by decide), n5.2.2.2 20 (by unfold keyL keyE; omega), m1.2.2.2 20 (by decide) (by decide) (by decide) (by decide) (by decide)]
    have fields : (k = 0 → (if k = 0 then (s.1.1, R.2, s.1.2.2) else (s.1.1, s.1.2.1, R.2)) = (s.1.1, R.2, s.1.2.2)) ∧ (k = 1 → (if k = 0 then (s.1.1, R.2, s.1.2.2) else (s.1.1, s.1.2.1, R.2)) = (s.1.1, s.1.2.1, R.2)) := ⟨fun e => if_pos e, fun e => if_neg (by omega)⟩
    refine ⟨b', p', ?_, hb', by omega, by omega, x4⟩
    have common : ∀ Λ1 Λ2, LwO M' h b' p' (2 * h) Λ1 → LwO M' h b' p' (2 * h + 1) Λ2 → DaM B n nt h M' J ((s.1.1, Λ1, Λ2), s.2) b' p' (l' = 0) := fun Λ1 Λ2 y1 y2 => ⟨⟨x2, n6, x3⟩, by rw [same 311 (by omega) (by omega)]; exact w2, by rw [same 316 (by omega) (by omega)]; exact w3, by rw [same 307 (by omega) (by omega)]; exact w4, by rw [h20]; exact w5, w6, y1, y2, fun h0 => rvf_congr (ρ := (s.1.1, Λ1, Λ2)) (w9 (by rw [← hl2]; exact h0)) (fun a a1 a2 _ _ _ => same a a1 a2)⟩
    rcases hk2 with e | e
    · subst e
      rw [fields.1 rfl]
      exact common R.2 s.1.2.2 x6 (other _ (by omega) _ w8)
    · subst e
      rw [fields.2 rfl]
      exact common s.1.2.1 R.2 (other _ (by omega) _ w7) x6
theorem stepM (hF : 1000000 ≤ F) (hh : h < 2) (h19 : I0 296 19 = (h : Int)) (hs : SgM B n nt h I0 J0 I J (.inr (t, l, lp), s)) : ∃ I' J', f_M_tell F I J = some (I', J') ∧ SgM B n nt h I0 J0 I' J' (stA B n nt (.inr (t, l, lp), s)) := by
  by_cases g : Kt B n nt t = 256
  · exact riverM hh h19 hs g
  by_cases g : Kt B n nt t = 257
  · exact depthM hh h19 hs g
  by_cases g : Kt B n nt t = 258
  · exact flowM hh h19 hs g
  by_cases g : Kt B n nt t = 259
  · exact leapM hh h19 hs g
  by_cases g : Kt B n nt t = 260
  · exact leaverM hF hh h19 hs g
  by_cases g : Kt B n nt t = 261
  · exact floodM hh h19 hs g
  by_cases g : Kt B n nt t = 262
  · exact lawSM 0 (Or.inl rfl) hF hh h19 hs (by omega)
  by_cases g : Kt B n nt t = 263
  · exact lawSM 1 (Or.inr rfl) hF hh h19 hs (by omega)
  exact otherM hs (by omega)
end
theorem textLM {F n nt h : Nat} {B : Nat → Int} {I0 J0 I J : MI} {σ : SgT} (hF : 1000000 ≤ F) (hh : h < 2) (h19 : I0 296 19 = (h : Int)) (hs : SgM B n nt h I0 J0 I J σ) : ∃ I' J', iter (fun s : MI × MI => f_M_read_L112 F s.1 s.2) F (I, J) = some (I', J') ∧ SgM B n nt h I0 J0 I' J' (textA B n nt 402 σ) := by
  have key := wpo_iter (step := fun s : MI × MI => f_M_read_L112 F s.1 s.2) (Q := fun e => SgM B n nt h I0 J0 e.1 e.2 (textA B n nt 402 σ)) (fun q => ∃ (j : Nat) (τ : SgT), j ≤ 401 ∧ SgM B n nt h I0 J0 q.1 q.2 τ ∧ Ge τ.1 j ∧ textA B n nt (402 - j) τ = textA B n nt 402 σ) (fun q => if q.1 296 13 = 0 then 402 - (q.1 296 11).toNat else 0) ?_ (F := F) (s := (I, J)) (by dsimp only; split <;> omega) ⟨0, σ, by omega, hs, fun _ _ _ _ => Nat.zero_le _, rfl⟩
  · obtain ⟨⟨I', J'⟩, e, q⟩ := key
    exact ⟨I', J', e, q⟩
  rintro ⟨M, K⟩ ⟨j, τ, h1, h3, h4, h5⟩
  dsimp only at h3 ⊢
  obtain ⟨r, s⟩ := τ
  unfold f_M_read_L112
  match r, h3, h4, h5 with
  | .inl e, h3, h4, h5 =>
    have hfin : textA B n nt (402 - j) (.inl e, s) = (.inl e, s) := text_fin (fun t l lp hx => by cases hx) _
    rw [hfin] at h5
    refine wpo_g (by have := h3.2.1.1; rw [h3.2.1.2.1]; omega) (wpo_s ?_)
    show SgM B n nt h I0 J0 M K (textA B n nt 402 σ)
    rw [← h5]; exact h3
  | .inr (t, l, lp), h3, h4, h5 =>
    have ht := h4 t l lp rfl
    have h400 := h3.2.1.1
    refine wpo_n (by simp [h3.2.1.2.2.1]) ?_
    rw [isM (x := 302) h3.1 h3.2.1 (by unfold VK; omega) (by decide), Option.bind_some]
    by_cases g : Kt B n nt t = 302
    · rw [if_pos g]
      have hfin : textA B n nt (402 - j) (.inr (t, l, lp), s) = (.inr (t, l, lp), s) := text_fin (fun t' l' lp' hx => by cases hx; exact g) _
      rw [hfin] at h5
      refine wpo_g (by decide) (wpo_s ?_)
      show SgM B n nt h I0 J0 M K (textA B n nt 402 σ)
      rw [← h5]; exact h3
    · rw [if_neg g]
      refine wpo_n (by decide) ?_
      obtain ⟨I', J', e1, a⟩ := stepM (F := F) hF hh h19 h3
      rw [e1, Option.bind_some]
      have gs := ge_st (B := B) (n := n) (nt := nt) (t := t) (l := l) (lp := lp) (s := s)
      refine wpo_s ⟨⟨j + 1, _, by omega, a, ge_up gs (by omega), ?_⟩, ?_⟩
      · rw [← h5, show 402 - j = (402 - (j + 1)) + 1 by omega, text_go g]
      · dsimp only
        rw [if_pos h3.2.1.2.2.1, h3.2.1.2.2.2.1, Int.toNat_natCast]
        have hC := a.2.1
        match hx : (stA B n nt (.inr (t, l, lp), s)).1 with
        | .inl e =>
          rw [hx] at hC
          rw [if_neg (by have := hC.1; rw [hC.2.1]; omega)]
          omega
        | .inr (t2, l2, lp2) =>
          have := gs t2 l2 lp2 hx
          rw [hx] at hC
          rw [if_pos hC.2.2.1, hC.2.2.2.1, Int.toNat_natCast]
          omega
