/-! breaks -/
def BrkS (ρ : RIV) (s : BSt) (r : Int) : Prop := (r = -2 ∧ ∀ i : Nat, i < 200 → ovr ρ (daysA ρ 0 (aW ρ).toNat (i + 1) s).2 ≠ 0) ∨ (∃ i : Nat, i < 200 ∧ r = s.1 240 + i ∧ ovr ρ (daysA ρ 0 (aW ρ).toNat (i + 1) s).2 = 0 ∧ ∀ j : Nat, j < i → ovr ρ (daysA ρ 0 (aW ρ).toNat (j + 1) s).2 ≠ 0)
theorem brk_uniq {ρ : RIV} {s : BSt} {r r' : Int} (h : BrkS ρ s r) (h' : BrkS ρ s r') : r = r' := by
  rcases h with ⟨a, b⟩ | ⟨i, i1, i2, i3, i4⟩
  · rcases h' with ⟨a', _⟩ | ⟨i, i1, i2, i3, i4⟩
    · rw [a, a']
    · exact absurd i3 (b i i1)
  · rcases h' with ⟨a', b'⟩ | ⟨j, j1, j2, j3, j4⟩
    · exact absurd i3 (b' i i1)
    · by_cases e : i < j
      · exact absurd i3 (j4 i e)
      · by_cases e2 : j < i
        · exact absurd j3 (i4 j e2)
        · rw [i2, j2]; omega
theorem ag_breaks (j : Nat) (hj : j < 512) : ag_18 (InvQ j) (InvQ (j + 1)) := by
  intro I J rv sp hrr hss hI
  have hF := FU_big
  have hI0 := hI
  obtain ⟨ρ, s, lv, hp, hρ, hx, hm, hl, hb, hn, hd, ht, hpl, hpa, hs, htl, hk⟩ := hI
  have hp' := hp
  unfold isPair at hp'
  have hW := hρ.2.1
  obtain ⟨I1, e1, f1⟩ := X_isWayOver (b := 49) (rv := rv) ⟨Or.inl rfl, by omega⟩ hρ hx hm hl hb.2.1
  have frx1 : FrX rv I I1 := fun a ha => f1 a (by unfold scrX at ha; omega) (by unfold scrX at ha; omega) (by unfold scrX at ha; omega)
  have first : ∀ I2 : MI, (∀ a, 275 ≤ a → I2 a = I a) → ∃ N, f_M_isOverBy FU 255 I2 J = some (ovr ρ s.2, N) ∧ FrQ I2 N := fun I2 h2 => by
    obtain ⟨N, e, fr⟩ := M_isOverBy (I := I2) (J := J) set_255 hρ (rivm_congr hm (fun a b1 b2 => h2 a (by omega))) (by rw [h2 296 (by omega)]; exact hl) hb.1 (fun k hk => by rw [h2 331 (by omega)]; exact hn k hk)
    refine ⟨N, ?_, fr⟩
    rw [e, ovr_congr hρ hm hl (fun c hc => hBy_all hb.1 (fun _ _ => rfl) hc)]
  by_cases h0 : ovr ρ s.2 = 0
  · obtain ⟨N, e2, fr2⟩ := first I1 (fun a ha => frx1 a (by unfold scrX; omega))
    refine ag_mk (r := -3) (M := I1) (N := N) (fm := fun M => f_M_breaks FU M J) (V := fun M => InvQ (j + 1) M J rv sp) ?_ ?_ (invq_keep hI0 frx1 fr2) hrr hss
    · unfold f_X_breaks
      rw [e1, Option.bind_some, if_neg (by simp [h0])]
    · show f_M_breaks FU I1 J = _
      unfold f_M_breaks
      rw [e2, Option.bind_some, if_neg (by simp [h0])]
  · have hb1 : BedQ I1 49 ρ s := bedq_congr hb (fun a b1 b2 => f1 a (by omega) (by omega) (by omega))
    obtain ⟨I2, e2, q2, f2⟩ := copy_eq (F := FU) (r0 := 56) (r1 := 49) hb1 (by omega)
    have frx2 : FrX rv I I2 := frX_trans frx1 (fun a ha => by unfold scrX at ha; exact f2 a (by omega))
    have kx := wpo_iter (step := fun q : Int × MI => f_X_breaks_L27 FU q.1 rv q.2) (Q := fun e => ∃ (r : Int) (I' : MI), (e = .inl (r, I') ∨ (e = .inr I' ∧ r = -2)) ∧ BrkS ρ s r ∧ FrX rv I I') (fun q => ∃ i : Nat, i ≤ 200 ∧ q.1 = (i : Int) ∧ BedQ q.2 56 ρ (daysA ρ 0 (aW ρ).toNat i s) ∧ ovr ρ (daysA ρ 0 (aW ρ).toNat i s).2 ≠ 0 ∧ (∀ i' : Nat, i' < i → ovr ρ (daysA ρ 0 (aW ρ).toNat (i' + 1) s).2 ≠ 0) ∧ FrX rv I q.2) (fun q => 200 - q.1.toNat) ?_ (F := FU) (s := ((0 : Int), I2)) (by dsimp only; omega) ⟨0, by omega, rfl, q2, h0, fun i' hi' => absurd hi' (by omega), frx2⟩
    · obtain ⟨e, ex, r, I3, hee, hbr, frx3⟩ := kx
      have exx : f_X_breaks FU rv I = some (r, I3) := by
        unfold f_X_breaks
        rw [e1, Option.bind_some, if_pos h0, e2, Option.bind_some, ex, Option.bind_some]
        rcases hee with h | ⟨h, h'⟩
        · rw [h]
        · rw [h, h']
      have g3 : ∀ a, 275 ≤ a → I3 a = I a := fun a ha => frx3 a (by unfold scrX; omega)
      obtain ⟨N1, e3, fr3⟩ := first I3 g3
      have hmN1 : RivM N1 lv ρ := rivm_congr hm (fun a b1 b2 => by rw [fr3.1 a (by unfold scrM; omega) (by omega), g3 a (by omega)])
      have hlN1 : N1 296 18 = (lv : Int) := by rw [fr3.2 18 (by decide) (by decide), g3 296 (by omega)]; exact hl
      obtain ⟨N2, c1, c2, c3⟩ := M_copyq (F := FU) (I := N1) (J := J) hF hb.1 (fun k hk => by rw [fr3.1 331 (by unfold scrM; omega) (by decide), g3 331 (by omega)]; exact hn k hk)
      have km := wpo_iter (step := fun q : Int × MI => f_M_breaks_L19 FU q.1 q.2 J) (Q := fun e => ∃ (r : Int) (N : MI), ((e = .inl N ∧ N 332 240 = r + 1 ∧ 0 ≤ r ∧ r ≤ 900000) ∨ (e = .inr N ∧ r = -2)) ∧ BrkS ρ s r ∧ FrQ I3 N) (fun q => ∃ i : Nat, i ≤ 200 ∧ q.1 = (i : Int) ∧ MSt q.2 (daysA ρ 0 (aW ρ).toNat i s) ∧ VOK ρ (daysA ρ 0 (aW ρ).toNat i s) ∧ (∀ i' : Nat, i' < i → ovr ρ (daysA ρ 0 (aW ρ).toNat (i' + 1) s).2 ≠ 0) ∧ FrQ I3 q.2) (fun q => 200 - q.1.toNat) ?_ (F := FU) (s := ((0 : Int), N2)) (by dsimp only; omega) ⟨0, by omega, rfl, c2, hb.1, fun i' hi' => absurd hi' (by omega), frQ_trans fr3 (fr32_Q c3)⟩
      · obtain ⟨e', em, r', N3, hee', hbr', fr4⟩ := km
        have hrr' := brk_uniq hbr hbr'
        have emm : f_M_breaks FU I3 J = some (r, N3) := by
          unfold f_M_breaks
          rw [e3, Option.bind_some, if_pos h0, c1, Option.bind_some, em, Option.bind_some]
          rcases hee' with ⟨h, h', h2, h3⟩ | ⟨h, h'⟩
          · rw [h]
            dsimp only
            rw [h', w32i (by omega) (by omega), hrr', show r' + 1 - 1 = r' by omega]
          · rw [h, hrr', h']
        exact ag_mk (fm := fun M => f_M_breaks FU M J) (V := fun M => InvQ (j + 1) M J rv sp) exx emm (invq_keep hI0 frx3 fr4) hrr hss
      · rintro ⟨x, N⟩ ⟨i, h1, h2, h3, h4, h5, h6⟩
        dsimp only at h2 h3 h4 h5 h6 ⊢
        subst h2
        have hday := daysA_day (ρ := ρ) (a := 0) (w := (aW ρ).toNat) i s
        have hday2 := daysA_day (ρ := ρ) (a := 0) (w := (aW ρ).toNat) (i + 1) s
        have hd0 := hb.1.2.2.2.2.2
        unfold f_M_breaks_L19
        refine wpo_i (fun hc => wpo_s ?_) (fun hc => ?_)
        · have : i = 200 := by omega
          subst this
          exact ⟨-2, N, Or.inr ⟨rfl, rfl⟩, Or.inl ⟨rfl, h5⟩, h6⟩
        have hmN : RivM N lv ρ := rivm_congr hm (fun a b1 b2 => by rw [h6.1 a (by unfold scrM; omega) (by omega), g3 a (by omega)])
        have hlN : N 296 18 = (lv : Int) := by rw [h6.2 18 (by decide) (by decide), g3 296 (by omega)]; exact hl
        obtain ⟨N', ed, d1, d2, d3⟩ := M_day (F := FU) (J := J) hF hρ hmN hlN h4 h3 (by omega)
        rw [ed, Option.bind_some]
        obtain ⟨N4, eo, fo, _⟩ := M_isOver (I := N') (J := J) (H := (dayA ρ 0 (aW ρ).toNat (daysA ρ 0 (aW ρ).toNat i s)).2) hρ (rivm_fr hmN d3) (by rw [d3.2 18 (by decide)]; exact hlN) d1.2
        have fr5 : FrQ I3 N4 := frQ_trans h6 (frQ_trans (frM_Q d3) ⟨fun a b1 b2 => fo a (by unfold scrM at b1; omega) (by unfold scrM at b1; omega) (by unfold scrM at b1; omega), fun k b1 b2 => by rw [fo 296 (by decide) (by decide) (by decide)]⟩)
        have edn : daysA ρ 0 (aW ρ).toNat (i + 1) s = dayA ρ 0 (aW ρ).toNat (daysA ρ 0 (aW ρ).toNat i s) := rfl
        rw [eo, Option.bind_some, w32i (by omega) (by omega)]
        refine wpo_i (fun hc2 => wpo_s ?_) (fun hc2 => wpo_s ?_)
        · refine ⟨⟨i + 1, by omega, by dsimp only; omega, ⟨fun k hk => ?_, fun c hc3 => ?_⟩, d2, fun i' hi' => ?_, fr5⟩, by dsimp only; omega⟩ <;> try dsimp only
          · rw [fo 332 (by decide) (by decide) (by decide)]; exact d1.1 k hk
          · rw [fo 333 (by decide) (by decide) (by decide)]; exact d1.2 c hc3
          · by_cases e : i' = i
            · rw [e, edn]; exact hc2
            · exact h5 i' (by omega)
        · refine ⟨s.1 240 + i, N4, Or.inl ⟨rfl, ?_, by omega, by omega⟩, Or.inr ⟨i, by omega, rfl, ?_, h5⟩, fr5⟩
          · rw [fo 332 (by decide) (by decide) (by decide), d1.1 240 (by omega), ← edn, hday2]; omega
          · rw [edn]; dsimp only at hc2; omega
    · rintro ⟨x, N⟩ ⟨i, h1, h2, h3, h4, h5, h6⟩
      dsimp only at h2 h3 h4 h5 h6 ⊢
      subst h2
      have hday := daysA_day (ρ := ρ) (a := 0) (w := (aW ρ).toNat) i s
      have hd0 := hb.1.2.2.2.2.2
      have edn : daysA ρ 0 (aW ρ).toNat (i + 1) s = dayA ρ 0 (aW ρ).toNat (daysA ρ 0 (aW ρ).toNat i s) := rfl
      unfold f_X_breaks_L27
      refine wpo_i (fun hc => wpo_s ?_) (fun hc => ?_)
      · have : i = 200 := by omega
        subst this
        exact ⟨-2, N, Or.inr ⟨rfl, rfl⟩, Or.inl ⟨rfl, h5⟩, h6⟩
      have hxN : RivX N rv ρ := rivx_congr hx (fun a b1 b2 b3 b4 => by
        by_cases q : a = rv + 12 ∨ a = rv + 13 ∨ a = rv + 17 ∨ a = rv + 18
        · omega
        · exact h6 a (by unfold scrX; omega))
      obtain ⟨came, N', ed, c1, c2, c3, c4, c5⟩ := passDay_eq (F := FU) (b := 56) (rv := rv) (a := 0) (w := (aW ρ).toNat) hF ⟨Or.inr rfl, by omega⟩ hρ hxN h3 (by omega) (by omega)
      have ed' : f_B_passDay FU 56 rv 0 (aW ρ) N = some (came, N') := by
        rw [show aW ρ = ((0 + (aW ρ).toNat : Nat) : Int) by omega]
        exact ed
      rw [hxN.2.1, ed', Option.bind_some]
      have fr5 : FrX rv I N' := frX_trans h6 (fun a ha => by unfold scrX at ha; exact c4 a (by omega) (by omega) (by omega) (by omega) (by omega))
      rw [w32i (by omega) (by omega)]
      have goon : ∀ M : MI, BedQ M 56 ρ (daysA ρ 0 (aW ρ).toNat (i + 1) s) → ovr ρ (daysA ρ 0 (aW ρ).toNat (i + 1) s).2 ≠ 0 → FrX rv I M → wpo (some (Sum.inr ((i : Int) + 1, M)) : Option (((Int × MI) ⊕ MI) ⊕ (Int × MI))) (fun r => Sum.elim (fun e => ∃ (r : Int) (I' : MI), (e = .inl (r, I') ∨ (e = .inr I' ∧ r = -2)) ∧ BrkS ρ s r ∧ FrX rv I I') (fun s' : Int × MI => (∃ i : Nat, i ≤ 200 ∧ s'.1 = (i : Int) ∧ BedQ s'.2 56 ρ (daysA ρ 0 (aW ρ).toNat i s) ∧ ovr ρ (daysA ρ 0 (aW ρ).toNat i s).2 ≠ 0 ∧ (∀ i' : Nat, i' < i → ovr ρ (daysA ρ 0 (aW ρ).toNat (i' + 1) s).2 ≠ 0) ∧ FrX rv I s'.2) ∧ 200 - s'.1.toNat < 200 - ((i : Int)).toNat) r) := by
        intro M hM ho hfr
        refine wpo_s ⟨⟨i + 1, by omega, by dsimp only; omega, hM, ho, fun i' hi' => ?_, hfr⟩, by dsimp only; omega⟩
        by_cases e : i' = i
        · rw [e]; exact ho
        · exact h5 i' (by omega)
      refine wpo_i (fun hc2 => ?_) (fun hc2 => ?_)
      · have heq := c2 hc2
        exact goon N' c3 (by rw [edn, heq]; exact h4) fr5
      · obtain ⟨N4, eo, fo⟩ := X_isWayOver (b := 56) (rv := rv) (I := N') ⟨Or.inr rfl, by omega⟩ hρ (rivx_fr ⟨Or.inr rfl, by omega⟩ hxN c4) hm hl c3.2.1
        have fr6 : FrX rv I N4 := frX_trans fr5 (fun a ha => by unfold scrX at ha; exact fo a (by omega) (by omega) (by omega))
        rw [eo, Option.bind_some]
        refine wpo_i (fun hc3 => goon N4 (bedq_congr c3 (fun a b1 b2 => fo a (by omega) (by omega) (by omega))) hc3 fr6) (fun hc3 => wpo_s ?_)
        refine ⟨s.1 240 + i, N4, Or.inl ?_, Or.inr ⟨i, by omega, rfl, ?_, h5⟩, fr6⟩
        · rw [h3.2.2, hday]
        · rw [edn]; dsimp only at hc3; omega
