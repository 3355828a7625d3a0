/-! the class's ways: the best, and the line -/
def isLen (D f : Nat → Int) (g : Nat → Nat) (e : Int) (n : Nat) : Prop := (∀ j, j < n → D (g j) ≠ e) ∧ D (g n) = e
theorem dbound {ρ : RIV} {w cc : Nat → Int} {pl : Int} {C dn : Nat → Int} (h : DIv ρ w cc pl C dn) (hcc : ∀ c, c < 96 → 0 ≤ w c → 0 ≤ cc c ∧ cc c ≤ 100000) (hpl : 1 ≤ pl ∧ pl ≤ 10000) : ∀ (n v : Nat), v < 96 → 0 ≤ w v → C v = (n : Int) → C v < 1073741824 → C v ≤ 110000 * (1 + rkD w C v) := by
  obtain ⟨d0, d1, d2, d3, d4, d5⟩ := h
  intro n
  induction n using Nat.strongRecOn with
  | _ n ih =>
  intro v hv hw hn hlt
  have hr := rkD_nn (w := w) (D := C) (k := v)
  have hc := hcc v hv hw
  rcases d3 v hv hw with r | ⟨_, r⟩ | ⟨u, u1, u2, u3, u4, u5⟩
  · omega
  · omega
  · have hu := (d0 u u1).2.2.1
    have := ih (C u).toNat (by omega) u u1 u3 (by omega) (d4 u u1 u2)
    have := rkD_lt (w := w) (D := C) (k := v) u1 u3 (by omega)
    omega
def DofC (cc C : Nat → Int) (best : Int) (k : Nat) : Int := if k = 96 then best else if C k < 1073741824 then C k - cc k else 1073741824
theorem sol_X {ρ : RIV} {w cc : Nat → Int} {pl best : Int} {C dn : Nat → Int} (h : DIv ρ w cc pl C dn) (hcc : ∀ c, c < 96 → 0 ≤ w c → 0 ≤ cc c ∧ cc c ≤ 100000) (hpl : 1 ≤ pl ∧ pl ≤ 10000) (hend : ∀ v, v < 96 → dn v = 1 ∨ C v = 1073741824)
    (b1 : enB ρ 96 = true → best ≤ pl) (b2 : ∀ c, c < 96 → lpB ρ 96 c = true → C c < 1073741824 → best ≤ pl + C c) (b3 : (best = if enB ρ 96 = true then pl else 1073741824) ∨ ∃ c, c < 96 ∧ lpB ρ 96 c = true ∧ C c < 1073741824 ∧ best = pl + C c) (b4 : best ≤ 1073741824) : Sol ρ w pl cc 1073741824 (DofC cc C best) := by
  have hb := dbound h hcc hpl
  obtain ⟨d0, d1, d2, d3, d4, d5⟩ := h
  have hwC : ∀ c, c < 96 → C c < 1073741824 → 0 ≤ w c := fun c hc hlt => by
    by_cases g : 0 ≤ w c
    · exact g
    · have := (d0 c hc).2.2.2 (by omega); omega
  have hD : ∀ c, c < 96 → C c < 1073741824 → DofC cc C best c = C c - cc c := fun c hc hlt => by
    unfold DofC; rw [if_neg (by omega), if_pos hlt]
  have hDi : ∀ c, c < 96 → DofC cc C best c < 1073741824 → 0 ≤ w c → C c < 1073741824 := fun c hc hlt hw => by
    unfold DofC at hlt
    rw [if_neg (by omega)] at hlt
    by_cases g : C c < 1073741824
    · exact g
    · rw [if_neg g] at hlt; omega
  intro k hk
  rcases hk with rfl | ⟨hk, hw⟩
  · have e : DofC cc C best 96 = best := by unfold DofC; rw [if_pos rfl]
    rw [e]
    refine ⟨?_, b4, b1, fun to t1 t2 t3 t4 => ?_, ?_⟩
    · rcases b3 with q | ⟨c, c1, c2, c3, c4⟩
      · rw [q]; split <;> omega
      · have := (d0 c c1).2.2.1; omega
    · have hlt := hDi to t1 t4 t2
      rw [hD to t1 hlt]
      have := b2 to t1 t3 hlt
      omega
    · rcases b3 with q | ⟨c, c1, c2, c3, c4⟩
      · by_cases g : enB ρ 96 = true
        · rw [if_pos g] at q; exact Or.inr (Or.inl ⟨g, q⟩)
        · rw [if_neg g] at q; exact Or.inl q
      · have hwc := hwC c c1 c3
        have := hcc c c1 hwc
        refine Or.inr (Or.inr ⟨c, c1, hwc, c2, ?_, ?_⟩)
        · rw [hD c c1 c3]; omega
        · rw [hD c c1 c3]; omega
  · have hc := hcc k hk hw
    by_cases hlt : C k < 1073741824
    · rw [hD k hk hlt]
      have d3k := d3 k hk hw
      refine ⟨?_, by omega, fun he => ?_, fun to t1 t2 t3 t4 => ?_, ?_⟩
      · rcases d3k with r | ⟨_, r⟩ | ⟨u, u1, u2, u3, u4, u5⟩
        · omega
        · omega
        · have := (d0 u u1).2.2.1; omega
      · have := d1 k hk hw he; omega
      · have hlt2 := hDi to t1 t4 t2
        rw [hD to t1 hlt2]
        have hdo : dn to = 1 := by rcases hend to t1 with q | q <;> omega
        have := d2 to k t1 hk hdo hw t3
        omega
      · rcases d3k with r | ⟨r1, r⟩ | ⟨u, u1, u2, u3, u4, u5⟩
        · omega
        · exact Or.inr (Or.inl ⟨r1, by omega⟩)
        · have hlu := d4 u u1 u2
          have := hcc u u1 u3
          refine Or.inr (Or.inr ⟨u, u1, u3, u4, ?_, ?_⟩)
          · rw [hD u u1 hlu]; omega
          · rw [hD u u1 hlu]; omega
    · have e : DofC cc C best k = 1073741824 := by unfold DofC; rw [if_neg (by omega), if_neg hlt]
      rw [e]
      refine ⟨by omega, by omega, fun he => ?_, fun to t1 t2 t3 t4 => ?_, Or.inl rfl⟩
      · have := d1 k hk hw he; omega
      · have hlt2 := hDi to t1 t4 t2
        have hdo : dn to = 1 := by rcases hend to t1 with q | q <;> omega
        have := d2 to k t1 hk hdo hw t3
        have hr := rkD_nn (w := w) (D := C) (k := to)
        have := hb (C to).toNat to t1 t2 (by have := (d0 to t1).2.2.1; omega) hlt2
        omega
theorem best_eq {F rv : Nat} (hF : 1000000 ≤ F) {x2 pl b0 : Int} {I : MI} {ρ : RIV} (hρ : RivOK ρ) (hr2 : I rv 2 = aJ ρ) (hpl : 1 ≤ pl ∧ pl ≤ 10000) (hC : ∀ c, c < 96 → 0 < I 247 c) (hb0 : 0 ≤ b0 ∧ b0 ≤ 1073741824) : ∃ best, iter (fun q : Int × Int => f_Y_find_L30 F rv x2 pl q.1 q.2 I) F (b0, 0) = some best ∧ 0 ≤ best ∧ best ≤ b0 ∧ (∀ c, c < 96 → lpB ρ 96 c = true → I 247 c < 1073741824 → best ≤ pl + I 247 c) ∧ (best = b0 ∨ ∃ c, c < 96 ∧ lpB ρ 96 c = true ∧ I 247 c < 1073741824 ∧ best = pl + I 247 c) := by
  refine wpo_iter (Q := fun best => 0 ≤ best ∧ best ≤ b0 ∧ (∀ c, c < 96 → lpB ρ 96 c = true → I 247 c < 1073741824 → best ≤ pl + I 247 c) ∧ (best = b0 ∨ ∃ c, c < 96 ∧ lpB ρ 96 c = true ∧ I 247 c < 1073741824 ∧ best = pl + I 247 c)) (fun q => ∃ i : Nat, i ≤ 96 ∧ q.2 = (i : Int) ∧ 0 ≤ q.1 ∧ q.1 ≤ b0 ∧ (∀ c, c < i → lpB ρ 96 c = true → I 247 c < 1073741824 → q.1 ≤ pl + I 247 c) ∧ (q.1 = b0 ∨ ∃ c, c < i ∧ lpB ρ 96 c = true ∧ I 247 c < 1073741824 ∧ q.1 = pl + I 247 c)) (fun q => 96 - q.2.toNat) ?_ (by dsimp only; omega) ⟨0, by omega, rfl, by dsimp only; omega, by dsimp only; omega, fun c hc => absurd hc (by omega), Or.inl rfl⟩
  rintro ⟨b, x⟩ ⟨i, h1, h2, h3, h4, h5, h6⟩
  dsimp only at h2 h3 h4 h5 h6 ⊢
  subst h2
  unfold f_Y_find_L30
  refine wpo_i (fun hc => wpo_s ?_) (fun hc => ?_)
  · have : i = 96 := by omega
    subst this
    exact ⟨h3, h4, h5, h6⟩
  have hi : i < 96 := by omega
  have hCi := hC i hi
  refine wpo_g (by omega) ?_
  rw [Int.toNat_natCast, w32i (x := (i : Int) + 1) (by omega) (by omega)]
  have keep : (lpB ρ 96 i = true → I 247 i < 1073741824 → False) → ((∃ i' : Nat, i' ≤ 96 ∧ (i : Int) + 1 = (i' : Int) ∧ 0 ≤ b ∧ b ≤ b0 ∧ (∀ c, c < i' → lpB ρ 96 c = true → I 247 c < 1073741824 → b ≤ pl + I 247 c) ∧ (b = b0 ∨ ∃ c, c < i' ∧ lpB ρ 96 c = true ∧ I 247 c < 1073741824 ∧ b = pl + I 247 c)) ∧ 96 - ((i : Int) + 1).toNat < 96 - ((i : Int)).toNat) := by
    intro hno
    refine ⟨⟨i + 1, by omega, by omega, h3, h4, fun c hc2 => ?_, ?_⟩, by omega⟩
    · by_cases e : c = i
      · subst e; exact fun a b => (hno a b).elim
      · exact h5 c (by omega)
    · rcases h6 with q | ⟨c, c1, c2, c3, c4⟩
      · exact Or.inl q
      · exact Or.inr ⟨c, by omega, c2, c3, c4⟩
  refine wpo_i (fun hc2 => wpo_s (keep (fun _ h => by omega))) (fun hc2 => ?_)
  rw [near_eq hρ hr2 hi, Option.bind_some]
  by_cases g : lpB ρ 96 i = true
  · clear keep
    rw [if_pos g]
    refine wpo_n (by decide) (wpo_s ?_)
    rw [w32i (by omega) (by omega)]
    refine ⟨⟨i + 1, by omega, rfl, by dsimp only; omega, by dsimp only; omega, fun c hc2 hl hlt => ?_, ?_⟩, by dsimp only; omega⟩ <;> dsimp only
    · by_cases e : c = i
      · subst e; omega
      · have := h5 c (by omega) hl hlt; omega
    · by_cases e : b ≤ pl + I 247 i
      · rw [Int.min_eq_left e]
        rcases h6 with q | ⟨c, c1, c2, c3, c4⟩
        · exact Or.inl q
        · exact Or.inr ⟨c, by omega, c2, c3, c4⟩
      · exact Or.inr ⟨i, by omega, g, by omega, by omega⟩
  · rw [if_neg g]
    exact wpo_g rfl (wpo_s (keep (fun h _ => g h)))
theorem first_eq {F rv : Nat} (hF : 1000000 ≤ F) {frm cost : Int} {I : MI} {ρ : RIV} {w : Nat → Int} {cur b : Nat} (hρ : RivOK ρ) (hr2 : I rv 2 = aJ ρ) (hw : ∀ c, c < 96 → I 245 c = w c) (hcur : (cur = 96 ∧ frm = -1) ∨ (cur < 96 ∧ frm = (cur : Int))) {p : Nat → Bool} (hp : ∀ c, c < 96 → (p c = true ↔ 0 ≤ w c ∧ I 247 c = cost ∧ (if cur = 96 then lpB ρ 96 c = true else dst cur c ≤ aJ ρ))) (hb : fstP p 96 0 = some b) : f_Y_firstWithCost F rv frm cost I = some (b : Int) := by
  obtain ⟨f1, f2, f3, f4⟩ := fstP_some hb
  unfold f_Y_firstWithCost
  have key := wpo_iter (step := fun s : Int => f_Y_firstWithCost_L3 F rv frm cost s I) (Q := fun e => e = .inl (b : Int) ∨ e = .inr (.inl (b : Int))) (fun q => ∃ j : Nat, q = (j : Int) ∧ j ≤ b) (fun q => (b : Int).toNat - q.toNat) ?_ (F := F) (s := (0 : Int)) (by omega) ⟨0, rfl, by omega⟩
  · obtain ⟨e, e1, e2⟩ := key
    rw [e1, Option.bind_some]
    rcases e2 with h | h <;> rw [h]
  rintro q ⟨j, hq, hj⟩
  subst hq
  unfold f_Y_firstWithCost_L3
  have hj9 : j < 96 := by omega
  refine wpo_n (by omega) (wpo_g (by omega) ?_)
  rw [Int.toNat_natCast, hw j hj9, w32i (x := (j : Int) + 1) (by omega) (by omega)]
  have next : p j ≠ true → (∃ j' : Nat, (j : Int) + 1 = (j' : Int) ∧ j' ≤ b) ∧ ((b : Int)).toNat - ((j : Int) + 1).toNat < ((b : Int)).toNat - ((j : Int)).toNat := by
    intro hn
    have : j ≠ b := by intro e; rw [e] at hn; exact hn f3
    exact ⟨⟨j + 1, by omega, by omega⟩, by omega⟩
  have found : p j = true → j = b := by
    intro hpj
    by_cases e : j < b
    · have := f4 j (by omega) e; rw [hpj] at this; cases this
    · omega
  refine wpo_i (fun hc => wpo_s (next (fun h => by have := (hp j hj9).mp h; omega))) (fun hc => ?_)
  refine wpo_i (fun hc2 => ?_) (fun hc2 => wpo_s (next (fun h => hc2 ((hp j hj9).mp h).2.1)))
  rcases hcur with ⟨c1, c2⟩ | ⟨c1, c2⟩
  · refine wpo_n (by omega) ?_
    rw [near_eq hρ hr2 hj9, Option.bind_some]
    by_cases g : lpB ρ 96 j = true
    · rw [if_pos g]
      refine wpo_n (by decide) (wpo_s (Or.inl ?_))
      rw [found ((hp j hj9).mpr ⟨by omega, hc2, by rw [if_pos c1]; exact g⟩)]
    · rw [if_neg g]
      refine wpo_g rfl (wpo_s (next (fun h => ?_)))
      have := ((hp j hj9).mp h).2.2
      rw [if_pos c1] at this
      exact g this
  · refine wpo_g (by omega) ?_
    rw [c2, within_eq hr2 c1 hj9, Option.bind_some]
    by_cases g : dst cur j ≤ aJ ρ
    · rw [if_pos g]
      refine wpo_n (by decide) (wpo_s (Or.inr ?_))
      rw [found ((hp j hj9).mpr ⟨by omega, hc2, by rw [if_neg (by omega)]; exact g⟩)]
    · rw [if_neg g]
      refine wpo_g rfl (wpo_s (next (fun h => ?_)))
      have := ((hp j hj9).mp h).2.2
      rw [if_neg (by omega)] at this
      exact g this
theorem itn_ok {ρ : RIV} {w : Nat → Int} {e inf : Int} {c D : Nat → Int} (h : Sol ρ w e c inf D) (he : 0 < e) (hc : ∀ k, k < 96 → 0 ≤ w k → 0 ≤ c k) (hfin : D 96 < inf) : ∀ (n : Nat), (∀ j, j < n → D (itn ρ w e c D inf j) ≠ e) → gok w (itn ρ w e c D inf n) ∧ D (itn ρ w e c D inf n) < inf ∧ (n : Int) + rkD w D (itn ρ w e c D inf n) ≤ 96 ∧ (0 < n → itn ρ w e c D inf n < 96)
  | 0, _ => ⟨Or.inl rfl, hfin, by have := (rkD_nn (w := w) (D := D) (k := 96)).2; show ((0 : Nat) : Int) + rkD w D 96 ≤ 96; omega, fun h => absurd h (by omega)⟩
  | n + 1, hn => by
    obtain ⟨a1, a2, a3, a4⟩ := itn_ok h he hc hfin n (fun j hj => hn j (by omega))
    obtain ⟨b1, b2, b3, b4, b5, b6⟩ := nxt_spec h he a1 a2 (hn n (by omega))
    have hcn := hc _ b2 b3
    have hr := rkD_lt (w := w) (D := D) (k := itn ρ w e c D inf n) b2 b3 (by omega)
    exact ⟨Or.inr ⟨b2, b3⟩, b5, by show ((n + 1 : Nat) : Int) + rkD w D (nxt ρ w e c D inf (itn ρ w e c D inf n)) ≤ 96; omega, fun _ => b2⟩
theorem draw_eq {F rv : Nat} (hF : 1000000 ≤ F) {x2 pl best : Int} {I : MI} {ρ : RIV} {w cc : Nat → Int} (hρ : RivOK ρ) (hrv : rv = 11 ∨ rv = 30) (hr2 : I rv 2 = aJ ρ) (hw : ∀ c, c < 96 → I 245 c = w c) (hcc : ∀ c, c < 96 → 0 ≤ w c → x2 * w c = cc c ∧ 0 ≤ cc c ∧ cc c ≤ 100000) (hpl : 1 ≤ pl ∧ pl ≤ 10000) (hS : Sol ρ w pl cc 1073741824 (DofC cc (I 247) best)) (hfin : best < 1073741824) (hC : ∀ c, c < 96 → 0 < I 247 c) (hz : I 244 2 = 0) : ∃ (I' : MI) (n : Nat), f_Y_drawLine F rv best x2 pl I = some I' ∧ n ≤ 96 ∧ isLen (DofC cc (I 247) best) (fun _ => 0) (itn ρ w pl cc (DofC cc (I 247) best) 1073741824) pl n ∧ I' 244 2 = (n : Int) ∧ (∀ k, k < n → I' 246 k = ((itn ρ w pl cc (DofC cc (I 247) best) 1073741824 (k + 1) : Nat) : Int)) ∧ (∀ r, r ≠ 244 → r ≠ 246 → I' r = I r) := by
  have hc0 : ∀ k, k < 96 → 0 ≤ w k → 0 ≤ cc k := fun k hk hwk => (hcc k hk hwk).2.1
  generalize hDd : DofC cc (I 247) best = D at hS ⊢
  have hD96 : D 96 = best := by rw [← hDd]; unfold DofC; rw [if_pos rfl]
  have hDc : ∀ c, c < 96 → D c = if I 247 c < 1073741824 then I 247 c - cc c else 1073741824 := fun c hc => by rw [← hDd]; unfold DofC; rw [if_neg (by omega)]
  have hok := fun n hn => itn_ok hS (by omega) hc0 (by omega) n hn
  unfold f_Y_drawLine
  have key := wpo_iter (step := fun s : Int × Int × Int × MI => f_Y_drawLine_L9 F rv x2 pl s.1 s.2.1 s.2.2.1 s.2.2.2) (Q := fun e => ∃ (I' : MI) (n : Nat), (e = .inl I' ∨ e = .inr I') ∧ n ≤ 96 ∧ isLen D (fun _ => 0) (itn ρ w pl cc D 1073741824) pl n ∧ I' 244 2 = (n : Int) ∧ (∀ k, k < n → I' 246 k = ((itn ρ w pl cc D 1073741824 (k + 1) : Nat) : Int)) ∧ (∀ r, r ≠ 244 → r ≠ 246 → I' r = I r)) (fun q => ∃ i : Nat, i ≤ 96 ∧ q.2.2.1 = (i : Int) ∧ (∀ j, j < i → D (itn ρ w pl cc D 1073741824 j) ≠ pl) ∧ q.2.1 = D (itn ρ w pl cc D 1073741824 i) ∧ ((itn ρ w pl cc D 1073741824 i = 96 ∧ q.1 = -1) ∨ (itn ρ w pl cc D 1073741824 i < 96 ∧ q.1 = ((itn ρ w pl cc D 1073741824 i : Nat) : Int))) ∧ q.2.2.2 244 2 = (i : Int) ∧ (∀ k, k < i → q.2.2.2 246 k = ((itn ρ w pl cc D 1073741824 (k + 1) : Nat) : Int)) ∧ (∀ r, r ≠ 244 → r ≠ 246 → q.2.2.2 r = I r)) (fun q => 96 - q.2.2.1.toNat) ?_ (F := F) (s := ((-1 : Int), best, (0 : Int), I)) (by dsimp only; omega) ⟨0, by omega, rfl, fun j hj => absurd hj (by omega), by dsimp only; exact hD96.symm, Or.inl ⟨rfl, rfl⟩, hz, fun k hk => absurd hk (by omega), fun _ _ _ => rfl⟩
  · obtain ⟨e, e1, I', n, e2, q⟩ := key
    refine ⟨I', n, ?_, q⟩
    rw [e1, Option.bind_some]
    rcases e2 with h | h <;> rw [h]
  rintro ⟨frm, rest, x, N⟩ ⟨i, h1, h2, h3, h4, h5, h6, h7, h8⟩
  dsimp only at h2 h4 h5 h6 h7 h8 ⊢
  subst h2
  obtain ⟨o1, o2, o3, o4⟩ := hok i h3
  have hrn := rkD_nn (w := w) (D := D) (k := itn ρ w pl cc D 1073741824 i)
  have hge : pl ≤ D (itn ρ w pl cc D 1073741824 i) := by
    obtain ⟨a1, a2, a3, a4, a5⟩ := hS _ o1
    rcases a5 with r | ⟨_, r⟩ | ⟨to, t1, t2, t3, t4, t5⟩
    · omega
    · omega
    · have := (hS to (Or.inr ⟨t1, t2⟩)).1
      have := hc0 to t1 t2
      omega
  unfold f_Y_drawLine_L9
  by_cases hpe : D (itn ρ w pl cc D 1073741824 i) = pl
  · by_cases h96 : 96 ≤ (i : Int)
    · exact wpo_g h96 (wpo_s ⟨N, i, Or.inr rfl, h1, ⟨h3, hpe⟩, h6, h7, h8⟩)
    · exact wpo_n h96 (wpo_g (by omega) (wpo_s ⟨N, i, Or.inr rfl, h1, ⟨h3, hpe⟩, h6, h7, h8⟩))
  · obtain ⟨b1, b2, b3, b4, b5, b6⟩ := nxt_spec hS (by omega) o1 o2 hpe
    have hcn := hcc _ b2 b3
    have hr := rkD_lt (w := w) (D := D) (k := itn ρ w pl cc D 1073741824 i) b2 b3 (by omega)
    have hrn2 := rkD_nn (w := w) (D := D) (k := nxt ρ w pl cc D 1073741824 (itn ρ w pl cc D 1073741824 i))
    refine wpo_n (by omega) (wpo_n (by omega) ?_)
    have hN247 : N 247 = I 247 := h8 247 (by decide) (by decide)
    have hN245 : N 245 = I 245 := h8 245 (by decide) (by decide)
    have hpn := (hS _ (Or.inr ⟨b2, b3⟩)).1
    have ef := first_eq (F := F) (rv := rv) (frm := frm) (cost := w32 (rest - pl)) (I := N) (ρ := ρ) (w := w) (p := nxP ρ w pl cc D 1073741824 (itn ρ w pl cc D 1073741824 i)) hF hρ (by rw [h8 rv (by omega) (by omega)]; exact hr2) (fun c hc => by rw [hN245]; exact hw c hc) h5 (fun c hc => by
      rw [h4, w32i (by omega) (by omega), hN247]
      unfold nxP
      simp only [Bool.and_eq_true, decide_eq_true_eq]
      have hDcc := hDc c hc
      constructor
      · rintro ⟨⟨q1, q2⟩, q3, q4⟩
        have hcq := hcc c hc q1
        by_cases g : I 247 c < 1073741824
        · rw [if_pos g] at hDcc
          refine ⟨q1, by omega, ?_⟩
          split
          · rename_i e; rw [e] at q2; exact q2
          · rename_i e
            unfold lpB at q2
            rw [if_neg e, decide_eq_true_eq] at q2
            exact q2.2
        · rw [if_neg g] at hDcc; omega
      · rintro ⟨q1, q2, q3⟩
        have hcq := hcc c hc q1
        have g : I 247 c < 1073741824 := by omega
        rw [if_pos g] at hDcc
        refine ⟨⟨q1, ?_⟩, by omega, by omega⟩
        split at q3
        · rename_i e; rw [e]; exact q3
        · rename_i e
          unfold lpB
          rw [if_neg e, decide_eq_true_eq]
          refine ⟨fun e2 => ?_, q3⟩
          rw [e2] at q2
          omega) b1
    rw [ef, Option.bind_some]
    refine wpo_g (by omega) (wpo_g (by omega) (wpo_g (by omega) (wpo_s ?_)))
    have hin : itn ρ w pl cc D 1073741824 (i + 1) = nxt ρ w pl cc D 1073741824 (itn ρ w pl cc D 1073741824 i) := rfl
    have hDn := hDc _ b2
    have hCn : I 247 (nxt ρ w pl cc D 1073741824 (itn ρ w pl cc D 1073741824 i)) < 1073741824 := by
      by_cases g : I 247 (nxt ρ w pl cc D 1073741824 (itn ρ w pl cc D 1073741824 i)) < 1073741824
      · exact g
      · rw [if_neg g] at hDn; omega
    rw [if_pos hCn] at hDn
    simp only [Int.toNat_natCast, h6]
    rw [up2_r (show (244 : Nat) ≠ 246 by decide), h6, w32i (x := (i : Int) + 1) (by omega) (by omega)]
    simp only [up2_r (show (247 : Nat) ≠ 244 by decide), up2_r (show (247 : Nat) ≠ 246 by decide), up2_r (show (245 : Nat) ≠ 244 by decide), up2_r (show (245 : Nat) ≠ 246 by decide)]
    rw [hN247, hN245, hw _ b2, hcn.1, w32i (x := cc _) (by omega) (by omega), w32i (by omega) (by omega)]
    refine ⟨⟨i + 1, by omega, by dsimp only; omega, fun j hj => ?_, ?_, ?_, ?_, fun k hk => ?_, fun r r1 r2 => ?_⟩, by first | omega | (dsimp only; omega)⟩ <;> try dsimp only
    · by_cases e : j = i
      · rw [e]; exact hpe
      · exact h3 j (by omega)
    · rw [hin]; omega
    · rw [hin]; exact Or.inr ⟨b2, rfl⟩
    · rw [up2_same]; omega
    · rw [up2_r (by decide)]
      by_cases e : k = i
      · rw [e, up2_same, hin]
      · rw [up2_k e]; exact h7 k (by omega)
    · rw [up2_off r1, up2_off r2]; exact h8 r r1 r2
theorem X_find {F rv : Nat} (hF : 1000000 ≤ F) {x2 pl : Int} {I : MI} {ρ : RIV} {w cc : Nat → Int} (hρ : RivOK ρ) (hx : RivX I rv ρ) (hrv : rv = 11 ∨ rv = 30) (hw : ∀ c, c < 96 → I 245 c = w c) (hcc : ∀ c, c < 96 → 0 ≤ w c → x2 * w c = cc c ∧ 0 ≤ cc c ∧ cc c ≤ 100000) (hpl : 1 ≤ pl ∧ pl ≤ 10000) (hwr : ∀ c, c < 96 → 0 ≤ w c → inRv ρ c = true) : ∃ (D : Nat → Int) (I' : MI), Sol ρ w pl cc 1073741824 D ∧ f_Y_find F rv x2 pl I = some ((if D 96 < 1073741824 then 1 else 0), I') ∧ (∀ r, r ≠ 244 → r ≠ 246 → r ≠ 247 → r ≠ 248 → I' r = I r) ∧ (D 96 < 1073741824 → ∃ n : Nat, n ≤ 96 ∧ isLen D (fun _ => 0) (itn ρ w pl cc D 1073741824) pl n ∧ I' 244 2 = (n : Int) ∧ ∀ k, k < n → I' 246 k = ((itn ρ w pl cc D 1073741824 (k + 1) : Nat) : Int)) := by
  have o1 : ∀ r, r ≠ 244 → up2 I 244 2 0 r = I r := fun r hr => up2_off hr
  obtain ⟨I1, e1, d1, d2, fr1⟩ := weigh_eq (F := F) (rv := rv) (x2 := x2) (pl := pl) (I := up2 I 244 2 0) (w := w) (cc := cc) hF hρ (by rw [o1 rv (by omega)]; exact hx.1) (by rw [o1 rv (by omega)]; exact hx.2.1) (by rw [o1 rv (by omega)]; exact hx.2.2.1) hrv (fun c hc => by rw [o1 245 (by decide)]; exact hw c hc) hcc hpl hwr
  have hr1' : I1 rv 1 = aW ρ := by rw [fr1 rv (by omega) (by omega), o1 rv (by omega)]; exact hx.2.1
  have hr2' : I1 rv 2 = aJ ρ := by rw [fr1 rv (by omega) (by omega), o1 rv (by omega)]; exact hx.2.2.1
  have hC : ∀ c, c < 96 → 0 < I1 247 c := fun c hc => (d1.1 c hc).2.2.1
  have hb0 : 0 ≤ (if enB ρ 96 = true then pl else 1073741824) ∧ (if enB ρ 96 = true then pl else 1073741824) ≤ 1073741824 := by split <;> omega
  obtain ⟨best, eb, b0, b1, b2, b3⟩ := best_eq (F := F) (rv := rv) (x2 := x2) (pl := pl) (b0 := if enB ρ 96 = true then pl else 1073741824) (I := I1) hF hρ hr2' hpl hC hb0
  have hS := sol_X d1 (fun c hc hwc => (hcc c hc hwc).2) hpl d2 (fun h => by rw [if_pos h] at b1; exact b1) b2 b3 (by omega)
  have hD96 : DofC cc (I1 247) best 96 = best := by unfold DofC; rw [if_pos rfl]
  have body : f_Y_find F rv x2 pl I = f_Y_find_b25 F rv x2 pl (if enB ρ 96 = true then pl else 1073741824) I1 := by
    unfold f_Y_find
    rw [e1, Option.bind_some, once_eq hr1' hr2', Option.bind_some]
    by_cases g : enB ρ 96 = true
    · rw [if_pos g, if_neg (by decide), if_pos g]
    · rw [if_neg g, if_pos rfl, if_neg g]
  unfold f_Y_find_b25 at body
  rw [eb, Option.bind_some] at body
  have fr : ∀ r, r ≠ 244 → r ≠ 247 → r ≠ 248 → I1 r = I r := fun r h1 h2 h3 => (fr1 r h2 h3).trans (o1 r h1)
  by_cases hfin : best < 1073741824
  · rw [if_pos hfin] at body
    obtain ⟨I2, n, q1, q2, q3, q4, q5, q6⟩ := draw_eq (F := F) (rv := rv) (x2 := x2) (pl := pl) (best := best) (I := I1) (w := w) (cc := cc) hF hρ hrv hr2' (fun c hc => by rw [fr 245 (by decide) (by decide) (by decide)]; exact hw c hc) hcc hpl hS hfin hC (by rw [fr1 244 (by decide) (by decide), up2_same])
    rw [q1, Option.bind_some] at body
    refine ⟨_, I2, hS, ?_, fun r h1 h2 h3 h4 => (q6 r h1 h2).trans (fr r h1 h3 h4), fun _ => ⟨n, q2, q3, q4, q5⟩⟩
    rw [body, hD96, if_pos hfin]
  · rw [if_neg hfin] at body
    refine ⟨_, I1, hS, ?_, fun r h1 h2 h3 h4 => fr r h1 h3 h4, fun h => ?_⟩
    · rw [body, hD96, if_neg hfin]
    · rw [hD96] at h; exact absurd h hfin
