/-! the law's entry: the walk's start (the law's own name is asked apart) -/
theorem vkS_congr {N : Nat} {len : List Nat} {byt : List (List Int32)} {k v k' v' : Nat → Nat} {A : Nat → Prop} {U : State} {H : Heap} (h : vk_S N len byt k v A U H) (h1 : ∀ i, i < N → k' i = k i) (h2 : ∀ i, i < N → v' i = v i) : vk_S N len byt k' v' A U H := by
  refine ⟨fun i hi => ?_, fun i j hi hj e => h.2 i j hi hj ?_⟩
  · rw [h1 i hi, h2 i hi]; exact h.1 i hi
  · rw [← h1 i hi, ← h1 j hj]; exact e
theorem start0 {p : Program} {e : Env} {s : State} {m : MethodId} {below : List Frame} {meth : Method} {c : Code} (l : Launch) (ag : AG InvQ) {b L : Nat} {xs : Nat → Int32} (hL : L ≤ 3072) (C0 : lw_At p s m meth c b L xs) : W p l e room_1 s m #[Value.ref b] below meth c s.heap [] 0 0 (lw_Z below #[Value.ref b] s) (entryFrame m ([Value.ref b] : List Value).toArray 4) := by
  obtain ⟨hx, hb, hr, hml, hown, hts, hX, hbl, hlk, hgv⟩ := C0
  obtain ⟨D, tA, hK⟩ := st_K hts
  have hA : ∀ a : Nat, a < s.heap.size → ¬ (s.heap.size - 1 < a) := fun a h => by omega
  obtain ⟨tX, zX, taX⟩ := st_leX (A := fun a => s.heap.size - 1 < a) hts hgv hA
  obtain ⟨tY, zY, taY⟩ := st_leY (A := fun a => s.heap.size - 1 < a) hts hgv hA
  obtain ⟨adK, adV, sS, r0, r1⟩ := st_str (A := fun a => s.heap.size - 1 < a) hts hgv hA
  obtain ⟨c1, c2⟩ := st_two (A := fun a => s.heap.size - 1 < a) hts hgv hA
  let sp : Nat → Nat := fun i => if i = 0 then tX else if i = 1 then tY else if i < 4 then adK (i - 2) else adV (i - 4)
  let g : GX := (D, tA, s.heap.size - 1, sp)
  have hST : ST g s s.heap := by
    refine ⟨zX, zY, taX, taY, r0, r1, ?_, c1, c2, st_NW hts⟩
    refine vkS_congr sS (fun i hi => ?_) (fun i hi => ?_)
    · show (if 2 + i = 0 then tX else if 2 + i = 1 then tY else if 2 + i < 4 then adK (2 + i - 2) else adV (2 + i - 4)) = adK i
      rw [if_neg (by omega), if_neg (by omega), if_pos (by omega), show 2 + i - 2 = i by omega]
    · show (if 4 + i = 0 then tX else if 4 + i = 1 then tY else if 4 + i < 4 then adK (4 + i - 2) else adV (4 + i - 4)) = adV i
      rw [if_neg (by omega), if_neg (by omega), if_neg (by omega), show 4 + i - 4 = i by omega]
  have hWH : WH g (0, (fun _ _ => 0), (fun _ _ => 0), gx_0) s.heap := by
    refine ⟨by show s.heap.size = s.heap.size - 1 + 1 + 0; omega, fun k q hk => ?_⟩
    exact absurd (wl_at hk).1 (by show ¬ k < 0; omega)
  have hNM : NM (0, (fun _ _ => 0), (fun _ _ => 0), gx_0) := ⟨fun _ _ => by show inR 0; unfold inR; omega, fun _ _ => by show inL 0; unfold inL; omega⟩
  have hl := lv_entry [Value.ref b] (n := 4) (by show 1 ≤ 4; omega)
  have hg : ∀ w ∈ lw_g, w.before #[Value.ref b] s = true := fun w h => hts w (List.mem_filter.mp h).1
  rw [lg_entry_eq]
  have k := z_to (a := 0) (b := 353) (locs := []) (H := s.heap) (lw_begin (l := l) (g := g) (p := p) (e := e) (s := s) (m := m) (below := below) (meth := meth) (c := c) ag bg_q hr hX hbl (by show b ≤ s.heap.size - 1; omega) hL) ⟨hx, hb, hml, hown, hg, hK _ _, hST, by show s.heap.size = s.heap.size - 1 + 1 + 0; omega, hlk, rfl, by show 70 ≤ room_1.frames; decide, by show 60 * 70 ≤ room_1.locals; decide, by decide, by decide +kernel⟩ (lok_of hl (fun i v h => entL_pad (vs := [Value.ref b]) (k := 3) h)) hWH hNM (Nat.le_refl _) (by decide) va_S.rf
  exact k
