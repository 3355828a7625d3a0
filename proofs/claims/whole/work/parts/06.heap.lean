/-! rows that read and write the heap -/
section HEAP
variable {l : Launch} {g : GX} {φ : CX} {μ : MU} {pc : Nat} {L : List (Option Value)} {st : List Value} {M : PW}
set_option maxRecDepth 100000 in
theorem igX0 : ∀ w ∈ wsX00, w ∈ lw_g := fun w h => lg_in (inX0 w h) (List.all_eq_true.mp (show (wsX00).all goodWord = true by decide +kernel) w h)
set_option maxRecDepth 100000 in
theorem igX1 : ∀ w ∈ wsX10, w ∈ lw_g := fun w h => lg_in (inX1 w h) (List.all_eq_true.mp (show (wsX10).all goodWord = true by decide +kernel) w h)
set_option maxRecDepth 100000 in
theorem igX2 : ∀ w ∈ wsX20, w ∈ lw_g := fun w h => lg_in (inX2 w h) (List.all_eq_true.mp (show (wsX20).all goodWord = true by decide +kernel) w h)
set_option maxRecDepth 100000 in
theorem igX3 : ∀ w ∈ wsX30, w ∈ lw_g := fun w h => lg_in (inX3 w h) (List.all_eq_true.mp (show (wsX30).all goodWord = true by decide +kernel) w h)
set_option maxRecDepth 100000 in
theorem igX4 : ∀ w ∈ wsX40, w ∈ lw_g := fun w h => lg_in (inX4 w h) (List.all_eq_true.mp (show (wsX40).all goodWord = true by decide +kernel) w h)
set_option maxRecDepth 100000 in
theorem igX5 : ∀ w ∈ wsX50, w ∈ lw_g := fun w h => lg_in (inX5 w h) (List.all_eq_true.mp (show (wsX50).all goodWord = true by decide +kernel) w h)
set_option maxRecDepth 100000 in
theorem igX6 : ∀ w ∈ wsX60, w ∈ lw_g := fun w h => lg_in (inX6 w h) (List.all_eq_true.mp (show (wsX60).all goodWord = true by decide +kernel) w h)
set_option maxRecDepth 100000 in
theorem igX7 : ∀ w ∈ wsX70, w ∈ lw_g := fun w h => lg_in (inX7 w h) (List.all_eq_true.mp (show (wsX70).all goodWord = true by decide +kernel) w h)
set_option maxRecDepth 100000 in
theorem igX8 : ∀ w ∈ wsX80, w ∈ lw_g := fun w h => lg_in (inX8 w h) (List.all_eq_true.mp (show (wsX80).all goodWord = true by decide +kernel) w h)
set_option maxRecDepth 100000 in
theorem igX9 : ∀ w ∈ wsX90, w ∈ lw_g := fun w h => lg_in (inX9 w h) (List.all_eq_true.mp (show (wsX90).all goodWord = true by decide +kernel) w h)
set_option maxRecDepth 100000 in
theorem igX10 : ∀ w ∈ wsX100, w ∈ lw_g := fun w h => lg_in (inX10 w h) (List.all_eq_true.mp (show (wsX100).all goodWord = true by decide +kernel) w h)
set_option maxRecDepth 100000 in
theorem igX11 : ∀ w ∈ wsX110, w ∈ lw_g := fun w h => lg_in (inX11 w h) (List.all_eq_true.mp (show (wsX110).all goodWord = true by decide +kernel) w h)
def CLf (ci : Nat) (C : String) (T : u_T) (N : Nat) (ty : Nat → FieldType) : Prop := vwCl[ci]? = some (C, T, N) ∧ (∀ w ∈ u_ws C T N, w ∈ lw_g) ∧ (∀ k, k < N → parseFieldDescriptor (T k).2.2.1 = some (ty k)) ∧ (∀ a, a < N → ∀ b, b < N → a ≠ b → (T a).2.1 ≠ (T b).2.1) ∧ ci < 12
theorem cl0 : CLf 0 RX0 TX0 7 tyX0 := ⟨rfl, igX0, tyX0_ok, nmX0, by decide⟩
theorem cl1 : CLf 1 RX1 TX1 5 tyX1 := ⟨rfl, igX1, tyX1_ok, nmX1, by decide⟩
theorem cl2 : CLf 2 RX2 TX2 13 tyX2 := ⟨rfl, igX2, tyX2_ok, nmX2, by decide⟩
theorem cl3 : CLf 3 RX3 TX3 5 tyX3 := ⟨rfl, igX3, tyX3_ok, nmX3, by decide⟩
theorem cl4 : CLf 4 RX4 TX4 3 tyX4 := ⟨rfl, igX4, tyX4_ok, nmX4, by decide⟩
theorem cl5 : CLf 5 RX5 TX5 8 tyX5 := ⟨rfl, igX5, tyX5_ok, nmX5, by decide⟩
theorem cl6 : CLf 6 RX6 TX6 15 tyX6 := ⟨rfl, igX6, tyX6_ok, nmX6, by decide⟩
theorem cl7 : CLf 7 RX7 TX7 2 tyX7 := ⟨rfl, igX7, tyX7_ok, nmX7, by decide⟩
theorem cl8 : CLf 8 RX8 TX8 4 tyX8 := ⟨rfl, igX8, tyX8_ok, nmX8, by decide⟩
theorem cl9 : CLf 9 RX9 TX9 6 tyX9 := ⟨rfl, igX9, tyX9_ok, nmX9, by decide⟩
theorem cl10 : CLf 10 RX10 TX10 16 tyX10 := ⟨rfl, igX10, tyX10_ok, nmX10, by decide⟩
theorem cl11 : CLf 11 RX11 TX11 81 tyX11 := ⟨rfl, igX11, tyX11_ok, nmX11, by decide⟩
theorem qR_pos {g : GX} {v : Nat} (h : 0 < v) : va_rf (qR g v) = vR g v := by
  unfold qR
  rw [if_neg (by omega)]
  rfl
theorem flds_get {g : GX} {M : PW} {r c n k : Nat} (hk : k < n) : ((List.range n).map (fv g M r c))[k]? = some (fv g M r c k) := by
  rw [List.getElem?_map, List.getElem?_range hk]
  rfl
theorem fv_I {g : GX} {M : PW} {r c k : Nat} (h : FK c k = false) : fv g M r c k = vI (M.2.1 r k) := by
  unfold fv
  rw [h]
  rfl
theorem fv_R {g : GX} {M : PW} {r c k v : Nat} (h : FK c k = true) (hv : M.2.2.2 r k = v) (h0 : 0 < v) : fv g M r c k = vR g v := by
  unfold fv
  rw [h, hv]
  exact qR_pos h0
theorem z_get {ci N index r k : Nat} {C : String} {T : u_T} {ty : Nat → FieldType} {v : Value} (hd : decode μ.1 pc = .ok (.getfield index, 3)) (cl : CLf ci C T N ty) (hr : SH r = (ci, N)) (h0 : 0 < r) (hz : r ≤ M.1) (hk : k < N) (hl : Cond.fieldLink μ.2.1 index (T k).1 (T k).2.1 (T k).2.2.1 ∈ lw_g) (hv : fv g M r ci k = v) (kk : Zt l g φ μ (pc + 3) L (v :: st) M) : Zt l g φ μ pc L (vR g r :: st) M := z_of fun p e s m args below meth c R a b Q hφ H locs ls C0 hl0 hH hN h1 h2 hS => by
  subst hφ
  have he := wl_get (g := g) (M := M) h0 hz
  rw [elt_obj hr cl.2.2.2.2] at he
  exact va_get (ref := (T k).1) C0.1 C0.2.1 C0.2.2.2.2.1 cl.2.1 C0.2.2.2.1 C0.2.2.2.2.2.1 hH.2 (r - 1) he cl.1 k hk (C0.2.2.2.2.1 _ hl) (fun _ h => h) ((flds_get hk).trans (congrArg some hv)) hd (z_to kk C0 hl0 hH hN h1 h2 hS)
theorem z_getN {ci N index r k : Nat} {C host : String} {T : u_T} {ty : Nat → FieldType} {v : Value} (hd : decode μ.1 pc = .ok (.getfield index, 3)) (cl : CLf ci C T N ty) (hr : SH r = (ci, N)) (h0 : 0 < r) (hz : r ≤ M.1) (hk : k < N) (hl : Cond.fieldLinkNest μ.2.1 index (T k).1 (T k).2.1 (T k).2.2.1 host ∈ lw_n) (hv : fv g M r ci k = v) (kk : Zt l g φ μ (pc + 3) L (v :: st) M) : Zt l g φ μ pc L (vR g r :: st) M := z_of fun p e s m args below meth c R a b Q hφ H locs ls C0 hl0 hH hN h1 h2 hS => by
  subst hφ
  have he := wl_get (g := g) (M := M) h0 hz
  rw [elt_obj hr cl.2.2.2.2] at he
  exact va_getN (ref := (T k).1) C0.1 C0.2.1 C0.2.2.2.2.1 cl.2.1 C0.2.2.2.1 C0.2.2.2.2.2.1 hH.2 (r - 1) he cl.1 k hk (va_Nw.use rfl (C0.2.2.2.2.2.2.1.2.2.2.2.2.2.2.2.2 _ hl)) (fun _ h => h) ((flds_get hk).trans (congrArg some hv)) hd (z_to kk C0 hl0 hH hN h1 h2 hS)
def wI (M : PW) (r k : Nat) (v : Int) : PW := (M.1, up2 M.2.1 r k v, M.2.2.1, M.2.2.2)
def wL (M : PW) (r k : Nat) (v : Int) : PW := (M.1, M.2.1, up2 M.2.2.1 r k v, M.2.2.2)
def wR (M : PW) (r k : Nat) (v : Nat) : PW := (M.1, M.2.1, M.2.2.1, up2 M.2.2.2 r k v)
theorem NM_wI {r k : Nat} {v : Int} (h : NM M) (hv : inR v) : NM (wI M r k v) := by
  refine ⟨fun a j => ?_, h.2⟩
  show inR (up2 M.2.1 r k v a j)
  by_cases hh : a = r ∧ j = k
  · rw [hh.1, hh.2, up2_same]; exact hv
  · unfold up2; rw [if_neg hh]; exact h.1 a j
theorem NM_wL {r k : Nat} {v : Int} (h : NM M) (hv : inL v) : NM (wL M r k v) := by
  refine ⟨h.1, fun a j => ?_⟩
  show inL (up2 M.2.2.1 r k v a j)
  by_cases hh : a = r ∧ j = k
  · rw [hh.1, hh.2, up2_same]; exact hv
  · unfold up2; rw [if_neg hh]; exact h.2 a j
theorem elt_wI_off {r k q : Nat} {v : Int} (h : q ≠ r) : elt g (wI M r k v) q = elt g M q := elt_off (up2_off h) rfl rfl
theorem elt_wL_off {r k q : Nat} {v : Int} (h : q ≠ r) : elt g (wL M r k v) q = elt g M q := elt_off rfl (up2_off h) rfl
theorem elt_wR_off {r k q v : Nat} (h : q ≠ r) : elt g (wR M r k v) q = elt g M q := elt_off rfl rfl (up2_off h)
theorem flds_set {g : GX} {M M' : PW} {r c n k : Nat} {v : Value} (hk : fv g M' r c k = v) (ho : ∀ j, j ≠ k → fv g M' r c j = fv g M r c j) : ((List.range n).map (fv g M r c)).set k v = (List.range n).map (fv g M' r c) := by
  apply List.ext_getElem?
  intro j
  by_cases hj : j = k
  · subst hj
    by_cases hn : j < n
    · rw [List.getElem?_set_self (by simpa using hn), List.getElem?_map, List.getElem?_range hn]
      simp [hk]
    · rw [List.getElem?_eq_none (by simp; omega), List.getElem?_eq_none (by simp; omega)]
  · rw [List.getElem?_set_ne (fun q => hj q.symm), List.getElem?_map, List.getElem?_map]
    by_cases hn : j < n
    · rw [List.getElem?_range hn]
      simp [ho j hj]
    · rw [List.getElem?_eq_none (by simp; omega)]
      rfl
/-- a store's end: the new picture -/
theorem WH_store {M M' : PW} {r : Nat} {H H1 : Heap} {e' : va_E} (h0 : 0 < r) (hz : r ≤ M.1) (hz2 : M'.1 = M.1) (he : ∀ q, q ≠ r → elt g M' q = elt g M q) (hr : elt g M' r = e') (hH : WH g M H) (hat : va_at g.1 vwCl (g.2.2.1 + r, e') H1) (hs : H1.size = H.size) (oq : ∀ q : Nat, q ≠ g.2.2.1 + r → H1[q]? = H[q]?) : WH g M' H1 := by
  subst hr
  have hP := hH.2.set (wl_D g M) (wl_get h0 hz) hat oq
  rw [wl_set h0 hz hz2 he] at hP
  exact ⟨by rw [hs, hz2]; exact hH.1, hP⟩
theorem AA_r {r : Nat} (h0 : 0 < r) : AA g (g.2.2.1 + r) := by
  show g.2.2.1 < g.2.2.1 + r
  omega
theorem fv_wI_ne {r c k j : Nat} {v : Int} (h : j ≠ k) : fv g (wI M r k v) r c j = fv g M r c j := by
  unfold fv wI
  dsimp only
  rw [show (up2 M.2.1 r k v) r j = M.2.1 r j from up2_ne (Or.inr h)]
theorem fv_wI_eq {r c k : Nat} {v : Int} (h : FK c k = false) : fv g (wI M r k v) r c k = vI v := by
  rw [fv_I h]
  exact congrArg vI up2_same
theorem fv_wR_ne {r c k j v : Nat} (h : j ≠ k) : fv g (wR M r k v) r c j = fv g M r c j := by
  unfold fv wR
  dsimp only
  rw [show (up2 M.2.2.2 r k v) r j = M.2.2.2 r j from up2_ne (Or.inr h)]
theorem fv_wR_eq {r c k v : Nat} (h : FK c k = true) (h0 : 0 < v) : fv g (wR M r k v) r c k = vR g v := fv_R h up2_same h0
theorem nb_of {v : Int} (h : v = 0 ∨ v = 1) : narrow .boolean (vI v) = vI v := by
  rcases h with rfl | rfl <;> decide +kernel
theorem nb_nar {v : Int} (h : v = 0 ∨ v = 1) : vp_nar .boolean (Int32.ofInt v) = Int32.ofInt v := by
  rcases h with rfl | rfl <;> decide +kernel
theorem inR_bool {v : Int} (h : v = 0 ∨ v = 1) : inR v := by
  rcases h with rfl | rfl <;> (unfold inR; omega)
theorem at_put {ci N r k : Nat} {C own : String} {T : u_T} {ty : Nat → FieldType} {s : State} {m : MethodId} {args : Array Value} {H : Heap} {v : Value} {fs : List Value} (hts : ∀ w ∈ lw_g, w.before args s = true) (hown : s.vm.findClass own = some m.cls) (hK : va_K g.1 vwCl (tyl g) s) (cl : CLf ci C T N ty) (hk : k < N) (hl : k < fs.length) (hat : va_at g.1 vwCl (r, .inr (ci, fs)) H) : ∃ (cell : Cell) (cf : ClassId) (kf : Class) (fi : Nat) (f : Field), H[r]? = some cell ∧ cell.cls = g.1.1 ci ∧ cell.vm = .none ∧ f.slot < cell.slots.size ∧ s.fieldFound? (T k).1 (T k).2.1 (T k).2.2.1 = some (cf, kf, fi, f) ∧ f.isStatic = false ∧ ∀ H' : Heap, H'[r]? = some (cell.setSlot f.slot v) → va_at g.1 vwCl (r, .inr (ci, fs.set k v)) H' := by
  have hap := va_apart (own := own) hts cl.2.1 ty cl.2.2.1 cl.2.2.2.1 hK cl.1
  obtain ⟨q, h1, cell, q1, q2, q3, q4⟩ := hat
  have hr : q = (C, T, N) := Option.some.inj (h1.symm.trans cl.1)
  subst hr
  obtain ⟨hS, hfc, kC, hkC, hkind⟩ := hK.1 ci _ cl.1
  obtain ⟨cf, kf, fi, f, hi, hsl⟩ := hS k hk
  have hst := (u_facts hfc hkC (u_lays hts cl.2.1 hk) hi).1
  refine ⟨cell, cf, kf, fi, f, q1, q2, q3, by rw [hsl]; exact k2_hasslot (q4 k hk), hi, hst, fun H' e1 => ?_⟩
  rw [hsl] at e1
  exact ⟨_, cl.1, t_OB.to (V := updV (vp_V fs) k v) ⟨_, e1, q2, q3, t_set q4 hap hk v⟩ (fun j _ => vp_updV_set hl v j)⟩
theorem st_put {ci N k : Nat} {C : String} {T : u_T} {ty : Nat → FieldType} {s : State} {args : Array Value} {v : Value} (hts : ∀ w ∈ lw_g, w.before args s = true) (hK : va_K g.1 vwCl (tyl g) s) (cl : CLf ci C T N ty) (hk : k < N) (hfin : (T k).2.2.2 = false) (hn : narrow (ty k) v = v) (hfit : fits (ty k) v = true) {cf fi : Nat} {kf : Class} {f : Field} (hi : s.fieldFound? (T k).1 (T k).2.1 (T k).2.2.1 = some (cf, kf, fi, f)) : k2_Sd s f (g.1.1 ci) v := by
  obtain ⟨hS, hfc, kC, hkC, hkind⟩ := hK.1 ci _ cl.1
  have hlay := hts _ (cl.2.1 _ (u_in_lay hk))
  unfold u_lay at hlay
  rw [if_neg (by rw [hfin]; decide)] at hlay
  exact u_store hfc hkC hkind hlay hi (cl.2.2.1 k hk) hn hfit
section PUT
variable {ci N index r k : Nat} {C host : String} {T : u_T} {ty : Nat → FieldType}
theorem z_put {v : Value} {M' : PW} (hd : decode μ.1 pc = .ok (.putfield index, 3)) (cl : CLf ci C T N ty) (hr : SH r = (ci, N)) (h0 : 0 < r) (hz : r ≤ M.1) (hk : k < N) (hfin : (T k).2.2.2 = false) (hl : Cond.fieldLink μ.2.1 index (T k).1 (T k).2.1 (T k).2.2.1 ∈ lw_g) (hn : narrow (ty k) v = v) (hfit : fits (ty k) v = true) (hz2 : M'.1 = M.1) (he : ∀ q, q ≠ r → elt g M' q = elt g M q) (hk1 : fv g M' r ci k = v) (hk2 : ∀ j, j ≠ k → fv g M' r ci j = fv g M r ci j) (hN2 : NM M → NM M') (kk : Zt l g φ μ (pc + 3) L st M') : Zt l g φ μ pc L (v :: vR g r :: st) M := z_of fun p e s m args below meth c R a b Q hφ H locs ls C0 hl0 hH hN h1 h2 hS => by
  subst hφ
  have hw := wl_get (g := g) (M := M) h0 hz
  have hat := hH.2 _ _ hw
  rw [elt_obj hr cl.2.2.2.2] at hat
  obtain ⟨cell, cf, kf, fi, f, q1, q2, q3, q4, q5, q6, q7⟩ := at_put (v := v) C0.2.2.2.2.1 C0.2.2.2.1 C0.2.2.2.2.2.1 cl hk (by simpa using hk) hat
  have h6 := st_put C0.2.2.2.2.1 C0.2.2.2.2.2.1 cl hk hfin hn hfit q5
  refine W.putK C0.1 C0.2.1 ⟨C0.2.2.2.1, C0.2.2.2.2.1 _ hl, ⟨_, _, _, q5⟩, q6⟩ (by rw [q2]; exact h6) q1 q3 q4 rfl rfl hd fun H1 e1 e2 e3 => ?_
  have k3 := z_to kk C0 hl0 (WH_store h0 hz hz2 he (by rw [elt_obj hr cl.2.2.2.2, ← flds_set hk1 hk2]) hH (q7 _ e1) e2 e3) (hN2 hN) (by rw [hz2]; exact h1) (by rw [hz2]; exact h2) (hS.put (k := f.slot) e2 e3 (AA_r h0))
  rw [hz2] at k3
  exact k3
theorem z_putN {v : Value} {M' : PW} (hd : decode μ.1 pc = .ok (.putfield index, 3)) (cl : CLf ci C T N ty) (hr : SH r = (ci, N)) (h0 : 0 < r) (hz : r ≤ M.1) (hk : k < N) (hfin : (T k).2.2.2 = false) (hl : Cond.fieldLinkNest μ.2.1 index (T k).1 (T k).2.1 (T k).2.2.1 host ∈ lw_n) (hn : narrow (ty k) v = v) (hfit : fits (ty k) v = true) (hz2 : M'.1 = M.1) (he : ∀ q, q ≠ r → elt g M' q = elt g M q) (hk1 : fv g M' r ci k = v) (hk2 : ∀ j, j ≠ k → fv g M' r ci j = fv g M r ci j) (hN2 : NM M → NM M') (kk : Zt l g φ μ (pc + 3) L st M') : Zt l g φ μ pc L (v :: vR g r :: st) M := z_of fun p e s m args below meth c R a b Q hφ H locs ls C0 hl0 hH hN h1 h2 hS => by
  subst hφ
  have hw := wl_get (g := g) (M := M) h0 hz
  have hat := hH.2 _ _ hw
  rw [elt_obj hr cl.2.2.2.2] at hat
  obtain ⟨cell, cf, kf, fi, f, q1, q2, q3, q4, q5, q6, q7⟩ := at_put (v := v) C0.2.2.2.2.1 C0.2.2.2.1 C0.2.2.2.2.2.1 cl hk (by simpa using hk) hat
  have h6 := st_put C0.2.2.2.2.1 C0.2.2.2.2.2.1 cl hk hfin hn hfit q5
  refine va_WputK C0.1 C0.2.1 (f := f) C0.2.2.2.1 (va_Nw.use rfl (C0.2.2.2.2.2.2.1.2.2.2.2.2.2.2.2.2 _ hl)) q5 q6 (by rw [q2]; exact h6) q1 q3 q4 rfl rfl hd fun H1 e1 e2 e3 => ?_
  have k3 := z_to kk C0 hl0 (WH_store h0 hz hz2 he (by rw [elt_obj hr cl.2.2.2.2, ← flds_set hk1 hk2]) hH (q7 _ e1) e2 e3) (hN2 hN) (by rw [hz2]; exact h1) (by rw [hz2]; exact h2) (hS.put (k := f.slot) e2 e3 (AA_r h0))
  rw [hz2] at k3
  exact k3
/-- a final field in its own constructor -/
theorem z_putF {v : Value} {M' : PW} (hd : decode μ.1 pc = .ok (.putfield index, 3)) (cl : CLf ci C T N ty) (hr : SH r = (ci, N)) (h0 : 0 < r) (hz : r ≤ M.1) (hk : k < N) (hfin : (T k).2.2.2 = true) (hin : μ.2.2.2.2 = "<init>") (hdc : (T k).1 = μ.2.1) (hl : Cond.fieldLink μ.2.1 index (T k).1 (T k).2.1 (T k).2.2.1 ∈ lw_g) (hn : narrow (ty k) v = v) (hfit : fits (ty k) v = true) (hz2 : M'.1 = M.1) (he : ∀ q, q ≠ r → elt g M' q = elt g M q) (hk1 : fv g M' r ci k = v) (hk2 : ∀ j, j ≠ k → fv g M' r ci j = fv g M r ci j) (hN2 : NM M → NM M') (kk : Zt l g φ μ (pc + 3) L st M') : Zt l g φ μ pc L (v :: vR g r :: st) M := z_of fun p e s m args below meth c R a b Q hφ H locs ls C0 hl0 hH hN h1 h2 hS => by
  subst hφ
  have hw := wl_get (g := g) (M := M) h0 hz
  have hat := hH.2 _ _ hw
  rw [elt_obj hr cl.2.2.2.2] at hat
  obtain ⟨cell, cf, kf, fi, f, q1, q2, q3, q4, q5, q6, q7⟩ := at_put (v := v) C0.2.2.2.2.1 C0.2.2.2.1 C0.2.2.2.2.2.1 cl hk (by simpa using hk) hat
  obtain ⟨hSn, hfc, kC, hkC, hkind⟩ := C0.2.2.2.2.2.1.1 ci _ cl.1
  have hlay := C0.2.2.2.2.1 _ (cl.2.1 _ (u_in_lay hk))
  unfold u_lay at hlay
  rw [if_pos hfin] at hlay
  have hcf : m.cls = cf := by
    obtain ⟨_, _, c', _, _, _, -, -, hf', -, -, -, hown2, -⟩ := Cond.laysFinal_spec hlay
    have e1 : c' = cf := by have := q5.symm.trans hf'; simp at this; exact this.1.symm
    rw [hdc] at hown2
    rw [← e1]; exact Option.some.inj (C0.2.2.2.1.symm.trans hown2)
  have h6 := u_fits hfc hkC hkind (Or.inr hlay) q5 (cl.2.2.1 k hk) hn hfit
  refine W.putFinK C0.1 C0.2.1 C0.2.2.2.1 (C0.2.2.2.2.1 _ hl) q5 q6 hcf (C0.2.2.2.2.2.2.2.2.2.1.trans hin) (by rw [q2]; exact h6) q1 q3 q4 rfl rfl hd fun H1 e1 e2 e3 => ?_
  have k3 := z_to kk C0 hl0 (WH_store h0 hz hz2 he (by rw [elt_obj hr cl.2.2.2.2, ← flds_set hk1 hk2]) hH (q7 _ e1) e2 e3) (hN2 hN) (by rw [hz2]; exact h1) (by rw [hz2]; exact h2) (hS.put (k := f.slot) e2 e3 (AA_r h0))
  rw [hz2] at k3
  exact k3
end PUT
end HEAP
