/-! rows that store a new bed, and that make rows of rows -/
section NEW2
variable {l : Launch} {g : GX} {φ : CX} {μ : MU} {pc : Nat} {L : List (Option Value)} {st : List Value} {M : PW} {z : Nat} {I J : MI} {G : Nat → Nat → Nat}
theorem z_aast {r n v : Nat} {i : Int} (hd : decode μ.1 pc = .ok (.aastore, 1)) (hr : SH r = (24, n)) (h0 : 0 < r) (hz : r ≤ M.1) (hi : inR i) (hb : 0 ≤ i ∧ i < (n : Int)) (hv : SH v = (0, 7)) (hv0 : 0 < v) (hvz : v ≤ M.1) (kk : Zt l g φ μ (pc + 1) L st (wR M r i.toNat v)) : Zt l g φ μ pc L (vR g v :: vI i :: vR g r :: st) M := z_of fun p e s m args below meth c R a b Q hφ H locs ls C0 hl0 hH hN h1 h2 hS => by
  subst hφ
  have hin := ix_of hb hi
  have he := wl_get (g := g) (M := M) h0 hz
  rw [elt_ref hr (by omega)] at he
  have hev := wl_get (g := g) (M := M) hv0 hvz
  rw [elt_obj hv (by omega)] at hev
  obtain ⟨r', hr', cellV, g1, g2, g3, -⟩ := hH.2 _ _ hev
  have hcls := (C0.2.2.2.2.2.1.1 0 _ cl0.1).2
  obtain ⟨kA, comp, k1, k2, k3, -⟩ := (C0.2.2.2.2.2.1.2 4 _ rfl).2
  have hcomp : comp = g.1.1 0 := Option.some.inj (k3.symm.trans hcls.1)
  subst hcomp
  obtain ⟨kC, hkC, -⟩ := hcls.2
  have hlt : (Int32.ofInt i).toNatClampNeg < n := Nat.not_le.mp fun q => hin (Or.inr q)
  have h00 : ¬ Int32.ofInt i < 0 := fun q => hin (Or.inl q)
  refine W.aast C0.1 C0.2.1 (hH.2 _ _ he) (fun q h => by cases h) (fun h => by cases h) k1 k2 rfl hkC ⟨h00, by show _ < (arrV _ _ _).slots.size; rw [arrV_size]; exact hlt⟩ g1 (fun q h => by rw [g3] at h; cases h) (by rw [g2]; exact hkC) (by rw [g2]; exact va_assign hcls) rfl rfl hd fun H1 e1 e2 e3 => ?_
  refine z_to kk C0 hl0 (WH_store h0 hz rfl (fun _ hq => elt_wR_off hq) (by rw [elt_ref hr (by omega)]) hH ?_ e2 e3) hN h1 h2 (hS.put e2 e3 (AA_r h0))
  show H1[_]? = some (vp_cell _ _)
  rw [e1, vp_cell_q, vp_cell_q, arrV_store, clamp_ofI hi]
  congr 2
  funext j
  show updV (fun j => va_rf (qR g (M.2.2.2 r j))) i.toNat (vR g v) j = va_rf (qR g (up2 M.2.2.2 r i.toNat v r j))
  unfold updV up2
  by_cases hj : j = i.toNat
  · simp only [hj, if_true, and_self]
    exact (qR_pos hv0).symm
  · simp [hj]
def gM (G : Nat → Nat → Nat) (a n : Nat) : Nat → Nat → Nat := fun x y => if x = a ∧ y < n then a + 1 + y else G x y
theorem fresh_M {n : Nat} (h : fresh z I J G) : fresh (z + 1 + n) I J (gM G (z + 1) n) := fun a k ha => by
  obtain ⟨h1, h2, h3⟩ := h a k (by omega)
  refine ⟨h1, h2, ?_⟩
  unfold gM
  rw [if_neg (fun q => by omega)]
  exact h3
theorem SLT_rows {k : Nat} : ∀ (n z : Nat), (∀ i, i < n → SH (z + 1 + i) = (20, k)) → SLT (z + n) = SLT z + n * k
  | 0, z, _ => by simp
  | n + 1, z, h => by
    have e1 := SLT_rows n z (fun i hi => h i (by omega))
    have hh : SH (z + n + 1) = (20, k) := by
      have := h n (by omega)
      rw [show z + n + 1 = z + 1 + n by omega]
      exact this
    have e2 := SLT_new (z := z + n) (ci := 20) (n := k) hh (by omega)
    rw [show z + (n + 1) = z + n + 1 by omega, e2, e1, Nat.succ_mul]
    omega
theorem outerC_q (c : ClassId) (N h0 : Nat) : ∀ i : Nat, Jvm.Free.Multi.outerC c N h0 i = arrV c N (fun j => va_rf (if j < i then some (h0 + 1 + j) else none))
  | 0 => by
    unfold Jvm.Free.Multi.outerC
    rw [arrV_new]
    refine congrArg (arrV c N) (funext fun j => ?_)
    rw [if_neg (by omega)]
    rfl
  | i + 1 => by
    unfold Jvm.Free.Multi.outerC
    rw [outerC_q c N h0 i, arrV_store]
    refine congrArg (arrV c N) (funext fun j => ?_)
    unfold updV
    by_cases e : j = i
    · subst e
      simp [va_rf]
    · by_cases h : j < i
      · simp [e, h, show j < i + 1 by omega]
      · simp [e, h, show ¬ j < i + 1 by omega]
theorem arrV_ext {c : ClassId} {N : Nat} {f f' : Nat → Value} (h : ∀ i, i < N → f i = f' i) : arrV c N f = arrV c N f' := by
  unfold arrV
  have e : (fun j : Fin N => f j.val) = (fun j : Fin N => f' j.val) := funext fun j => h j.val j.isLt
  rw [e]
theorem z_mna {n k index : Nat} {x y : Int} (hd : decode μ.1 pc = .ok (.multianewarray index 2, 4)) (hx : x = (n : Int)) (hy : y = (k : Int)) (hxr : inR x) (hyr : inR y) (hl : Cond.classLink μ.2.1 index "[[I" ∈ lw_g) (hov : Cond.arrayOver (.array .int) ∈ lw_n) (harr : Cond.arrayClass .int ∈ lw_g) (hb1 : n * 4 ≤ 536870912) (hb2 : k * 4 ≤ 536870912) (hr : SH (z + 1) = (25, n)) (hrows : ∀ i, i < n → SH (z + 1 + 1 + i) = (20, k)) (hb : z + 1 + n ≤ cb φ) (hf : fresh z I J G) (kk : Zt l g φ μ (pc + 4) L (vR g (z + 1) :: st) (z + 1 + n, I, J, gM G (z + 1) n)) : Zt l g φ μ pc L (vI y :: vI x :: st) (z, I, J, G) := z_of fun p e s m args below meth c R a b Q hφ H locs ls C0 hl0 hH hN h1 h2 hS => by
  subst hφ
  have hts := C0.2.2.2.2.1
  have h9 := C0.2.2.2.2.2.2.2.2.2.2
  have hb' : z + 1 + n ≤ b := hb
  have h1' : a ≤ z := h1
  have hsl := SLT_new hr (by omega)
  have hsl2 := SLT_rows n (z + 1) hrows
  have m1 := SLT_mono h1'
  have m2 := SLT_mono hb'
  have hsz : H.size = g.2.2.1 + (z + 1) := by have : H.size = g.2.2.1 + 1 + z := hH.1; omega
  have hxn : (Int32.ofInt x).toNatClampNeg = n := by rw [clamp_ofI hxr, hx]; rfl
  have hyn : (Int32.ofInt y).toNatClampNeg = k := by rw [clamp_ofI hyr, hy]; rfl
  have hcl : (Cond.classLink μ.2.1 index ("[" ++ (FieldType.array .int).toString)).before args s = true := by
    rw [show "[" ++ (FieldType.array .int).toString = "[[I" from by decide +kernel]
    exact hts _ hl
  intro T hT Xs
  obtain ⟨vm₁, cA, comp, -, fA, fC, hO, -, X', step⟩ := Xs.multianewarray2F C0.1 C0.2.2.2.1 hcl (over_moved (Vm.Alike.refl _) (C0.2.2.2.2.2.2.1.2.2.2.2.2.2.2.2.2 _ hov)) (hts _ harr) (g := F0 m pc ls (vI y :: vI x :: st)) rfl (by rw [C0.2.1]; exact hd) rfl (ofI_neg hxr (by omega)) (ofI_neg hyr (by omega)) (by rw [hxn]; exact hb1) (by rw [hyn]; exact hb2) (by rw [hyn]; omega) rfl rfl (by rw [hxn]; show z - a + (1 + n) ≤ _; omega) (by rw [hxn, hyn]; show SLT z - SLT a + (n + n * k) ≤ _; omega)
  rw [hxn, hyn] at X' step
  have hA : g.2.1 5 = cA := Option.some.inj ((show s.vm.findClass ("[" ++ (FieldType.array .int).toString) = some (g.2.1 5) from (C0.2.2.2.2.2.1.2 5 _ rfl).2).symm.trans fA)
  have hC : g.2.1 0 = comp := Option.some.inj ((show s.vm.findClass (FieldType.array .int).toString = some (g.2.1 0) from (C0.2.2.2.2.2.1.2 0 _ rfl).2).symm.trans fC)
  generalize hF : Jvm.Free.Multi.fill (T.setVm vm₁) cA comp n k (defaultValue .int) n = F at X' step
  have hTh : (T.setVm vm₁).heap = H := hT
  obtain ⟨f1, f2, -, -⟩ := Jvm.Free.Multi.fill_facts (T.setVm vm₁) cA comp n k (defaultValue .int) n
  rw [hF, hTh] at f1 f2
  have hold : ∀ x : Nat, x < H.size → F.heap[x]? = H[x]? := fun x hx => by
    have := Jvm.Free.Multi.fill_old (T.setVm vm₁) cA comp n k (defaultValue .int) (a := x) (by rw [hTh]; exact hx) n
    rw [hF, hTh] at this
    exact this
  have hrow : ∀ j : Nat, j < n → F.heap[H.size + 1 + j]? = some (arrV comp k (fun _ => defaultValue .int)) := fun j hj => by
    have := Jvm.Free.Multi.fill_inner (T.setVm vm₁) cA comp n k (defaultValue .int) n j hj
    rw [hF, hTh] at this
    rw [this, ← arrV_new]
    rfl
  rw [outerC_q] at f2
  have hW : WH g (z + 1 + n, I, J, gM G (z + 1) n) F.heap := by
    refine ⟨by rw [f1, hsz]; show _ = g.2.2.1 + 1 + (z + 1 + n); omega, fun j q hq => ?_⟩
    obtain ⟨hj, rfl⟩ := wl_at hq
    have hj : j < z + 1 + n := hj
    by_cases c1 : j < z
    · have e : elt g (z + 1 + n, I, J, gM G (z + 1) n) (j + 1) = elt g (z, I, J, G) (j + 1) := elt_off rfl rfl (by
        funext y
        show gM G (z + 1) n (j + 1) y = G (j + 1) y
        unfold gM
        rw [if_neg (fun q => by omega)])
      rw [e]
      have hw := wl_get (g := g) (M := (z, I, J, G)) (r := j + 1) (by omega) (by show j + 1 ≤ z; omega)
      exact (hH.2 _ _ hw).kept (hold _ (by show g.2.2.1 + (j + 1) < _; omega))
    · by_cases c2 : j = z
      · subst c2
        rw [elt_ref hr (by omega)]
        show F.heap[g.2.2.1 + (j + 1)]? = some (vp_cell (g.2.1 5) _)
        rw [← hsz, f2, hA, vp_cell_q]
        refine congrArg (fun f => some f) (arrV_ext fun i hi => ?_)
        show va_rf (if i < n then some (H.size + 1 + i) else none) = va_rf (qR g (gM G (j + 1) n (j + 1) i))
        have e : gM G (j + 1) n (j + 1) i = j + 1 + 1 + i := if_pos ⟨rfl, hi⟩
        rw [if_pos hi, e]
        unfold qR
        rw [if_neg (by omega), hsz]
        exact congrArg (fun q => va_rf (some q)) (by omega)
      · have hi : j - z - 1 < n := by omega
        have hs := hrows (j - z - 1) hi
        rw [show z + 1 + 1 + (j - z - 1) = j + 1 by omega] at hs
        rw [elt_arr hs (by omega) (by omega)]
        show F.heap[g.2.2.1 + (j + 1)]? = some (vp_cell (g.2.1 0) _)
        have e2 := hrow _ hi
        rw [show H.size + 1 + (j - z - 1) = g.2.2.1 + (j + 1) by omega] at e2
        rw [e2, hC, vp_cell_i]
        refine congrArg (fun f => some (arrV comp k f)) (funext fun i => ?_)
        show _ = Value.int (Int32.ofInt (I (j + 1) i))
        rw [(hf (j + 1) i (by omega)).1]
        rfl
  have k3 := z_to kk C0 hl0 hW hN (by show a ≤ z + 1 + n; omega) hb ⟨by rw [f1]; have := hS.1; omega, fun x h1 h2 => (hold x (Nat.lt_of_lt_of_le h1 hS.1)).trans (hS.2.1 x h1 h2), hS.2.2⟩
  have ea : z + 1 + n - a = z - a + 1 + n := by omega
  have es : SLT (z + 1 + n) - SLT a = SLT z - SLT a + n + n * k := by omega
  have k4 : W p l e R s m args below meth c F.heap locs (z + 1 + n - a) (SLT (z + 1 + n) - SLT a) Q (F0 m (pc + 4) ls (vR g (z + 1) :: st)) := k3
  rw [ea, es] at k4
  obtain ⟨t, a1, b1⟩ := k4 F rfl X'
  refine ⟨t, step t ?_, b1⟩
  have e : T.heap.size = g.2.2.1 + (z + 1) := by rw [hT, hsz]
  rw [e]
  exact a1
end NEW2
