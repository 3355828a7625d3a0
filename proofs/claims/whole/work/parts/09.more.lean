section MORE
variable {l : Launch} {g : GX} {φ : CX} {μ : MU} {pc : Nat} {L : List (Option Value)} {st : List Value} {M : PW}
/-- locals at a method's entry -/
def entL : List Value → List (Option Value)
  | [] => []
  | v :: vs => if v.category = 2 then some v :: none :: entL vs else some v :: entL vs
theorem entL_in : ∀ (vs : List Value) (i0 i : Nat) (v : Value), (entL vs)[i]? = some (some v) → (i0 + i, v) ∈ lv_args i0 vs
  | [], _, i, v, h => by simp [entL] at h
  | w :: vs, i0, i, v, h => by
    unfold lv_args
    by_cases hc : w.category = 2
    · rw [entL, if_pos hc] at h
      rw [if_pos hc]
      match i, h with
      | 0, h => cases h; exact List.mem_cons_self
      | 1, h => cases h
      | i + 2, h =>
        have h2 : (entL vs)[i]? = some (some v) := h
        have := entL_in vs (i0 + 2) i v h2
        rw [show i0 + (i + 2) = i0 + 2 + i by omega]
        exact List.mem_cons_of_mem _ this
    · rw [entL, if_neg hc] at h
      rw [if_neg hc]
      match i, h with
      | 0, h => cases h; exact List.mem_cons_self
      | i + 1, h =>
        have h2 : (entL vs)[i]? = some (some v) := h
        have := entL_in vs (i0 + 1) i v h2
        rw [show i0 + (i + 1) = i0 + 1 + i by omega]
        exact List.mem_cons_of_mem _ this
theorem entL_pad {vs : List Value} {k i : Nat} {v : Value} (h : (entL vs ++ List.replicate k none)[i]? = some (some v)) : (i, v) ∈ lv_args 0 vs := by
  by_cases hi : i < (entL vs).length
  · rw [List.getElem?_append_left hi] at h
    have := entL_in vs 0 i v h
    simpa using this
  · rw [List.getElem?_append_right (by omega), List.getElem?_replicate] at h
    split at h <;> cases h
/-- a contract out of a walk -/
theorem spec_of {d nL n k : Nat} {y : MethodName} {cc : ByteArray} {ret : Option FieldType} {avs : List Value} {r : Option Value} {P : Prop} {M' : PW} {L0 : List (Option Value)} (hμ : μ = (cc, y.cls, nL, d, y.name)) (mw : MW y cc nL ret n) (hlen : Nat.ble (lg_sl avs).length nL = true) (hL : L0 = entL avs ++ List.replicate k none) (hm : M.1 ≤ M'.1)
    (body : ∀ φ : CX, cb φ = M'.1 → ends g φ ret r P M' → Zt l g φ μ 0 L0 [] M) : Spec l g d y cc nL ret avs M r P M' := by
  subst hμ
  subst hL
  refine Met.ofW (cc := cc) (maxL := nL) (ret := ret) mw.2.2.2.2 rfl ?_
  intro p e s m args below meth c s₁ B hml hv
  obtain ⟨rfl, hH, hN, hK, hT⟩ := hv
  have hts := atoms_spec (ws := wsOf y cc nL ret) B.pre
  have hl := lv_entry avs (n := nL) (Nat.le_of_ble_eq_true hlen)
  rw [lg_entry_eq]
  have hsz := hH.1
  have e0 : M.1 - M.1 = 0 := Nat.sub_self _
  have e1 : SLT M.1 - SLT M.1 = 0 := Nat.sub_self _
  have k := z_to (a := M.1) (b := M'.1) (p := p) (e := e) (s := s) (m := m) (args := avs.toArray) (below := below) (meth := meth) (c := c) (R := rm d M.1 M'.1) (Q := MQ below (QD g r P M') avs.toArray s (M'.1 - M.1) (SLT M'.1 - SLT M.1) (AA g)) (locs := []) (H := s.heap) (body _ rfl ⟨rfl, rfl, B.returns⟩) ⟨B.exec, B.bytes, hml, findClass_of_methodNamed B.named, fun w hw => hts w (List.mem_cons_of_mem _ hw), hK, hT, hsz, B.notSynchronized, (name_of_methodNamed B.named B.method).1, Nat.le_refl _, Nat.le_refl _, Nat.le_refl _, Nat.le_refl _⟩ (lok_of hl (fun i v h => entL_pad h)) hH hN (Nat.le_refl _) hm va_S.rf
  rw [e0, e1] at k
  exact k
/-- Object.<init> -/
theorem z_objI {index r : Nat} (hd : decode μ.1 pc = .ok (.invokespecial index, 3)) (hl : Cond.methodLink μ.2.1 index objectInit ∈ lw_g) (hin : Cond.instanceMethod objectInit ∈ lw_g) (hcode : Cond.code objectInit ⟨#[0xb1]⟩ 1 none ∈ lw_g) (hdep : Nat.ble 1 μ.2.2.2.1 = true) (hrs : Nat.ble ((st.map fun v => v.category).sum) 8 = true) (kk : Zt l g φ μ (pc + 3) L st M) : Zt l g φ μ pc L (vR g r :: st) M := z_of fun p e s m args below meth c R a b Q hφ H locs ls C0 hl0 hH hN h1 h2 hS => by
  subst hφ
  have hts := C0.2.2.2.2.1
  have h9 := C0.2.2.2.2.2.2.2.2.2.2
  have hd1 := Nat.le_of_ble_eq_true hdep
  have hr1 := Nat.le_of_ble_eq_true hrs
  exact W.objInit C0.1 C0.2.1 C0.2.2.2.1 (hts _ hl) (hts _ hin) (hts _ hcode) rfl (hl0.1.trans C0.2.2.1.symm) rfl hd (by omega) (by show 2 * 0 + _ + 12 ≤ _; omega) (z_to kk C0 hl0 hH hN h1 h2 hS)
theorem z_gsX {index : Nat} {host : String} (hd : decode μ.1 pc = .ok (.getstatic index, 3)) (hl : Cond.fieldLinkNest μ.2.1 index "FarewellStones" "LEAP_X" "[I" host ∈ lw_n) (kk : Zt l g φ μ (pc + 3) L (.ref (g.2.2.2 0) :: st) M) : Zt l g φ μ pc L st M := z_of fun p e s m args below meth c R a b Q hφ H locs ls C0 hl0 hH hN h1 h2 hS => by
  subst hφ
  exact va_getsN C0.1 C0.2.1 C0.2.2.2.2.2.2.1.1 hS C0.2.2.2.1 (va_Nw.use rfl (C0.2.2.2.2.2.2.1.2.2.2.2.2.2.2.2.2 _ hl)) (fun _ h => h) hd (z_to kk C0 hl0 hH hN h1 h2 hS)
theorem z_gsY {index : Nat} {host : String} (hd : decode μ.1 pc = .ok (.getstatic index, 3)) (hl : Cond.fieldLinkNest μ.2.1 index "FarewellStones" "LEAP_Y" "[I" host ∈ lw_n) (kk : Zt l g φ μ (pc + 3) L (.ref (g.2.2.2 1) :: st) M) : Zt l g φ μ pc L st M := z_of fun p e s m args below meth c R a b Q hφ H locs ls C0 hl0 hH hN h1 h2 hS => by
  subst hφ
  exact va_getsN C0.1 C0.2.1 C0.2.2.2.2.2.2.1.2.1 hS C0.2.2.2.1 (va_Nw.use rfl (C0.2.2.2.2.2.2.1.2.2.2.2.2.2.2.2.2 _ hl)) (fun _ h => h) hd (z_to kk C0 hl0 hH hN h1 h2 hS)
theorem z_ialdX {i : Int} (hd : decode μ.1 pc = .ok (.iaload, 1)) (hi : inR i) (hb : 0 ≤ i ∧ i < ((40 : Nat) : Int)) (kk : Zt l g φ μ (pc + 1) L (vI (LX i.toNat) :: st) M) : Zt l g φ μ pc L (vI i :: .ref (g.2.2.2 0) :: st) M := z_of fun p e s m args below meth c R a b Q hφ H locs ls C0 hl0 hH hN h1 h2 hS => by
  subst hφ
  exact va_ti C0.1 C0.2.1 C0.2.2.2.2.2.2.1.2.2.1 hS (ix_of hb hi) (by rw [clamp_ofI hi]) hd (z_to kk C0 hl0 hH hN h1 h2 hS)
theorem z_ialdY {i : Int} (hd : decode μ.1 pc = .ok (.iaload, 1)) (hi : inR i) (hb : 0 ≤ i ∧ i < ((40 : Nat) : Int)) (kk : Zt l g φ μ (pc + 1) L (vI (LY i.toNat) :: st) M) : Zt l g φ μ pc L (vI i :: .ref (g.2.2.2 1) :: st) M := z_of fun p e s m args below meth c R a b Q hφ H locs ls C0 hl0 hH hN h1 h2 hS => by
  subst hφ
  exact va_ti C0.1 C0.2.1 C0.2.2.2.2.2.2.1.2.2.2.1 hS (ix_of hb hi) (by rw [clamp_ofI hi]) hd (z_to kk C0 hl0 hH hN h1 h2 hS)
theorem z_lenX (hd : decode μ.1 pc = .ok (.arraylength, 1)) (kk : Zt l g φ μ (pc + 1) L (vI 40 :: st) M) : Zt l g φ μ pc L (.ref (g.2.2.2 0) :: st) M := z_of fun p e s m args below meth c R a b Q hφ H locs ls C0 hl0 hH hN h1 h2 hS => by
  subst hφ
  exact va_tlen C0.1 C0.2.1 C0.2.2.2.2.2.2.1.2.2.1 hS (v := Int32.ofInt 40) (by decide +kernel) hd (z_to kk C0 hl0 hH hN h1 h2 hS)
/-- the first n places of the array r are those of r0 -/
def cpA (I : Nat → Nat → Int) (r0 r n : Nat) : Nat → Nat → Int := fun x y => if x = r ∧ y < n then I r0 y else I x y
def wC (M : PW) (r0 r n : Nat) : PW := (M.1, cpA M.2.1 r0 r n, M.2.2.1, M.2.2.2)
theorem NM_wC {r0 r n : Nat} (h : NM M) : NM (wC M r0 r n) := by
  refine ⟨fun a j => ?_, h.2⟩
  show inR (cpA M.2.1 r0 r n a j)
  unfold cpA
  split
  · exact h.1 _ _
  · exact h.1 _ _
theorem ofI_neg {x : Int} (hx : inR x) (h : 0 ≤ x) : ¬ Int32.ofInt x < 0 := by
  rw [ofI_0, ofI_lt hx inR_0]
  omega
theorem z_copy {index r0 r n0 n : Nat} {sz : Int} (hd : decode μ.1 pc = .ok (.invokestatic index, 3)) (hr0 : SH r0 = (20, n0)) (h00 : 0 < r0) (hz0 : r0 ≤ M.1) (hr : SH r = (20, n)) (h0 : 0 < r) (hz : r ≤ M.1) (hsz : inR sz) (hb : 0 ≤ sz ∧ sz ≤ (n0 : Int) ∧ sz ≤ (n : Int)) (hl : Cond.methodLink μ.2.1 index arraycopyName ∈ lw_g) (hnat : Cond.native arraycopyName ∈ lw_g) (hstat : Cond.static arraycopyName ∈ lw_g) (hini : Cond.initialized "java/lang/System" ∈ lw_g) (hdep : Nat.ble 1 μ.2.2.2.1 = true) (hrs : Nat.ble ((st.map fun v => v.category).sum) 8 = true) (kk : Zt l g φ μ (pc + 3) L st (wC M r0 r sz.toNat)) : Zt l g φ μ pc L (vI sz :: vI 0 :: vR g r :: vI 0 :: vR g r0 :: st) M := z_of fun p e s m args below meth c R a b Q hφ H locs ls C0 hl0 hH hN h1 h2 hS => by
  subst hφ
  have hts := C0.2.2.2.2.1
  have h9 := C0.2.2.2.2.2.2.2.2.2.2
  have hd1 := Nat.le_of_ble_eq_true hdep
  have hr1 := Nat.le_of_ble_eq_true hrs
  have hK := C0.2.2.2.2.2.1
  have he := wl_get (g := g) (M := M) h0 hz
  rw [elt_arr hr (by omega) (by omega)] at he
  have he0 := wl_get (g := g) (M := M) h00 hz0
  rw [elt_arr hr0 (by omega) (by omega)] at he0
  have hc0 : H[g.2.2.1 + r0]? = some (vp_cell _ (n0, .inl _)) := hH.2 _ _ he0
  have hc1 : H[g.2.2.1 + r]? = some (vp_cell _ (n, .inl _)) := hH.2 _ _ he
  obtain ⟨-, k0, hk0, cm0, hkk0⟩ := (hK.2 0 _ rfl).1 n0 (fun j => .int (Int32.ofInt (M.2.1 r0 j)))
  obtain ⟨-, k1, hk1, cm1, hkk1⟩ := (hK.2 0 _ rfl).1 n (fun j => .int (Int32.ofInt (M.2.1 r j)))
  have hk0' : s.vm.classes[(vp_cell (g.2.1 (20 - 20)) (n0, .inl (fun j => Int32.ofInt (M.2.1 r0 j)))).cls]? = some k0 := hk0
  have hk1' : s.vm.classes[(vp_cell (g.2.1 (20 - 20)) (n, .inl (fun j => Int32.ofInt (M.2.1 r j)))).cls]? = some k1 := hk1
  have hc := clamp_ofI hsz
  have hz3 : ¬ Int32.ofInt 0 < 0 := ofI_neg inR_0 (by omega)
  have hz4 : (Int32.ofInt 0).toInt = 0 := ofI_toInt inR_0
  have hz5 : (Int32.ofInt sz).toInt = sz := ofI_toInt hsz
  have hz6 : (Int32.ofInt 0).toNatClampNeg = 0 := clamp_ofI inR_0
  intro T hT X
  obtain ⟨vm', X', step⟩ := X.arraycopy C0.1 C0.2.2.2.1 (hts _ hl) (hts _ hnat) (hts _ hstat) (hts _ hini) (src := g.2.2.1 + r0) (dst := g.2.2.1 + r) (cs := vp_cell (g.2.1 (20 - 20)) (n0, .inl (fun j => Int32.ofInt (M.2.1 r0 j)))) (cd := vp_cell (g.2.1 (20 - 20)) (n, .inl (fun j => Int32.ofInt (M.2.1 r j)))) (srcPos := Int32.ofInt 0) (destPos := Int32.ofInt 0) (n := Int32.ofInt sz) (by rw [hT]; exact hc0) (by rw [hT]; exact hc1)
    (fun _ h => by cases h) (fun _ h => by cases h) (fun h => by cases h) (fun h => by cases h) hk0' hk1' hkk0 hkk1 (by simp [refKind]) hz3 hz3 (ofI_neg hsz hb.1)
    (by rw [hz4, hz5]; show ¬ _ > ((arrV _ n0 _).slots.size : Int); rw [arrV_size]; omega)
    (by rw [hz4, hz5]; show ¬ _ > ((arrV _ n _).slots.size : Int); rw [arrV_size]; omega)
    (fun vm₁ _ i hi => by
      have e : (vp_cell (g.2.1 (20 - 20)) (n0, .inl (fun j => Int32.ofInt (M.2.1 r0 j)))).slots.getD ((Int32.ofInt 0).toNatClampNeg + i) .null = .int (Int32.ofInt (M.2.1 r0 i)) := by
        show (arrV _ n0 (fun j => .int (Int32.ofInt (M.2.1 r0 j)))).slots.getD _ _ = _
        rw [Array.getD_eq_getD_getElem?, hz6, Nat.zero_add, arrV_read _ _ (by omega)]
        rfl
      refine ⟨?_, ?_⟩
      · rw [e]; rfl
      · rw [e]; exact trivial)
    (g := F0 m pc ls _) rfl (by rw [hl0.1, C0.2.2.1]) (rest := st) rfl (by rw [C0.2.1]; exact hd) (by omega) (by
      show 2 * 0 + _ + (nativeFrameWords "java/lang/System" "arraycopy" 5 + 11) ≤ _
      have : nativeFrameWords "java/lang/System" "arraycopy" 5 ≤ 41 := by decide +kernel
      omega)
  have e1 : copied (vp_cell (g.2.1 (20 - 20)) (n0, .inl (fun j => Int32.ofInt (M.2.1 r0 j)))) (vp_cell (g.2.1 (20 - 20)) (n, .inl (fun j => Int32.ofInt (M.2.1 r j)))) (Int32.ofInt 0) (Int32.ofInt 0) (Int32.ofInt sz) = vp_cell (g.2.1 (20 - 20)) (n, .inl (fun j => Int32.ofInt ((wC M r0 r sz.toNat).2.1 r j))) := by
    refine (va_copied (fun z => Value.int z) (g.2.1 (20 - 20)) (g.2.1 (20 - 20)) (sp := (Int32.ofInt 0).toNatClampNeg) (dp := (Int32.ofInt 0).toNatClampNeg) (n := (Int32.ofInt sz).toNatClampNeg) (n0 := n0) (n1 := n) (fun j => Int32.ofInt (M.2.1 r0 j)) (fun j => Int32.ofInt (M.2.1 r j)) (by rw [hz6, hc]; omega)).trans ?_
    rw [hz6, hc, vp_cell_i]
    congr 1
    funext j
    show Value.int (va_cpy _ _ 0 0 sz.toNat j) = Value.int (Int32.ofInt (cpA M.2.1 r0 r sz.toNat r j))
    unfold va_cpy cpA
    by_cases hj : j < sz.toNat
    · simp [hj]
    · simp [hj]
  rw [e1] at X' step
  have hl : g.2.2.1 + r < H.size := (Array.getElem?_eq_some_iff.mp hc1).1
  have hheap : ((T.setVm vm').setCell (g.2.2.1 + r) (vp_cell (g.2.1 (20 - 20)) (n, .inl (fun j => Int32.ofInt ((wC M r0 r sz.toNat).2.1 r j))))).heap = H.setIfInBounds (g.2.2.1 + r) (vp_cell (g.2.1 (20 - 20)) (n, .inl (fun j => Int32.ofInt ((wC M r0 r sz.toNat).2.1 r j)))) := by rw [← hT]; rfl
  have oq : ∀ q : Nat, q ≠ g.2.2.1 + r → (H.setIfInBounds (g.2.2.1 + r) (vp_cell (g.2.1 (20 - 20)) (n, .inl (fun j => Int32.ofInt ((wC M r0 r sz.toNat).2.1 r j)))))[q]? = H[q]? := fun q hq => by simp [Array.getElem?_setIfInBounds, Ne.symm hq]
  have hoff : ∀ q, q ≠ r → elt g (wC M r0 r sz.toNat) q = elt g M q := fun q hq => elt_off (by
    funext y
    show cpA M.2.1 r0 r sz.toNat q y = _
    unfold cpA
    rw [if_neg (fun z => hq z.1)]) rfl rfl
  have hat : va_at g.1 vwCl (g.2.2.1 + r, .inl (g.2.1 (20 - 20), n, .inl (fun j => Int32.ofInt ((wC M r0 r sz.toNat).2.1 r j)))) (H.setIfInBounds (g.2.2.1 + r) (vp_cell (g.2.1 (20 - 20)) (n, .inl (fun j => Int32.ofInt ((wC M r0 r sz.toNat).2.1 r j))))) := by
    show (H.setIfInBounds _ _)[_]? = some (vp_cell _ _)
    simp [Array.getElem?_setIfInBounds, hl]
  obtain ⟨t, a1, b1⟩ := z_to kk C0 hl0 (WH_store h0 hz rfl hoff (by rw [elt_arr hr (by omega) (by omega)]) hH hat (by simp) oq) (NM_wC hN) h1 h2 ⟨by simp; exact hS.1, fun q g1 g2 => by
      rw [oq q (fun e => g2 (by rw [e]; exact AA_r h0))]
      exact hS.2.1 q g1 g2, fun q hq => by
      rcases List.mem_append.mp hq with h | h
      · exact hS.2.2 q h
      · obtain ⟨z, -, hz⟩ := List.mem_map.mp h
        rw [← hz]
        exact AA_r h0⟩ _ hheap X'
  exact ⟨t, step t a1, b1⟩
end MORE
