/-! rows that make cells -/
section NEW
variable {l : Launch} {g : GX} {φ : CX} {μ : MU} {pc : Nat} {L : List (Option Value)} {st : List Value} {z : Nat} {I J : MI} {G : Nat → Nat → Nat}
/-- cells beyond z are as new -/
def fresh (z : Nat) (I J : MI) (G : Nat → Nat → Nat) : Prop := ∀ a k, z < a → I a k = 0 ∧ J a k = 0 ∧ G a k = 0
theorem fresh_0 : fresh 0 (fun _ _ => 0) (fun _ _ => 0) (fun _ _ => 0) := fun _ _ _ => ⟨rfl, rfl, rfl⟩
theorem fresh_up {y : Nat} (h : fresh z I J G) (hy : z ≤ y) : fresh y I J G := fun a k ha => h a k (by omega)
theorem fresh_G {r k v : Nat} (h : fresh z I J G) (hr : r ≤ z) : fresh z I J (up2 G r k v) := fun a j ha => ⟨(h a j ha).1, (h a j ha).2.1, by rw [up2_ne (Or.inl (by omega))]; exact (h a j ha).2.2⟩
theorem fresh_I {r k : Nat} {v : Int} (h : fresh z I J G) (hr : r ≤ z) : fresh z (up2 I r k v) J G := fun a j ha => ⟨by rw [up2_ne (Or.inl (by omega))]; exact (h a j ha).1, (h a j ha).2⟩
theorem wl_succ : wl g (z + 1, I, J, G) = wl g (z, I, J, G) ++ [(g.2.2.1 + (z + 1), elt g (z, I, J, G) (z + 1))] := by
  unfold wl
  show (List.range (z + 1)).map _ = (List.range z).map _ ++ _
  rw [List.range_succ, List.map_append]
  rfl
theorem WH_push {H H1 : Heap} (hH : WH g (z, I, J, G) H) (hz : H1.size = H.size + 1) (oq : ∀ q, q < H.size → H1[q]? = H[q]?) (hat : va_at g.1 vwCl (g.2.2.1 + (z + 1), elt g (z, I, J, G) (z + 1)) H1) : WH g (z + 1, I, J, G) H1 := by
  have hs : H.size = g.2.2.1 + 1 + z := hH.1
  refine ⟨by rw [hz, hs]; show _ = g.2.2.1 + 1 + (z + 1); omega, ?_⟩
  rw [wl_succ]
  refine (hH.2.kept (fun k x hx => oq x.1 ((hH.2 k x hx).lt))).app (fun k x hx => ?_)
  have hz : k < 1 := (List.getElem?_eq_some_iff.mp hx).1
  rw [show k = 0 by omega] at hx
  cases hx
  exact hat
theorem SLT_new {ci n : Nat} (h : SH (z + 1) = (ci, n)) (hc : ci < 99) : SLT (z + 1) = SLT z + n := by
  rcases SLT_succ z with e | e
  · rw [e, h]
  · have : SH (z + 1) = (99, 0) := by unfold SH; rw [List.getD_eq_getElem?_getD, List.getElem?_eq_none e]; rfl
    rw [this] at h
    cases h
    omega
theorem fv_new {c k : Nat} (h : fresh z I J G) : fv g (z, I, J, G) (z + 1) c k = if FK c k = true then .null else vI 0 := by
  obtain ⟨h1, -, h3⟩ := h (z + 1) k (by omega)
  unfold fv
  dsimp only
  rw [h1, h3]
  rfl
theorem S_push {H0 H H1 : Heap} {locs : List Loc} (hS : va_S (AA g) H0 H locs) (hz : H1.size = H.size + 1) (oq : ∀ q, q < H.size → H1[q]? = H[q]?) : va_S (AA g) H0 H1 locs := ⟨Nat.le_trans hS.1 (by omega), fun x h1 h2 => (oq x (Nat.lt_of_lt_of_le h1 hS.1)).trans (hS.2.1 x h1 h2), hS.2.2⟩
theorem z_new {ci N index : Nat} {C : String} {T : u_T} {ty : Nat → FieldType} (hd : decode μ.1 pc = .ok (.new index, 3)) (cl : CLf ci C T N ty) (hdf : ∀ j, j < N → defaultValue (ty j) = if FK ci j = true then .null else vI 0) (hl : Cond.classLink μ.2.1 index C ∈ lw_g) (hins : Cond.instantiable C N ∈ lw_g) (hini : Cond.initialized C ∈ lw_g) (hr : SH (z + 1) = (ci, N)) (hb : z + 1 ≤ cb φ) (hf : fresh z I J G) (kk : Zt l g φ μ (pc + 3) L (vR g (z + 1) :: st) (z + 1, I, J, G)) : Zt l g φ μ pc L st (z, I, J, G) := z_of fun p e s m args below meth c R a b Q hφ H locs ls C0 hl0 hH hN h1 h2 hS => by
  subst hφ
  have hts := C0.2.2.2.2.1
  have hKn := C0.2.2.2.2.2.1.1 ci _ cl.1
  have h9 := C0.2.2.2.2.2.2.2.2.2.2
  have hb' : z + 1 ≤ b := hb
  have h1' : a ≤ z := h1
  have hsl := SLT_new hr (by have := cl.2.2.2.2; omega)
  have m1 := SLT_mono h1'
  have m2 := SLT_mono hb'
  have hsz : H.size = g.2.2.1 + (z + 1) := by have : H.size = g.2.2.1 + 1 + z := hH.1; omega
  refine W.newcK C0.1 C0.2.1 C0.2.2.2.1 (hts _ hl) (hts _ hins) (hts _ hini) rfl hd (by show z - a + 1 ≤ _; omega) (by show SLT z - SLT a + N ≤ _; omega) hKn.2.1 hsz fun H1 kC hkC e1 z1 o1 => ?_
  have hat : va_at g.1 vwCl (g.2.2.1 + (z + 1), elt g (z, I, J, G) (z + 1)) H1 := by
    rw [elt_obj hr cl.2.2.2.2]
    refine ⟨_, cl.1, (u_born ty hts cl.2.1 hKn hkC e1 cl.2.2.1).to fun j hj => ?_⟩
    have e := flds_get (g := g) (M := (z, I, J, G)) (r := z + 1) (c := ci) hj
    show _ = List.getD _ _ _
    rw [List.getD_eq_getElem?_getD, e, fv_new hf, hdf j hj]
    rfl
  have k3 := z_to kk C0 hl0 (WH_push hH (by omega) (fun q hq => o1 q (by omega)) hat) hN (by show a ≤ z + 1; omega) hb (S_push hS (by omega) (fun q hq => o1 q (by omega)))
  have ea : z + 1 - a = z - a + 1 := by omega
  have es : SLT (z + 1) - SLT a = SLT z - SLT a + N := by omega
  have k4 : W p l e R s m args below meth c H1 locs (z + 1 - a) (SLT (z + 1) - SLT a) Q (F0 m (pc + 3) ls (vR g (z + 1) :: st)) := k3
  rw [ea, es] at k4
  exact k4
theorem z_newa {kd n : Nat} {ty : FieldType} {atype : ArrayType} {x : Int} (hd : decode μ.1 pc = .ok (.newarray atype, 2)) (hty : newarray.typeOf atype = ty) (htl : (tyl g)[kd]? = some (g.2.1 kd, ty)) (hra : ∀ (U : State) (cA : ClassId), va_RA U cA ty → U.vm.findClass ("[" ++ ty.toString) = some cA) (hx : x = (n : Int)) (hxr : inR x) (harr : Cond.arrayClass ty ∈ lw_g) (hbytes : n * componentBytes ty ≤ 536870912) (hr : SH (z + 1) = (kd + 20, n)) (hk : kd < 40) (hb : z + 1 ≤ cb φ) (hel : ∀ cA : ClassId, g.2.1 kd = cA → elt g (z, I, J, G) (z + 1) = .inl (cA, n, if kd = 3 then .inr (.inl (fun j => Int64.ofInt (J (z + 1) j))) else .inl (fun j => Int32.ofInt (I (z + 1) j)))) (hdv : defaultValue ty = if kd = 3 then vL 0 else vI 0) (hf : fresh z I J G) (kk : Zt l g φ μ (pc + 2) L (vR g (z + 1) :: st) (z + 1, I, J, G)) : Zt l g φ μ pc L (vI x :: st) (z, I, J, G) := z_of fun p e s m args below meth c R a b Q hφ H locs ls C0 hl0 hH hN h1 h2 hS => by
  subst hφ
  subst hty
  have hts := C0.2.2.2.2.1
  have h9 := C0.2.2.2.2.2.2.2.2.2.2
  have hb' : z + 1 ≤ b := hb
  have h1' : a ≤ z := h1
  have hsl := SLT_new hr (by omega)
  have m1 := SLT_mono h1'
  have m2 := SLT_mono hb'
  have hsz : H.size = g.2.2.1 + (z + 1) := by have : H.size = g.2.2.1 + 1 + z := hH.1; omega
  have hxn : (Int32.ofInt x).toNatClampNeg = n := by rw [clamp_ofI hxr, hx]; rfl
  refine va_newaK C0.1 C0.2.1 (hts _ harr) rfl hd rfl (ofI_neg hxr (by omega)) hxn hbytes (by show z - a + 1 ≤ _; omega) (by show SLT z - SLT a + n ≤ _; omega) hsz fun H1 cA e1 z1 o1 hAr hNm => ?_
  have hcA : g.2.1 kd = cA := Option.some.inj ((hra s _ (C0.2.2.2.2.2.1.2 kd _ htl).2).symm.trans hNm)
  have hat : va_at g.1 vwCl (g.2.2.1 + (z + 1), elt g (z, I, J, G) (z + 1)) H1 := by
    rw [hel cA hcA]
    show H1[_]? = some (vp_cell _ _)
    rw [e1, hdv]
    by_cases h3 : kd = 3
    · simp only [if_pos h3]
      rw [vp_cell_l]
      refine congrArg (fun f => some (arrV cA n f)) (funext fun j => ?_)
      rw [(hf (z + 1) j (by omega)).2.1]
      rfl
    · simp only [if_neg h3]
      rw [vp_cell_i]
      refine congrArg (fun f => some (arrV cA n f)) (funext fun j => ?_)
      rw [(hf (z + 1) j (by omega)).1]
      rfl
  have k3 := z_to kk C0 hl0 (WH_push hH (by omega) (fun q hq => o1 q (by omega)) hat) hN (by show a ≤ z + 1; omega) hb (S_push hS (by omega) (fun q hq => o1 q (by omega)))
  have ea : z + 1 - a = z - a + 1 := by omega
  have es : SLT (z + 1) - SLT a = SLT z - SLT a + n := by omega
  have k4 : W p l e R s m args below meth c H1 locs (z + 1 - a) (SLT (z + 1) - SLT a) Q (F0 m (pc + 2) ls (vR g (z + 1) :: st)) := k3
  rw [ea, es] at k4
  exact k4
theorem z_newq {n index : Nat} {x : Int} (hd : decode μ.1 pc = .ok (.anewarray index, 3)) (hx : x = (n : Int)) (hxr : inR x) (hl : Cond.classLink μ.2.1 index "FarewellStones$Bed" ∈ lw_g) (hov : Cond.arrayOver (.object "FarewellStones$Bed") ∈ lw_n) (hbytes : n * 4 ≤ 536870912) (hr : SH (z + 1) = (24, n)) (hb : z + 1 ≤ cb φ) (hf : fresh z I J G) (kk : Zt l g φ μ (pc + 3) L (vR g (z + 1) :: st) (z + 1, I, J, G)) : Zt l g φ μ pc L (vI x :: st) (z, I, J, G) := z_of fun p e s m args below meth c R a b Q hφ H locs ls C0 hl0 hH hN h1 h2 hS => by
  subst hφ
  have hts := C0.2.2.2.2.1
  have h9 := C0.2.2.2.2.2.2.2.2.2.2
  have hb' : z + 1 ≤ b := hb
  have h1' : a ≤ z := h1
  have hsl := SLT_new hr (by omega)
  have m1 := SLT_mono h1'
  have m2 := SLT_mono hb'
  have hsz : H.size = g.2.2.1 + (z + 1) := by have : H.size = g.2.2.1 + 1 + z := hH.1; omega
  have hxn : (Int32.ofInt x).toNatClampNeg = n := by rw [clamp_ofI hxr, hx]; rfl
  subst hxn
  refine W.anew C0.1 C0.2.1 C0.2.2.2.1 (hts _ hl) (va_AO.use (C0.2.2.2.2.2.2.1.2.2.2.2.2.2.2.2.2 _ hov)) rfl hd rfl (ofI_neg hxr (by omega)) hbytes (by show z - a + 1 ≤ _; omega) (by show SLT z - SLT a + _ ≤ _; omega) fun cA kA comp f1 f2 f3 f4 => ?_
  obtain ⟨kA', comp', -, -, -, hNm⟩ := (C0.2.2.2.2.2.1.2 4 _ rfl).2
  have hcA : g.2.1 4 = cA := Option.some.inj (hNm.symm.trans f1)
  generalize hH1 : H.push ({ cls := cA, slots := Array.replicate (Int32.ofInt x).toNatClampNeg .null, vm := .none } : Cell) = H1
  have z1 : H1.size = H.size + 1 := by rw [← hH1, Array.size_push]
  have e1 : H1[H.size]? = some (arrV cA (Int32.ofInt x).toNatClampNeg (fun _ => .null)) := by rw [← hH1, Array.getElem?_push_size, ← arrV_new]
  have o1 : ∀ q : Nat, q < H.size → H1[q]? = H[q]? := fun q hq => by rw [← hH1, Array.getElem?_push, if_neg (Nat.ne_of_lt hq)]
  have hat : va_at g.1 vwCl (g.2.2.1 + (z + 1), elt g (z, I, J, G) (z + 1)) H1 := by
    rw [elt_ref hr (by omega), ← hsz]
    show H1[_]? = some (vp_cell (g.2.1 4) _)
    rw [e1, hcA, vp_cell_q]
    refine congrArg (fun f => some (arrV cA _ f)) (funext fun j => ?_)
    dsimp only
    rw [(hf (z + 1) j (by omega)).2.2]
    rfl
  have k3 := z_to kk C0 hl0 (WH_push hH z1 o1 hat) hN (by show a ≤ z + 1; omega) hb (S_push hS (by omega) o1)
  have ea : z + 1 - a = z - a + 1 := by omega
  have es : SLT (z + 1) - SLT a = SLT z - SLT a + (Int32.ofInt x).toNatClampNeg := by omega
  have k4 : W p l e R s m args below meth c H1 locs (z + 1 - a) (SLT (z + 1) - SLT a) Q (F0 m (pc + 3) ls (vR g (z + 1) :: st)) := k3
  rw [ea, es] at k4
  rw [hsz]
  exact k4
end NEW
