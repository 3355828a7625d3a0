section HEAP2
variable {l : Launch} {g : GX} {φ : CX} {μ : MU} {pc : Nat} {L : List (Option Value)} {st : List Value} {M : PW}
section P
variable {ci N index r k : Nat} {C host : String} {T : u_T} {ty : Nat → FieldType}
theorem z_getI (hd : decode μ.1 pc = .ok (.getfield index, 3)) (cl : CLf ci C T N ty) (hr : SH r = (ci, N)) (h0 : 0 < r) (hz : r ≤ M.1) (hk : Nat.ble (k + 1) N = true) (hf : FK ci k = false) (hl : Cond.fieldLink μ.2.1 index (T k).1 (T k).2.1 (T k).2.2.1 ∈ lw_g) (kk : Zt l g φ μ (pc + 3) L (vI (M.2.1 r k) :: st) M) : Zt l g φ μ pc L (vR g r :: st) M :=
  z_get hd cl hr h0 hz (Nat.le_of_ble_eq_true hk) hl (fv_I hf) kk
theorem z_getNI (hd : decode μ.1 pc = .ok (.getfield index, 3)) (cl : CLf ci C T N ty) (hr : SH r = (ci, N)) (h0 : 0 < r) (hz : r ≤ M.1) (hk : Nat.ble (k + 1) N = true) (hf : FK ci k = false) (hl : Cond.fieldLinkNest μ.2.1 index (T k).1 (T k).2.1 (T k).2.2.1 host ∈ lw_n) (kk : Zt l g φ μ (pc + 3) L (vI (M.2.1 r k) :: st) M) : Zt l g φ μ pc L (vR g r :: st) M :=
  z_getN hd cl hr h0 hz (Nat.le_of_ble_eq_true hk) hl (fv_I hf) kk
theorem z_getR {v : Nat} (hd : decode μ.1 pc = .ok (.getfield index, 3)) (cl : CLf ci C T N ty) (hr : SH r = (ci, N)) (h0 : 0 < r) (hz : r ≤ M.1) (hk : Nat.ble (k + 1) N = true) (hf : FK ci k = true) (hl : Cond.fieldLink μ.2.1 index (T k).1 (T k).2.1 (T k).2.2.1 ∈ lw_g) (hv : M.2.2.2 r k = v) (hv0 : 0 < v) (kk : Zt l g φ μ (pc + 3) L (vR g v :: st) M) : Zt l g φ μ pc L (vR g r :: st) M :=
  z_get hd cl hr h0 hz (Nat.le_of_ble_eq_true hk) hl (fv_R hf hv hv0) kk
theorem z_getNR {v : Nat} (hd : decode μ.1 pc = .ok (.getfield index, 3)) (cl : CLf ci C T N ty) (hr : SH r = (ci, N)) (h0 : 0 < r) (hz : r ≤ M.1) (hk : Nat.ble (k + 1) N = true) (hf : FK ci k = true) (hl : Cond.fieldLinkNest μ.2.1 index (T k).1 (T k).2.1 (T k).2.2.1 host ∈ lw_n) (hv : M.2.2.2 r k = v) (hv0 : 0 < v) (kk : Zt l g φ μ (pc + 3) L (vR g v :: st) M) : Zt l g φ μ pc L (vR g r :: st) M :=
  z_getN hd cl hr h0 hz (Nat.le_of_ble_eq_true hk) hl (fv_R hf hv hv0) kk
theorem z_putI {v : Int} (hd : decode μ.1 pc = .ok (.putfield index, 3)) (cl : CLf ci C T N ty) (hr : SH r = (ci, N)) (h0 : 0 < r) (hz : r ≤ M.1) (hk : Nat.ble (k + 1) N = true) (hf : FK ci k = false) (hfin : (T k).2.2.2 = false) (hl : Cond.fieldLink μ.2.1 index (T k).1 (T k).2.1 (T k).2.2.1 ∈ lw_g) (hn : narrow (ty k) (vI v) = vI v) (hfit : fits (ty k) (vI v) = true) (hv : inR v) (kk : Zt l g φ μ (pc + 3) L st (wI M r k v)) : Zt l g φ μ pc L (vI v :: vR g r :: st) M :=
  z_put (M' := wI M r k v) hd cl hr h0 hz (Nat.le_of_ble_eq_true hk) hfin hl hn hfit rfl (fun _ hq => elt_wI_off hq) (fv_wI_eq hf) (fun _ hj => fv_wI_ne hj) (fun h => NM_wI h hv) kk
theorem z_putNI {v : Int} (hd : decode μ.1 pc = .ok (.putfield index, 3)) (cl : CLf ci C T N ty) (hr : SH r = (ci, N)) (h0 : 0 < r) (hz : r ≤ M.1) (hk : Nat.ble (k + 1) N = true) (hf : FK ci k = false) (hfin : (T k).2.2.2 = false) (hl : Cond.fieldLinkNest μ.2.1 index (T k).1 (T k).2.1 (T k).2.2.1 host ∈ lw_n) (hn : narrow (ty k) (vI v) = vI v) (hfit : fits (ty k) (vI v) = true) (hv : inR v) (kk : Zt l g φ μ (pc + 3) L st (wI M r k v)) : Zt l g φ μ pc L (vI v :: vR g r :: st) M :=
  z_putN (M' := wI M r k v) hd cl hr h0 hz (Nat.le_of_ble_eq_true hk) hfin hl hn hfit rfl (fun _ hq => elt_wI_off hq) (fv_wI_eq hf) (fun _ hj => fv_wI_ne hj) (fun h => NM_wI h hv) kk
theorem z_putR {v : Nat} (hd : decode μ.1 pc = .ok (.putfield index, 3)) (cl : CLf ci C T N ty) (hr : SH r = (ci, N)) (h0 : 0 < r) (hz : r ≤ M.1) (hk : Nat.ble (k + 1) N = true) (hf : FK ci k = true) (hfin : (T k).2.2.2 = false) (hl : Cond.fieldLink μ.2.1 index (T k).1 (T k).2.1 (T k).2.2.1 ∈ lw_g) (hn : narrow (ty k) (vR g v) = vR g v) (hfit : fits (ty k) (vR g v) = true) (hv : 0 < v) (kk : Zt l g φ μ (pc + 3) L st (wR M r k v)) : Zt l g φ μ pc L (vR g v :: vR g r :: st) M :=
  z_put (M' := wR M r k v) hd cl hr h0 hz (Nat.le_of_ble_eq_true hk) hfin hl hn hfit rfl (fun _ hq => elt_wR_off hq) (fv_wR_eq hf hv) (fun _ hj => fv_wR_ne hj) (fun h => h) kk
theorem z_putFR {v : Nat} (hd : decode μ.1 pc = .ok (.putfield index, 3)) (cl : CLf ci C T N ty) (hr : SH r = (ci, N)) (h0 : 0 < r) (hz : r ≤ M.1) (hk : Nat.ble (k + 1) N = true) (hf : FK ci k = true) (hfin : (T k).2.2.2 = true) (hin : μ.2.2.2.2 = "<init>") (hdc : (T k).1 = μ.2.1) (hl : Cond.fieldLink μ.2.1 index (T k).1 (T k).2.1 (T k).2.2.1 ∈ lw_g) (hn : narrow (ty k) (vR g v) = vR g v) (hfit : fits (ty k) (vR g v) = true) (hv : 0 < v) (kk : Zt l g φ μ (pc + 3) L st (wR M r k v)) : Zt l g φ μ pc L (vR g v :: vR g r :: st) M :=
  z_putF (M' := wR M r k v) hd cl hr h0 hz (Nat.le_of_ble_eq_true hk) hfin hin hdc hl hn hfit rfl (fun _ hq => elt_wR_off hq) (fv_wR_eq hf hv) (fun _ hj => fv_wR_ne hj) (fun h => h) kk
end P
section AR
variable {r n : Nat}
theorem ix_of {i : Int} {n : Nat} (h : 0 ≤ i ∧ i < (n : Int)) (hi : inR i) : vp_in (Int32.ofInt i) n := vp_in_ofI hi h.1 h.2
theorem z_iald {i : Int} (hd : decode μ.1 pc = .ok (.iaload, 1)) (hr : SH r = (20, n)) (h0 : 0 < r) (hz : r ≤ M.1) (hi : inR i) (hb : 0 ≤ i ∧ i < (n : Int)) (kk : Zt l g φ μ (pc + 1) L (vI (M.2.1 r i.toNat) :: st) M) : Zt l g φ μ pc L (vI i :: vR g r :: st) M := z_of fun p e s m args below meth c R a b Q hφ H locs ls C0 hl0 hH hN h1 h2 hS => by
  subst hφ
  have he := wl_get (g := g) (M := M) h0 hz
  rw [elt_arr hr (by omega) (by omega)] at he
  refine va_iald C0.1 C0.2.1 C0.2.2.2.2.2.1 hH.2 (r - 1) 0 he rfl (ix_of hb hi) hd ?_
  rw [clamp_ofI hi]
  exact z_to kk C0 hl0 hH hN h1 h2 hS
theorem z_bald {i : Int} (hd : decode μ.1 pc = .ok (.baload, 1)) (hr : SH r = (21, n)) (h0 : 0 < r) (hz : r ≤ M.1) (hi : inR i) (hb : 0 ≤ i ∧ i < (n : Int)) (kk : Zt l g φ μ (pc + 1) L (vI (M.2.1 r i.toNat) :: st) M) : Zt l g φ μ pc L (vI i :: vR g r :: st) M := z_of fun p e s m args below meth c R a b Q hφ H locs ls C0 hl0 hH hN h1 h2 hS => by
  subst hφ
  have he := wl_get (g := g) (M := M) h0 hz
  rw [elt_arr hr (by omega) (by omega)] at he
  refine va_bald C0.1 C0.2.1 C0.2.2.2.2.2.1 hH.2 (r - 1) 1 he rfl (ix_of hb hi) hd ?_
  rw [clamp_ofI hi]
  exact z_to kk C0 hl0 hH hN h1 h2 hS
theorem z_zald {i : Int} (hd : decode μ.1 pc = .ok (.baload, 1)) (hr : SH r = (22, n)) (h0 : 0 < r) (hz : r ≤ M.1) (hi : inR i) (hb : 0 ≤ i ∧ i < (n : Int)) (kk : Zt l g φ μ (pc + 1) L (vI (M.2.1 r i.toNat) :: st) M) : Zt l g φ μ pc L (vI i :: vR g r :: st) M := z_of fun p e s m args below meth c R a b Q hφ H locs ls C0 hl0 hH hN h1 h2 hS => by
  subst hφ
  have he := wl_get (g := g) (M := M) h0 hz
  rw [elt_arr hr (by omega) (by omega)] at he
  refine va_zald C0.1 C0.2.1 C0.2.2.2.2.2.1 hH.2 (r - 1) 2 he rfl (ix_of hb hi) hd ?_
  rw [clamp_ofI hi]
  exact z_to kk C0 hl0 hH hN h1 h2 hS
theorem z_lald {i : Int} (hd : decode μ.1 pc = .ok (.laload, 1)) (hr : SH r = (23, n)) (h0 : 0 < r) (hz : r ≤ M.1) (hi : inR i) (hb : 0 ≤ i ∧ i < (n : Int)) (kk : Zt l g φ μ (pc + 1) L (vL (M.2.2.1 r i.toNat) :: st) M) : Zt l g φ μ pc L (vI i :: vR g r :: st) M := z_of fun p e s m args below meth c R a b Q hφ H locs ls C0 hl0 hH hN h1 h2 hS => by
  subst hφ
  have he := wl_get (g := g) (M := M) h0 hz
  rw [elt_lng hr] at he
  refine va_lald C0.1 C0.2.1 C0.2.2.2.2.2.1 hH.2 (r - 1) 3 he rfl (ix_of hb hi) hd ?_
  rw [clamp_ofI hi]
  exact z_to kk C0 hl0 hH hN h1 h2 hS
theorem z_aald {i : Int} {v : Nat} (hd : decode μ.1 pc = .ok (.aaload, 1)) (hr : SH r = (24, n)) (h0 : 0 < r) (hz : r ≤ M.1) (hi : inR i) (hb : 0 ≤ i ∧ i < (n : Int)) (hv : M.2.2.2 r i.toNat = v) (hv0 : 0 < v) (kk : Zt l g φ μ (pc + 1) L (vR g v :: st) M) : Zt l g φ μ pc L (vI i :: vR g r :: st) M := z_of fun p e s m args below meth c R a b Q hφ H locs ls C0 hl0 hH hN h1 h2 hS => by
  subst hφ
  have he := wl_get (g := g) (M := M) h0 hz
  rw [elt_ref hr (by omega)] at he
  refine va_aldq C0.1 C0.2.1 C0.2.2.2.2.2.1 hH.2 (r - 1) 4 he rfl (ix_of hb hi) hd ?_
  rw [clamp_ofI hi, hv, qR_pos hv0]
  exact z_to kk C0 hl0 hH hN h1 h2 hS
/-- a row of int[][] -/
theorem z_aald2 {i : Int} {v : Nat} (hd : decode μ.1 pc = .ok (.aaload, 1)) (hr : SH r = (25, n)) (h0 : 0 < r) (hz : r ≤ M.1) (hi : inR i) (hb : 0 ≤ i ∧ i < (n : Int)) (hv : M.2.2.2 r i.toNat = v) (hv0 : 0 < v) (kk : Zt l g φ μ (pc + 1) L (vR g v :: st) M) : Zt l g φ μ pc L (vI i :: vR g r :: st) M := z_of fun p e s m args below meth c R a b Q hφ H locs ls C0 hl0 hH hN h1 h2 hS => by
  subst hφ
  have he := wl_get (g := g) (M := M) h0 hz
  rw [elt_ref hr (by omega)] at he
  have hin := ix_of hb hi
  have hlt : (Int32.ofInt i).toNatClampNeg < n := Nat.not_le.mp fun q => hin (Or.inr q)
  refine W.aald (v := va_rf (qR g (M.2.2.2 r (Int32.ofInt i).toNatClampNeg))) (ty := .array .int) C0.1 C0.2.1 (hH.2 (r - 1) _ he) ((C0.2.2.2.2.2.1.2 5 _ rfl).1 n (fun j => va_rf (qR g (M.2.2.2 r j)))) rfl (fun q => by cases q) (by show ¬ (_ ∨ (arrV _ _ _).slots.size ≤ _); rw [arrV_size]; exact hin) (by show (arrV _ _ _).slots[_]? = _; rw [arrV_read _ _ hlt]) rfl rfl hd ?_
  rw [clamp_ofI hi, hv, qR_pos hv0]
  exact z_to kk C0 hl0 hH hN h1 h2 hS
theorem z_alen (hd : decode μ.1 pc = .ok (.arraylength, 1)) (hr : SH r = (20, n)) (h0 : 0 < r) (hz : r ≤ M.1) (kk : Zt l g φ μ (pc + 1) L (vI n :: st) M) : Zt l g φ μ pc L (vR g r :: st) M := z_of fun p e s m args below meth c R a b Q hφ H locs ls C0 hl0 hH hN h1 h2 hS => by
  subst hφ
  have he := wl_get (g := g) (M := M) h0 hz
  rw [elt_arr hr (by omega) (by omega)] at he
  exact va_alen C0.1 C0.2.1 C0.2.2.2.2.2.1 hH.2 (r - 1) 0 he rfl (v := Int32.ofInt n) (Int32.ofInt_eq_ofNat).symm hd (z_to kk C0 hl0 hH hN h1 h2 hS)
/-- what a store makes of an array of ints (bytes, booleans) -/
theorem at_ist {ci : Nat} {i v : Int} {H1 : Heap} {cA : ClassId} {f : Nat → Int32} (hi : inR i) (e : H1[g.2.2.1 + r]? = some ((vp_cell cA (n, .inl f)).setSlot (Int32.ofInt i).toNatClampNeg (vI v))) (hf : ∀ j, f j = Int32.ofInt (M.2.1 r j)) : va_at g.1 vwCl (g.2.2.1 + r, .inl (cA, n, .inl (fun j => Int32.ofInt ((wI M r i.toNat v).2.1 r j)))) H1 := by
  show H1[_]? = some (vp_cell _ _)
  rw [e, vp_cell_i, vp_cell_i, arrV_store, clamp_ofI hi]
  congr 2
  funext j
  show updV (fun j => Value.int (f j)) i.toNat (vI v) j = .int (Int32.ofInt (up2 M.2.1 r i.toNat v r j))
  unfold updV up2
  by_cases hj : j = i.toNat
  · simp [hj, vI]
  · simp [hj, hf]
theorem z_iast {i v : Int} (hd : decode μ.1 pc = .ok (.iastore, 1)) (hr : SH r = (20, n)) (h0 : 0 < r) (hz : r ≤ M.1) (hi : inR i) (hb : 0 ≤ i ∧ i < (n : Int)) (hv : inR v) (kk : Zt l g φ μ (pc + 1) L st (wI M r i.toNat v)) : Zt l g φ μ pc L (vI v :: vI i :: vR g r :: st) M := z_of fun p e s m args below meth c R a b Q hφ H locs ls C0 hl0 hH hN h1 h2 hS => by
  subst hφ
  have hin := ix_of hb hi
  have he := wl_get (g := g) (M := M) h0 hz
  rw [elt_arr hr (by omega) (by omega)] at he
  refine W.iast C0.1 C0.2.1 (hH.2 _ _ he) ((C0.2.2.2.2.2.1.2 0 _ rfl).1 n (fun j => .int (Int32.ofInt (M.2.1 r j)))) (fun q => by cases q) (by show ¬ (_ ∨ (arrV _ _ _).slots.size ≤ _); rw [arrV_size]; exact hin) rfl rfl hd fun H1 e1 e2 e3 => ?_
  exact z_to kk C0 hl0 (WH_store h0 hz rfl (fun _ hq => elt_wI_off hq) (by rw [elt_arr hr (by omega) (by omega)]) hH (at_ist (ci := 0) hi e1 (fun _ => rfl)) e2 e3) (NM_wI hN hv) h1 h2 (hS.put e2 e3 (AA_r h0))
theorem narB (v : Int) : narrow .byte (.int (Int32.ofInt v)) = vI (b8 v) := by
  unfold b8
  rw [vI_toInt]
  rfl
theorem z_bast {i v : Int} (hd : decode μ.1 pc = .ok (.bastore, 1)) (hr : SH r = (21, n)) (h0 : 0 < r) (hz : r ≤ M.1) (hi : inR i) (hb : 0 ≤ i ∧ i < (n : Int)) (kk : Zt l g φ μ (pc + 1) L st (wI M r i.toNat (b8 v))) : Zt l g φ μ pc L (vI v :: vI i :: vR g r :: st) M := z_of fun p e s m args below meth c R a b Q hφ H locs ls C0 hl0 hH hN h1 h2 hS => by
  subst hφ
  have hin := ix_of hb hi
  have he := wl_get (g := g) (M := M) h0 hz
  rw [elt_arr hr (by omega) (by omega)] at he
  refine W.bast C0.1 C0.2.1 (hH.2 _ _ he) ((C0.2.2.2.2.2.1.2 1 _ rfl).1 n (fun j => .int (Int32.ofInt (M.2.1 r j)))) (fun q => by cases q) (by show ¬ (_ ∨ (arrV _ _ _).slots.size ≤ _); rw [arrV_size]; exact hin) rfl rfl hd fun H1 e1 e2 e3 => ?_
  rw [narB] at e1
  exact z_to kk C0 hl0 (WH_store h0 hz rfl (fun _ hq => elt_wI_off hq) (by rw [elt_arr hr (by omega) (by omega)]) hH (at_ist (ci := 0) hi e1 (fun _ => rfl)) e2 e3) (NM_wI hN (inR_toInt _)) h1 h2 (hS.put e2 e3 (AA_r h0))
theorem z_zast {i v : Int} (hd : decode μ.1 pc = .ok (.bastore, 1)) (hr : SH r = (22, n)) (h0 : 0 < r) (hz : r ≤ M.1) (hi : inR i) (hb : 0 ≤ i ∧ i < (n : Int)) (hv : v = 0 ∨ v = 1) (kk : Zt l g φ μ (pc + 1) L st (wI M r i.toNat v)) : Zt l g φ μ pc L (vI v :: vI i :: vR g r :: st) M := z_of fun p e s m args below meth c R a b Q hφ H locs ls C0 hl0 hH hN h1 h2 hS => by
  subst hφ
  have hin := ix_of hb hi
  have he := wl_get (g := g) (M := M) h0 hz
  rw [elt_arr hr (by omega) (by omega)] at he
  refine W.zast C0.1 C0.2.1 (hH.2 _ _ he) ((C0.2.2.2.2.2.1.2 2 _ rfl).1 n (fun j => .int (Int32.ofInt (M.2.1 r j)))) (fun q => by cases q) (by show ¬ (_ ∨ (arrV _ _ _).slots.size ≤ _); rw [arrV_size]; exact hin) rfl rfl hd fun H1 e1 e2 e3 => ?_
  rw [show narrow .boolean (.int (Int32.ofInt v)) = vI v from nb_of hv] at e1
  exact z_to kk C0 hl0 (WH_store h0 hz rfl (fun _ hq => elt_wI_off hq) (by rw [elt_arr hr (by omega) (by omega)]) hH (at_ist (ci := 0) hi e1 (fun _ => rfl)) e2 e3) (NM_wI hN (inR_bool hv)) h1 h2 (hS.put e2 e3 (AA_r h0))
theorem z_last {i v : Int} (hd : decode μ.1 pc = .ok (.lastore, 1)) (hr : SH r = (23, n)) (h0 : 0 < r) (hz : r ≤ M.1) (hi : inR i) (hb : 0 ≤ i ∧ i < (n : Int)) (hv : inL v) (kk : Zt l g φ μ (pc + 1) L st (wL M r i.toNat v)) : Zt l g φ μ pc L (vL v :: vI i :: vR g r :: st) M := z_of fun p e s m args below meth c R a b Q hφ H locs ls C0 hl0 hH hN h1 h2 hS => by
  subst hφ
  have hin := ix_of hb hi
  have he := wl_get (g := g) (M := M) h0 hz
  rw [elt_lng hr] at he
  refine W.last C0.1 C0.2.1 (hH.2 _ _ he) ((C0.2.2.2.2.2.1.2 3 _ rfl).1 n (fun j => .long (Int64.ofInt (M.2.2.1 r j)))) (fun q => by cases q) (by show ¬ (_ ∨ (arrV _ _ _).slots.size ≤ _); rw [arrV_size]; exact hin) rfl rfl hd fun H1 e1 e2 e3 => ?_
  refine z_to kk C0 hl0 (WH_store h0 hz rfl (fun _ hq => elt_wL_off hq) (by rw [elt_lng hr]) hH ?_ e2 e3) (NM_wL hN hv) h1 h2 (hS.put e2 e3 (AA_r h0))
  show H1[_]? = some (vp_cell _ _)
  rw [e1, vp_cell_l, vp_cell_l, arrV_store, clamp_ofI hi]
  congr 2
  funext j
  show updV (fun j => Value.long (Int64.ofInt (M.2.2.1 r j))) i.toNat (vL v) j = .long (Int64.ofInt (up2 M.2.2.1 r i.toNat v r j))
  unfold updV up2
  by_cases hj : j = i.toNat
  · simp [hj, vL]
  · simp [hj]
end AR
section RET
variable {ret : Option FieldType} {P : Prop}
/-- a method's end -/
theorem z_iret {x : Int} {M' : PW} (hd : decode μ.1 pc = .ok (.ireturn, 1)) (hE : ends g φ (some .int) (some (vI x)) P M') (hP : P) (hM : M = M') : Zt l g φ μ pc L [vI x] M := z_of fun p e s m args below meth c R a b Q hφ H locs ls C0 hl0 hH hN h1 h2 hS => by
  subst hφ
  subst hM
  obtain ⟨hQ, hb, hr⟩ := hE
  subst hQ
  exact W.iret C0.1 C0.2.1 hr (fun t ht hW => ⟨⟨rfl, hP, by rw [ht]; exact hH, hN, va_K.moved hW.alike C0.2.2.2.2.2.1, C0.2.2.2.2.2.2.1.on hW (fun a h9 h8 => by rw [ht]; exact hS.2.1 a h9 h8)⟩, hS.F ht⟩) hS.2.2 hd C0.2.2.2.2.2.2.2.2.1
theorem z_zret {x : Int} {M' : PW} (hd : decode μ.1 pc = .ok (.ireturn, 1)) (hE : ends g φ (some .boolean) (some (vI x)) P M') (hx : x = 0 ∨ x = 1) (hP : P) (hM : M = M') : Zt l g φ μ pc L [vI x] M := z_of fun p e s m args below meth c R a b Q hφ H locs ls C0 hl0 hH hN h1 h2 hS => by
  subst hφ
  subst hM
  obtain ⟨hQ, hb, hr⟩ := hE
  subst hQ
  exact W.zret C0.1 C0.2.1 hr (nb_of hx) (fun t ht hW => ⟨⟨rfl, hP, by rw [ht]; exact hH, hN, va_K.moved hW.alike C0.2.2.2.2.2.1, C0.2.2.2.2.2.2.1.on hW (fun a h9 h8 => by rw [ht]; exact hS.2.1 a h9 h8)⟩, hS.F ht⟩) hS.2.2 hd C0.2.2.2.2.2.2.2.2.1
theorem z_lret {x : Int} {M' : PW} (hd : decode μ.1 pc = .ok (.lreturn, 1)) (hE : ends g φ (some .long) (some (vL x)) P M') (hP : P) (hM : M = M') : Zt l g φ μ pc L [vL x] M := z_of fun p e s m args below meth c R a b Q hφ H locs ls C0 hl0 hH hN h1 h2 hS => by
  subst hφ
  subst hM
  obtain ⟨hQ, hb, hr⟩ := hE
  subst hQ
  exact W.lret C0.1 C0.2.1 hr (fun t ht hW => ⟨⟨rfl, hP, by rw [ht]; exact hH, hN, va_K.moved hW.alike C0.2.2.2.2.2.1, C0.2.2.2.2.2.2.1.on hW (fun a h9 h8 => by rw [ht]; exact hS.2.1 a h9 h8)⟩, hS.F ht⟩) hS.2.2 hd C0.2.2.2.2.2.2.2.2.1
theorem z_vret {M' : PW} (hd : decode μ.1 pc = .ok (.return_, 1)) (hE : ends g φ none none P M') (hP : P) (hM : M = M') : Zt l g φ μ pc L [] M := z_of fun p e s m args below meth c R a b Q hφ H locs ls C0 hl0 hH hN h1 h2 hS => by
  subst hφ
  subst hM
  obtain ⟨hQ, hb, hr⟩ := hE
  subst hQ
  exact W.vret C0.1 C0.2.1 hr (fun t ht hW => ⟨⟨rfl, hP, by rw [ht]; exact hH, hN, va_K.moved hW.alike C0.2.2.2.2.2.1, C0.2.2.2.2.2.2.1.on hW (fun a h9 h8 => by rw [ht]; exact hS.2.1 a h9 h8)⟩, hS.F ht⟩) hS.2.2 hd C0.2.2.2.2.2.2.2.2.1
end RET
end HEAP2
