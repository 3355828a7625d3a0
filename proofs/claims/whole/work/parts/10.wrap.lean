section WRAP
variable {l : Launch} {g : GX} {φ : CX} {μ : MU} {pc : Nat} {L : List (Option Value)} {st : List Value} {z : Nat} {I J : Nat → Nat → Int} {G : Nat → Nat → Nat}
theorem inRd {x : Int} (h : decide (-2147483648 ≤ x ∧ x ≤ 2147483647) = true) : inR x := (of_decide_eq_true h : -2147483648 ≤ x ∧ x ≤ 2147483647)
theorem inLd {x : Int} (h : decide (-9223372036854775808 ≤ x ∧ x ≤ 9223372036854775807) = true) : inL x := (of_decide_eq_true h : -9223372036854775808 ≤ x ∧ x ≤ 9223372036854775807)
theorem inR_div {x y : Int} : inR (div32 x y) := inR_toInt _
theorem inR_rem {x y : Int} : inR (rem32 x y) := inR_toInt _
theorem inR_and {x y : Int} : inR (and32 x y) := inR_toInt _
theorem inR_or {x y : Int} : inR (or32 x y) := inR_toInt _
theorem inR_xor {x y : Int} : inR (xor32 x y) := inR_toInt _
theorem inR_shl {x y : Int} : inR (shl32 x y) := inR_toInt _
theorem inR_shr {x y : Int} : inR (shr32 x y) := inR_toInt _
theorem inR_ushr {x y : Int} : inR (ushr32 x y) := inR_toInt _
theorem inR_b8 {x : Int} : inR (b8 x) := inR_toInt _
theorem inR_c16 {x : Int} : inR (c16 x) := inR_toInt _
theorem inR_cmp {x y : Int} : inR (cmp64 x y) := inR_toInt _
theorem inL_i2l {x : Int} : inL (i2l x) := inL_toInt _
theorem inR_max {x y : Int} (hx : inR x) (hy : inR y) : inR (max x y) := by unfold inR at *; omega
theorem inR_min {x y : Int} (hx : inR x) (hy : inR y) : inR (min x y) := by unfold inR at *; omega
theorem inR_abs {x : Int} (hx : inR x) : inR (abs32 x) := by
  unfold abs32
  split
  · exact hx
  · exact inR_w32 _
theorem inR_LX (j : Nat) : inR (LX j) := by
  unfold LX
  by_cases h : j < 40
  · have : ∀ j, j < 40 → inR (LXL.getD j 0) := by unfold inR; decide +kernel
    exact this j h
  · rw [List.getD_eq_getElem?_getD, List.getElem?_eq_none (by simp [LXL]; omega)]
    exact inR_0
theorem inR_LY (j : Nat) : inR (LY j) := by
  unfold LY
  by_cases h : j < 40
  · have : ∀ j, j < 40 → inR (LYL.getD j 0) := by unfold inR; decide +kernel
    exact this j h
  · rw [List.getD_eq_getElem?_getD, List.getElem?_eq_none (by simp [LYL]; omega)]
    exact inR_0
theorem b01_0 : (0 : Int) = 0 ∨ (0 : Int) = 1 := Or.inl rfl
theorem b01_1 : (1 : Int) = 0 ∨ (1 : Int) = 1 := Or.inr rfl
theorem guardE {α : Type} {c : Prop} [Decidable c] {A : Option α} {r : α} (h : (if c then A else none) = some r) : c ∧ A = some r := by
  by_cases hc : c
  · rw [if_pos hc] at h; exact ⟨hc, h⟩
  · rw [if_neg hc] at h; cases h
theorem ifT {α : Type} {c : Prop} [Decidable c] {A B r : α} (hc : c) (h : (if c then A else B) = r) : A = r := by
  rw [if_pos hc] at h; exact h
theorem ifF {α : Type} {c : Prop} [Decidable c] {A B r : α} (hc : ¬ c) (h : (if c then A else B) = r) : B = r := by
  rw [if_neg hc] at h; exact h
theorem bindE {α β : Type} {A : Option α} {f : α → Option β} {r : β} (h : A.bind f = some r) : ∃ a, A = some a ∧ f a = some r := Option.bind_eq_some_iff.mp h
theorem someE {α : Type} {a r : α} (h : some a = some r) : a = r := Option.some.inj h
/-- a loop: steps until one says how it ends -/
def iter {S E : Type} (step : S → Option (E ⊕ S)) : Nat → S → Option E
  | 0, _ => none
  | n + 1, s => match step s with
    | none => none
    | some (.inl e) => some e
    | some (.inr s') => iter step n s'
theorem iter_ind {S E : Type} {step : S → Option (E ⊕ S)} {Z : S → Prop} {ZE : E → Prop} {Rg : S → Prop} (hs : ∀ s r, Rg s → step s = some r → (∀ e, r = .inl e → ZE e) → (∀ s', r = .inr s' → Rg s' → Z s') → Z s) : ∀ (n : Nat) (s : S) (e : E), iter step n s = some e → Rg s → ZE e → Z s
  | 0, s, e, h, _, _ => by cases h
  | n + 1, s, e, h, hr, hz => by
    unfold iter at h
    cases hst : step s with
    | none => rw [hst] at h; cases h
    | some r =>
      rw [hst] at h
      refine hs s r hr hst (fun e' he => ?_) (fun s' hs' hr' => ?_)
      · subst he
        cases h
        exact hz
      · subst hs'
        exact iter_ind hs n s' e h hr' hz
section P
variable {ci N index r k : Nat} {C host : String} {T : u_T} {ty : Nat → FieldType}
theorem y_getI (hd : decode μ.1 pc = .ok (.getfield index, 3)) (cl : CLf ci C T N ty) (hr : SH r = (ci, N)) (h0 : 0 < r) (hz : r ≤ z) (k : Nat) (hk : Nat.ble (k + 1) N = true) (hf : FK ci k = false) (hl : Cond.fieldLink μ.2.1 index (T k).1 (T k).2.1 (T k).2.2.1 ∈ lw_g) (kk : Zt l g φ μ (pc + 3) L (vI (I r k) :: st) (z, I, J, G)) : Zt l g φ μ pc L (vR g r :: st) (z, I, J, G) := z_getI hd cl hr h0 hz hk hf hl kk
theorem y_getNI (hd : decode μ.1 pc = .ok (.getfield index, 3)) (cl : CLf ci C T N ty) (hr : SH r = (ci, N)) (h0 : 0 < r) (hz : r ≤ z) (k : Nat) (hk : Nat.ble (k + 1) N = true) (hf : FK ci k = false) (hl : Cond.fieldLinkNest μ.2.1 index (T k).1 (T k).2.1 (T k).2.2.1 host ∈ lw_n) (kk : Zt l g φ μ (pc + 3) L (vI (I r k) :: st) (z, I, J, G)) : Zt l g φ μ pc L (vR g r :: st) (z, I, J, G) := z_getNI hd cl hr h0 hz hk hf hl kk
theorem y_getR {v : Nat} (hd : decode μ.1 pc = .ok (.getfield index, 3)) (cl : CLf ci C T N ty) (hr : SH r = (ci, N)) (h0 : 0 < r) (hz : r ≤ z) (k : Nat) (hk : Nat.ble (k + 1) N = true) (hf : FK ci k = true) (hl : Cond.fieldLink μ.2.1 index (T k).1 (T k).2.1 (T k).2.2.1 ∈ lw_g) (hv : G r k = v) (hv0 : 0 < v) (kk : Zt l g φ μ (pc + 3) L (vR g v :: st) (z, I, J, G)) : Zt l g φ μ pc L (vR g r :: st) (z, I, J, G) := z_getR hd cl hr h0 hz hk hf hl hv hv0 kk
theorem y_getNR {v : Nat} (hd : decode μ.1 pc = .ok (.getfield index, 3)) (cl : CLf ci C T N ty) (hr : SH r = (ci, N)) (h0 : 0 < r) (hz : r ≤ z) (k : Nat) (hk : Nat.ble (k + 1) N = true) (hf : FK ci k = true) (hl : Cond.fieldLinkNest μ.2.1 index (T k).1 (T k).2.1 (T k).2.2.1 host ∈ lw_n) (hv : G r k = v) (hv0 : 0 < v) (kk : Zt l g φ μ (pc + 3) L (vR g v :: st) (z, I, J, G)) : Zt l g φ μ pc L (vR g r :: st) (z, I, J, G) := z_getNR hd cl hr h0 hz hk hf hl hv hv0 kk
theorem y_putI {v : Int} (hd : decode μ.1 pc = .ok (.putfield index, 3)) (cl : CLf ci C T N ty) (hr : SH r = (ci, N)) (h0 : 0 < r) (hz : r ≤ z) (k : Nat) (hk : Nat.ble (k + 1) N = true) (hf : FK ci k = false) (hfin : (T k).2.2.2 = false) (hl : Cond.fieldLink μ.2.1 index (T k).1 (T k).2.1 (T k).2.2.1 ∈ lw_g) (hn : narrow (ty k) (vI v) = vI v) (hfit : fits (ty k) (vI v) = true) (hv : inR v) (kk : Zt l g φ μ (pc + 3) L st (z, up2 I r k v, J, G)) : Zt l g φ μ pc L (vI v :: vR g r :: st) (z, I, J, G) := z_putI hd cl hr h0 hz hk hf hfin hl hn hfit hv kk
theorem y_putNI {v : Int} (hd : decode μ.1 pc = .ok (.putfield index, 3)) (cl : CLf ci C T N ty) (hr : SH r = (ci, N)) (h0 : 0 < r) (hz : r ≤ z) (k : Nat) (hk : Nat.ble (k + 1) N = true) (hf : FK ci k = false) (hfin : (T k).2.2.2 = false) (hl : Cond.fieldLinkNest μ.2.1 index (T k).1 (T k).2.1 (T k).2.2.1 host ∈ lw_n) (hn : narrow (ty k) (vI v) = vI v) (hfit : fits (ty k) (vI v) = true) (hv : inR v) (kk : Zt l g φ μ (pc + 3) L st (z, up2 I r k v, J, G)) : Zt l g φ μ pc L (vI v :: vR g r :: st) (z, I, J, G) := z_putNI hd cl hr h0 hz hk hf hfin hl hn hfit hv kk
theorem y_putR {v : Nat} (hd : decode μ.1 pc = .ok (.putfield index, 3)) (cl : CLf ci C T N ty) (hr : SH r = (ci, N)) (h0 : 0 < r) (hz : r ≤ z) (k : Nat) (hk : Nat.ble (k + 1) N = true) (hf : FK ci k = true) (hfin : (T k).2.2.2 = false) (hl : Cond.fieldLink μ.2.1 index (T k).1 (T k).2.1 (T k).2.2.1 ∈ lw_g) (hn : narrow (ty k) (vR g v) = vR g v) (hfit : fits (ty k) (vR g v) = true) (hv : 0 < v) (kk : Zt l g φ μ (pc + 3) L st (z, I, J, up2 G r k v)) : Zt l g φ μ pc L (vR g v :: vR g r :: st) (z, I, J, G) := z_putR hd cl hr h0 hz hk hf hfin hl hn hfit hv kk
end P
section A
variable {r n : Nat}
theorem y_iald {i : Int} (hd : decode μ.1 pc = .ok (.iaload, 1)) (hr : SH r = (20, n)) (h0 : 0 < r) (hz : r ≤ z) (hi : inR i) (hb : 0 ≤ i ∧ i < (n : Int)) (kk : Zt l g φ μ (pc + 1) L (vI (I r i.toNat) :: st) (z, I, J, G)) : Zt l g φ μ pc L (vI i :: vR g r :: st) (z, I, J, G) := z_iald hd hr h0 hz hi hb kk
theorem y_bald {i : Int} (hd : decode μ.1 pc = .ok (.baload, 1)) (hr : SH r = (21, n)) (h0 : 0 < r) (hz : r ≤ z) (hi : inR i) (hb : 0 ≤ i ∧ i < (n : Int)) (kk : Zt l g φ μ (pc + 1) L (vI (I r i.toNat) :: st) (z, I, J, G)) : Zt l g φ μ pc L (vI i :: vR g r :: st) (z, I, J, G) := z_bald hd hr h0 hz hi hb kk
theorem y_zald {i : Int} (hd : decode μ.1 pc = .ok (.baload, 1)) (hr : SH r = (22, n)) (h0 : 0 < r) (hz : r ≤ z) (hi : inR i) (hb : 0 ≤ i ∧ i < (n : Int)) (kk : Zt l g φ μ (pc + 1) L (vI (I r i.toNat) :: st) (z, I, J, G)) : Zt l g φ μ pc L (vI i :: vR g r :: st) (z, I, J, G) := z_zald hd hr h0 hz hi hb kk
theorem y_lald {i : Int} (hd : decode μ.1 pc = .ok (.laload, 1)) (hr : SH r = (23, n)) (h0 : 0 < r) (hz : r ≤ z) (hi : inR i) (hb : 0 ≤ i ∧ i < (n : Int)) (kk : Zt l g φ μ (pc + 1) L (vL (J r i.toNat) :: st) (z, I, J, G)) : Zt l g φ μ pc L (vI i :: vR g r :: st) (z, I, J, G) := z_lald hd hr h0 hz hi hb kk
theorem y_aald {i : Int} {v : Nat} (hd : decode μ.1 pc = .ok (.aaload, 1)) (hr : SH r = (24, n)) (h0 : 0 < r) (hz : r ≤ z) (hi : inR i) (hb : 0 ≤ i ∧ i < (n : Int)) (hv : G r i.toNat = v) (hv0 : 0 < v) (kk : Zt l g φ μ (pc + 1) L (vR g v :: st) (z, I, J, G)) : Zt l g φ μ pc L (vI i :: vR g r :: st) (z, I, J, G) := z_aald hd hr h0 hz hi hb hv hv0 kk
theorem y_aald2 {i : Int} {v : Nat} (hd : decode μ.1 pc = .ok (.aaload, 1)) (hr : SH r = (25, n)) (h0 : 0 < r) (hz : r ≤ z) (hi : inR i) (hb : 0 ≤ i ∧ i < (n : Int)) (hv : G r i.toNat = v) (hv0 : 0 < v) (kk : Zt l g φ μ (pc + 1) L (vR g v :: st) (z, I, J, G)) : Zt l g φ μ pc L (vI i :: vR g r :: st) (z, I, J, G) := z_aald2 hd hr h0 hz hi hb hv hv0 kk
theorem y_iast {i v : Int} (hd : decode μ.1 pc = .ok (.iastore, 1)) (hr : SH r = (20, n)) (h0 : 0 < r) (hz : r ≤ z) (hi : inR i) (hb : 0 ≤ i ∧ i < (n : Int)) (hv : inR v) (kk : Zt l g φ μ (pc + 1) L st (z, up2 I r i.toNat v, J, G)) : Zt l g φ μ pc L (vI v :: vI i :: vR g r :: st) (z, I, J, G) := z_iast hd hr h0 hz hi hb hv kk
theorem y_bast {i v : Int} (hd : decode μ.1 pc = .ok (.bastore, 1)) (hr : SH r = (21, n)) (h0 : 0 < r) (hz : r ≤ z) (hi : inR i) (hb : 0 ≤ i ∧ i < (n : Int)) (kk : Zt l g φ μ (pc + 1) L st (z, up2 I r i.toNat (b8 v), J, G)) : Zt l g φ μ pc L (vI v :: vI i :: vR g r :: st) (z, I, J, G) := z_bast hd hr h0 hz hi hb kk
theorem y_zast {i v : Int} (hd : decode μ.1 pc = .ok (.bastore, 1)) (hr : SH r = (22, n)) (h0 : 0 < r) (hz : r ≤ z) (hi : inR i) (hb : 0 ≤ i ∧ i < (n : Int)) (hv : v = 0 ∨ v = 1) (kk : Zt l g φ μ (pc + 1) L st (z, up2 I r i.toNat v, J, G)) : Zt l g φ μ pc L (vI v :: vI i :: vR g r :: st) (z, I, J, G) := z_zast hd hr h0 hz hi hb hv kk
theorem y_last {i v : Int} (hd : decode μ.1 pc = .ok (.lastore, 1)) (hr : SH r = (23, n)) (h0 : 0 < r) (hz : r ≤ z) (hi : inR i) (hb : 0 ≤ i ∧ i < (n : Int)) (hv : inL v) (kk : Zt l g φ μ (pc + 1) L st (z, I, up2 J r i.toNat v, G)) : Zt l g φ μ pc L (vL v :: vI i :: vR g r :: st) (z, I, J, G) := z_last hd hr h0 hz hi hb hv kk
theorem y_copy {index r0 n0 : Nat} {sz : Int} (hd : decode μ.1 pc = .ok (.invokestatic index, 3)) (hr0 : SH r0 = (20, n0)) (h00 : 0 < r0) (hz0 : r0 ≤ z) (hr : SH r = (20, n)) (h0 : 0 < r) (hz : r ≤ z) (hsz : inR sz) (hb : 0 ≤ sz ∧ sz ≤ (n0 : Int) ∧ sz ≤ (n : Int)) (hl : Cond.methodLink μ.2.1 index arraycopyName ∈ lw_g) (hnat : Cond.native arraycopyName ∈ lw_g) (hstat : Cond.static arraycopyName ∈ lw_g) (hini : Cond.initialized "java/lang/System" ∈ lw_g) (hdep : Nat.ble 1 μ.2.2.2.1 = true) (hrs : Nat.ble ((st.map fun v => v.category).sum) 8 = true) (kk : Zt l g φ μ (pc + 3) L st (z, cpA I r0 r sz.toNat, J, G)) : Zt l g φ μ pc L (vI sz :: vI 0 :: vR g r :: vI 0 :: vR g r0 :: st) (z, I, J, G) := z_copy hd hr0 h00 hz0 hr h0 hz hsz hb hl hnat hstat hini hdep hrs kk
end A
section SW
variable {dflt lo hi : Int} {offs : Array Int} {len : Nat} {x : Int} {off : Int} {tgt : Nat} {M : PW}
theorem z_tabIn (hd : decode μ.1 pc = .ok (.tableswitch dflt lo hi offs, len)) (v : Int) (hv : x = v) (hx : inR x) (h1 : decide (lo ≤ v ∧ v ≤ hi) = true) (ho : offs[(v - lo).toNat]? = some off) (ht : (pc : Int) + off = (tgt : Int)) (kk : Zt l g φ μ tgt L st M) : Zt l g φ μ pc L (vI x :: st) M := z_of fun p e s m args below meth c R a b Q hφ H locs ls C0 hl0 hH hN h1' h2 hS => by
  subst hφ
  subst hv
  have h := of_decide_eq_true h1
  exact lv_tableIn C0.1 C0.2.1 hd (by rw [ofI_toInt hx]; omega) (by rw [ofI_toInt hx]; omega) (by rw [ofI_toInt hx]; exact ho) ht (z_to kk C0 hl0 hH hN h1' h2 hS)
theorem z_tabOut (hd : decode μ.1 pc = .ok (.tableswitch dflt lo hi offs, len)) (hx : inR x) (h : x < lo ∨ hi < x) (ht : (pc : Int) + dflt = (tgt : Int)) (kk : Zt l g φ μ tgt L st M) : Zt l g φ μ pc L (vI x :: st) M := z_of fun p e s m args below meth c R a b Q hφ H locs ls C0 hl0 hH hN h1' h2 hS => by
  subst hφ
  exact lv_tableOut C0.1 C0.2.1 hd (by rw [ofI_toInt hx]; exact h) ht (z_to kk C0 hl0 hH hN h1' h2 hS)
theorem z_look {ps : Array (Int × Int)} (hd : decode μ.1 pc = .ok (.lookupswitch dflt ps, len)) (hx : inR x) (hp : (ps.toList.zip (ps.toList.drop 1)).all (fun (a, next) => a.1 < next.1) = true) (ho : Op.lookupswitch.offset ps.toList dflt x = off) (ht : (pc : Int) + off = (tgt : Int)) (kk : Zt l g φ μ tgt L st M) : Zt l g φ μ pc L (vI x :: st) M := z_of fun p e s m args below meth c R a b Q hφ H locs ls C0 hl0 hH hN h1' h2 hS => by
  subst hφ
  exact lv_lookup C0.1 C0.2.1 hd hp (by rw [ofI_toInt hx]; exact ho) ht (z_to kk C0 hl0 hH hN h1' h2 hS)
end SW
/-- fewer places known -/
def lsub : List (Option Value) → List (Option Value) → Prop
  | [], _ => True
  | none :: a, _ :: b => lsub a b
  | some v :: a, some w :: b => v = w ∧ lsub a b
  | _, _ => False
theorem ls0 {b : List (Option Value)} : lsub [] b := trivial
theorem lsN {a b : List (Option Value)} {x : Option Value} (h : lsub a b) : lsub (none :: a) (x :: b) := h
theorem lsS {a b : List (Option Value)} {v : Value} (h : lsub a b) : lsub (some v :: a) (some v :: b) := ⟨rfl, h⟩
theorem lsub_get : ∀ {a b : List (Option Value)}, lsub a b → ∀ (i : Nat) (v : Value), a[i]? = some (some v) → b[i]? = some (some v)
  | [], _, _, i, v, h => by simp at h
  | none :: a, x :: b, hs, i, v, h => by
    cases i with
    | zero => cases h
    | succ i => exact lsub_get (a := a) (b := b) hs i v h
  | some w :: a, some x :: b, hs, i, v, h => by
    obtain ⟨h1, h2⟩ := hs
    cases i with
    | zero => cases h; rw [← h1]; rfl
    | succ i => exact lsub_get (a := a) (b := b) h2 i v h
theorem z_weak {L' : List (Option Value)} {M : PW} (hs : lsub L' L) (k : Zt l g φ μ pc L' st M) : Zt l g φ μ pc L st M := z_of fun p e s m args below meth c R a b Q hφ H locs ls C hl hH hN h1 h2 hS => by
  subst hφ
  exact z_to k C ⟨hl.1, hl.2.1, fun i v h => hl.2.2 i v (lsub_get hs i v h)⟩ hH hN h1 h2 hS
end WRAP
