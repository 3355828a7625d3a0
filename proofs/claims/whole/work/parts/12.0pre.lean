/-! what the library's own methods do, as functions -/
def fillA (I : MI) (r n : Nat) (v : Int) : MI := fun x y => if x = r ∧ y < n then v else I x y
def chW (i : Int) : Int := (WRB.getD i.toNat 0).toInt
def ixS (c : Int) : Int := if c < 0 ∨ 255 < c then -1 else match SGB.findIdx? (fun b => decide (b.toInt = c)) with
  | some k => (k : Int)
  | none => -1
def rsOK (l : Launch) (g : GX) (ds : Nat) (rs : Nat → Int → MI → Option MI) : Prop := ∀ (z : Nat) (I J : Nat → Nat → Int) (G : Nat → Nat → Nat), 295 ≤ z → lyX G → ∀ (r1 : Nat) (x2 : Int), isLaw r1 → inR x2 → ∀ res : MI, rs r1 x2 I = some res → Spec l g ds yX5_readSum cX5_readSum 5 none [vR g 4, vR g r1, vI x2] (z, I, J, G) none True (z, res, J, G)
section PRE
variable {l : Launch} {g : GX} {φ : CX} {μ : MU} {pc : Nat} {L : List (Option Value)} {st : List Value} {M : PW}
theorem z_ldcS2 (hd : decode μ.1 pc = .ok (.ldc 69, 2)) (ho : μ.2.1 = "FarewellStones$Tokens") (kk : Zt l g φ μ (pc + 2) L (.ref (g.2.2.2 2) :: st) M) : Zt l g φ μ pc L st M := z_of fun p e s m args below meth c R a b Q hφ H locs ls C0 hl0 hH hN h1 h2 hS => by
  subst hφ
  exact va_ldcS C0.1 C0.2.1 C0.2.2.2.1 (by rw [ho]; exact C0.2.2.2.2.2.2.1.2.2.2.2.1) hd (z_to kk C0 hl0 hH hN h1 h2 hS)
theorem z_ldcS3 (hd : decode μ.1 pc = .ok (.ldc 58, 2)) (ho : μ.2.1 = "FarewellStones$Tokens") (kk : Zt l g φ μ (pc + 2) L (.ref (g.2.2.2 3) :: st) M) : Zt l g φ μ pc L st M := z_of fun p e s m args below meth c R a b Q hφ H locs ls C0 hl0 hH hN h1 h2 hS => by
  subst hφ
  exact va_ldcS C0.1 C0.2.1 C0.2.2.2.1 (by rw [ho]; exact C0.2.2.2.2.2.2.1.2.2.2.2.2.1) hd (z_to kk C0 hl0 hH hN h1 h2 hS)
section STR
variable {d index nL n : Nat} {y : MethodName} {cc : ByteArray} {ret : Option FieldType} {As rest : List Value} {r : Option Value} {P : Prop} {M' : PW}
/-- a call on one of the two texts -/
theorem z_callStr (i : Nat) (hi : i < 2) (hs : Spec l g d y cc nL ret (.ref (g.2.2.2 (2 + i)) :: As) M r P M') (hd : decode μ.1 pc = .ok (.invokevirtual index, 3)) (mw : MW y cc nL ret n) (hcl : y.cls = "java/lang/String") (hl : Cond.methodLink μ.2.1 index y ∈ lw_g) (hin : Cond.instanceMethod y ∈ lw_g) (hse : Cond.selects y.cls y y ∈ lw_g) (hdep : Nat.ble (d + 1) μ.2.2.2.1 = true) (hn : As.length = n) (hst : st = As.reverse ++ .ref (g.2.2.2 (2 + i)) :: rest) (hrs : Nat.ble ((rest.map fun v => v.category).sum) 8 = true) (hm : M.1 ≤ M'.1) (hm2 : M'.1 ≤ cb φ) (kk : P → Zt l g φ μ (pc + 3) L (r.toList ++ rest) M') : Zt l g φ μ pc L st M := z_of fun p e s m args below meth c R a b Q hφ H locs ls C0 hl0 hH hN h1 h2 hS => by
  subst hφ
  subst hst
  have hgood : GoodIn lw_g (wsV μ.2.1 index y.cls y (wsOf y cc nL ret)) := good_app (by
    intro w hw
    simp only [List.mem_cons, List.not_mem_nil, or_false] at hw
    rcases hw with rfl | rfl | rfl | rfl
    · exact hl
    · exact hin
    · exact hse
    · exact mw.2.2.1) (wsOf_in mw)
  have cw := cwV (R := R) (s := s) (args := args) (own := μ.2.1) (index := index) (C := y.cls) (rm := rm d M.1 M'.1) n C0.2.2.2.2.1 hgood rfl rfl rfl ⟨rfl, mw.2.1⟩ (rm_fit ⟨C0.2.2.2.2.2.2.2.2.2.2.1, C0.2.2.2.2.2.2.2.2.2.2.2.1⟩ (Nat.le_of_ble_eq_true hdep) mw.2.2.2.1)
  have hrec := vk_recv (i := i) C0.2.2.2.2.2.2.1.2.2.2.2.2.2.1 hi hS
  rw [← hcl] at hrec
  exact z_run hm hm2 (va_runV (As := As) (rest := rest) ⟨C0.1, C0.2.1, C0.2.2.1, C0.2.2.2.1, C0.2.2.2.2.1⟩ hs cw ⟨WD_blind, hrec, fun U hU hW => ⟨rfl, WD_at hW hU hH hN C0.2.2.2.2.2.1 C0.2.2.2.2.2.2.1 hS⟩⟩ rfl hn hl0.1 rfl (lv_room (Nat.le_of_ble_eq_true hrs)) hd (cs_fit C0.2.2.2.2.2.2.2.2.2.2.2.2 h1 hm hm2)) C0 hl0 h1 hS kk
end STR
end PRE

