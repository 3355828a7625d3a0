/-! what the library's own methods do, as functions -/
def fillA (I : MI) (r n : Nat) (v : Int) : MI := fun x y => if x = r ∧ y < n then v else I x y
def chW (i : Int) : Int := (WRB.getD i.toNat 0).toInt
def ixS (c : Int) : Int := if c < 0 ∨ 255 < c then -1 else match SGB.findIdx? (fun b => decide (b.toInt = c)) with
  | some k => (k : Int)
  | none => -1
def rsOK (l : Launch) (g : GX) (ds : Nat) (rs : Nat → Int → MI → Option MI) : Prop := ∀ (z : Nat) (I J : Nat → Nat → Int) (G : Nat → Nat → Nat), 295 ≤ z → lyX G → ∀ (r1 : Nat) (x2 : Int), isLaw r1 → inR x2 → ∀ res : MI, rs r1 x2 I = some res → Spec l g ds yX5_readSum cX5_readSum 5 none [vR g 4, vR g r1, vI x2] (z, I, J, G) none True (z, res, J, G)
section PRE
variable {l : Launch} {g : GX} {φ : CX} {μ : MU} {pc : Nat} {L : List (Option Value)} {st : List Value} {M : PW}
theorem z_ldcS2 (hd : decode μ.1 pc = .ok (.ldc 69, 2)) (ho : μ.2.1 = "FarewellStones$Tokens") (kk : Zt l g φ μ (pc + 2) L (.ref (g.2.2.2 2) :: st) M) : Zt l g φ μ pc L st M := z_of fun p e s m args below meth c R a b Q hφ H locs ls C0 hl0 hH hN h1 h2 hS => by
  subst hφ
  exact va_ldcS C0.1 C0.2.1 C0.2.2.2.1 (by rw [ho]; exact C0.2.2.2.2.2.2.1.2.2.2.2.1) hd (z_to kk C0 hl0 hH hN h1 h2 hS)
theorem z_ldcS3 (hd : decode μ.1 pc = .ok (.ldc 58, 2)) (ho : μ.2.1 = "FarewellStones$Tokens") (kk : Zt l g φ μ (pc + 2) L (.ref (g.2.2.2 3) :: st) M) : Zt l g φ μ pc L st M := z_of fun p e s m args below meth c R a b Q hφ H locs ls C0 hl0 hH hN h1 h2 hS => by
  subst hφ
  exact va_ldcS C0.1 C0.2.1 C0.2.2.2.1 (by rw [ho]; exact C0.2.2.2.2.2.2.1.2.2.2.2.2.1) hd (z_to kk C0 hl0 hH hN h1 h2 hS)
end PRE
theorem s_fill {l : Launch} {g : GX} {z r n : Nat} {I J : Nat → Nat → Int} {G : Nat → Nat → Nat} {v : Int} (hr : SH r = (20, n)) (h0 : 0 < r) (hz : r ≤ z) (hv : inR v) : Spec l g 13 yJ7_fill_53178 cJ7_fill_53178 4 none [vR g r, vI v] (z, I, J, G) none True (z, fillA I r n v, J, G) := by
  sorry
