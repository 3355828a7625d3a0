/-! rows of the law's own body: the script, the end -/
section LAW0
variable {l : Launch} {g : GX} {φ : CX} {μ : MU} {pc : Nat} {L : List (Option Value)} {st : List Value} {M : PW}
theorem z_sld {b n : Nat} {xs : Nat → Int32} {i : Int} (hX : va_X b n xs φ.2.2.1 φ.2.2.1.heap) (hbl : b < φ.2.2.1.heap.size) (hbA : b ≤ g.2.2.1) (hd : decode μ.1 pc = .ok (.iaload, 1)) (hi : inR i) (hb : 0 ≤ i ∧ i < (n : Int)) (kk : Zt l g φ μ (pc + 1) L (vI (xs i.toNat).toInt :: st) M) : Zt l g φ μ pc L (vI i :: .ref b :: st) M := z_of fun p e s m args below meth c R a b' Q hφ H locs ls C0 hl0 hH hN h1 h2 hS => by
  subst hφ
  refine va_sld C0.1 C0.2.1 hX hbl (fun h => by have : g.2.2.1 < b := h; omega) hS (ix_of hb hi) hd ?_
  rw [clamp_ofI hi, ← vI_toInt]
  exact z_to kk C0 hl0 hH hN h1 h2 hS
theorem z_slen {b n : Nat} {xs : Nat → Int32} (hX : va_X b n xs φ.2.2.1 φ.2.2.1.heap) (hbl : b < φ.2.2.1.heap.size) (hbA : b ≤ g.2.2.1) (hd : decode μ.1 pc = .ok (.arraylength, 1)) (kk : Zt l g φ μ (pc + 1) L (vI n :: st) M) : Zt l g φ μ pc L (.ref b :: st) M := z_of fun p e s m args below meth c R a b' Q hφ H locs ls C0 hl0 hH hN h1 h2 hS => by
  subst hφ
  refine va_slen C0.1 C0.2.1 hX hbl (fun h => by have : g.2.2.1 < b := h; omega) hS hd ?_
  rw [show Int32.ofNat n = Int32.ofInt (n : Int) from (Int32.ofInt_eq_ofNat).symm]
  exact z_to kk C0 hl0 hH hN h1 h2 hS
/-- the law's frame -/
def lawΦ (p : Program) (e : Env) (s : State) (m : MethodId) (below : List Frame) (meth : Method) (c : Code) (b : Nat) : CX := (p, e, s, m, #[Value.ref b], below, meth, c, room_1, 0, 353, lw_Z below #[Value.ref b] s)
abbrev lawN (φ : CX) : MU := (code, R_law, 4, 70, φ.2.2.2.2.2.2.1.name)
theorem z_lawret {p : Program} {e : Env} {s : State} {m : MethodId} {below : List Frame} {meth : Method} {c : Code} {b : Nat} (hr : meth.sig.returnType = ret) (hd : decode code pc = .ok (.ireturn, 1)) : Zt l g (lawΦ p e s m below meth c b) (lawN (lawΦ p e s m below meth c b)) pc L [vI 1] M := by
  intro H locs ls C0 hl0 hH hN h1 h2 hS
  have hsz : s.heap.size = g.2.2.1 + 1 + 0 := C0.2.2.2.2.2.2.2.1
  refine va_forget (fun q hq => by have : g.2.2.1 < q.base := hS.2.2 q hq; omega) ?_
  have h2' : M.1 ≤ 353 := h2
  have hs := SLT_mono h2'
  have hk : SLT 353 ≤ 7302250 := by decide +kernel
  refine W.widen (k := 600000) (n := 7302250) (by omega) (by omega) ?_
  exact lw_ret C0.1 C0.2.1 hr C0.2.2.2.2.2.2.2.2.1 hd
end LAW0
