/-! one row an instruction, over Zt -/
section ROWS
variable {l : Launch} {g : GX} {φ : CX} {μ : MU} {pc : Nat} {L : List (Option Value)} {st : List Value} {M : PW}
/-- the standing facts, and the machine's own judgement -/
theorem z_of (k : ∀ (p : Program) (e : Env) (s : State) (m : MethodId) (args : Array Value) (below : List Frame) (meth : Method) (c : Code) (R : Room) (a b : Nat) (Q : State → Prop), φ = (p, e, s, m, args, below, meth, c, R, a, b, Q) → ∀ (H : Heap) (locs : List Loc) (ls : Array Slot), CF g (p, e, s, m, args, below, meth, c, R, a, b, Q) μ → lok ls μ.2.2.1 L → WH g M H → NM M → a ≤ M.1 → M.1 ≤ b → va_S (AA g) s.heap H locs → W p l e R s m args below meth c H locs (M.1 - a) (SLT M.1 - SLT a) Q (F0 m pc ls st)) : Zt l g φ μ pc L st M := by
  obtain ⟨p, e, s, m, args, below, meth, c, R, a, b, Q⟩ := φ
  exact k p e s m args below meth c R a b Q rfl
theorem z_to {p : Program} {e : Env} {s : State} {m : MethodId} {args : Array Value} {below : List Frame} {meth : Method} {c : Code} {R : Room} {a b : Nat} {Q : State → Prop} (h : Zt l g (p, e, s, m, args, below, meth, c, R, a, b, Q) μ pc L st M) {H : Heap} {locs : List Loc} {ls : Array Slot} (C : CF g (p, e, s, m, args, below, meth, c, R, a, b, Q) μ) (hl : lok ls μ.2.2.1 L) (hH : WH g M H) (hN : NM M) (h1 : a ≤ M.1) (h2 : M.1 ≤ b) (hS : va_S (AA g) s.heap H locs) : W p l e R s m args below meth c H locs (M.1 - a) (SLT M.1 - SLT a) Q (F0 m pc ls st) :=
  h H locs ls C hl hH hN h1 h2 hS
theorem z_nm (k : NM M → Zt l g φ μ pc L st M) : Zt l g φ μ pc L st M := z_of fun p e s m args below meth c R a b Q hφ H locs ls C hl hH hN h1 h2 hS => by
  subst hφ
  exact z_to (k hN) C hl hH hN h1 h2 hS
theorem z_iload_n {k : Fin 4} {x : Int} (hd : decode μ.1 pc = .ok (.iload_n k, 1)) (hx : L[(k : Nat)]? = some (some (vI x))) (kk : Zt l g φ μ (pc + 1) L (vI x :: st) M) : Zt l g φ μ pc L st M := z_of fun p e s m args below meth c R a b Q hφ H locs ls C hl hH hN h1 h2 hS => by
  subst hφ
  exact lv_iload_n C.1 C.2.1 hd rfl (hl.2.2 _ _ hx) (z_to kk C hl hH hN h1 h2 hS)
theorem z_iload {i : Nat} {x : Int} (hd : decode μ.1 pc = .ok (.iload i, 2)) (hx : L[i]? = some (some (vI x))) (kk : Zt l g φ μ (pc + 2) L (vI x :: st) M) : Zt l g φ μ pc L st M := z_of fun p e s m args below meth c R a b Q hφ H locs ls C hl hH hN h1 h2 hS => by
  subst hφ
  exact lv_iload C.1 C.2.1 hd (hl.2.2 _ _ hx) (z_to kk C hl hH hN h1 h2 hS)
theorem z_aload_n {k : Fin 4} {x : Nat} (hd : decode μ.1 pc = .ok (.aload_n k, 1)) (hx : L[(k : Nat)]? = some (some (.ref x))) (kk : Zt l g φ μ (pc + 1) L (.ref x :: st) M) : Zt l g φ μ pc L st M := z_of fun p e s m args below meth c R a b Q hφ H locs ls C hl hH hN h1 h2 hS => by
  subst hφ
  exact lv_aload_n C.1 C.2.1 hd rfl (hl.2.2 _ _ hx) (z_to kk C hl hH hN h1 h2 hS)
theorem z_aload {i : Nat} {x : Nat} (hd : decode μ.1 pc = .ok (.aload i, 2)) (hx : L[i]? = some (some (.ref x))) (kk : Zt l g φ μ (pc + 2) L (.ref x :: st) M) : Zt l g φ μ pc L st M := z_of fun p e s m args below meth c R a b Q hφ H locs ls C hl hH hN h1 h2 hS => by
  subst hφ
  exact lv_aload C.1 C.2.1 hd (hl.2.2 _ _ hx) (z_to kk C hl hH hN h1 h2 hS)
theorem z_lload_n {k : Fin 4} {x : Int} (hd : decode μ.1 pc = .ok (.lload_n k, 1)) (hx : L[(k : Nat)]? = some (some (vL x))) (kk : Zt l g φ μ (pc + 1) L (vL x :: st) M) : Zt l g φ μ pc L st M := z_of fun p e s m args below meth c R a b Q hφ H locs ls C hl hH hN h1 h2 hS => by
  subst hφ
  exact lv_lload_n C.1 C.2.1 hd rfl (hl.2.2 _ _ hx) (z_to kk C hl hH hN h1 h2 hS)
theorem z_lload {i : Nat} {x : Int} (hd : decode μ.1 pc = .ok (.lload i, 2)) (hx : L[i]? = some (some (vL x))) (kk : Zt l g φ μ (pc + 2) L (vL x :: st) M) : Zt l g φ μ pc L st M := z_of fun p e s m args below meth c R a b Q hφ H locs ls C hl hH hN h1 h2 hS => by
  subst hφ
  exact lv_lload C.1 C.2.1 hd (hl.2.2 _ _ hx) (z_to kk C hl hH hN h1 h2 hS)
/-- the place i is written: what is known of the places afterwards (a long that stood one place before is gone) -/
def cat1 (o : Option (Option Value)) : Bool := match o with
  | some (some v) => v.category == 1
  | _ => true
def setL (L : List (Option Value)) (i : Nat) (v : Value) : List (Option Value) := L.set i (some v)
theorem lok_of {ls : Array Slot} {nL : Nat} {l : List (Nat × Value)} {L : List (Option Value)} (h : lv_has ls nL l) (hL : ∀ (i : Nat) (v : Value), L[i]? = some (some v) → (i, v) ∈ l) : lok ls nL L := ⟨h.1, h.2.1, fun i v hi => h.2.2 (i, v) (hL i v hi)⟩
def asl (L : List (Option Value)) : List (Nat × Value) := (List.range L.length).filterMap (fun i => match L[i]? with
  | some (some v) => some (i, v)
  | _ => none)
theorem asl_mem {L : List (Option Value)} {i : Nat} {v : Value} (h : L[i]? = some (some v)) : (i, v) ∈ asl L := by
  refine List.mem_filterMap.mpr ⟨i, List.mem_range.mpr (List.getElem?_eq_some_iff.mp h).1, ?_⟩
  rw [h]
theorem asl_of {L : List (Option Value)} {q : Nat × Value} (h : q ∈ asl L) : L[q.1]? = some (some q.2) := by
  obtain ⟨i, -, hi⟩ := List.mem_filterMap.mp h
  split at hi
  · rename_i v hv
    cases hi
    exact hv
  · cases hi
theorem lok_has {ls : Array Slot} {nL : Nat} {L : List (Option Value)} (h : lok ls nL L) : lv_has ls nL (asl L) := ⟨h.1, h.2.1, fun q hq => h.2.2 q.1 q.2 (asl_of hq)⟩
theorem lok_set1 {ls : Array Slot} {nL i : Nat} {L : List (Option Value)} {v : Value} (hc : i = 0 ∨ cat1 (L[i - 1]?) = true) (h : lv_has ls nL ((i, v) :: (asl L).filter (fun q => !(q.1 == i) && !(q.1 + 1 == i && q.2.category == 2)))) : lok ls nL (setL L i v) := by
  refine lok_of h fun j w hj => ?_
  by_cases hji : j = i
  · subst hji
    unfold setL at hj
    rw [List.getElem?_set_self'] at hj
    cases hL : L[j]? with
    | none => rw [hL] at hj; cases hj
    | some x => rw [hL] at hj; cases hj; exact List.mem_cons_self
  · unfold setL at hj
    rw [List.getElem?_set_ne (fun q => hji q.symm)] at hj
    refine List.mem_cons_of_mem _ (List.mem_filter.mpr ⟨asl_mem hj, ?_⟩)
    by_cases hj2 : j + 1 = i
    · have hi : i - 1 = j := by omega
      rcases hc with hc | hc
      · omega
      · rw [hi, hj] at hc
        have hc2 : w.category = 1 := by simpa [cat1] using hc
        simp [hji, hc2]
    · simp [hji, hj2]
theorem lok_set2 {ls : Array Slot} {nL i : Nat} {L : List (Option Value)} {v : Value} (hc : i = 0 ∨ cat1 (L[i - 1]?) = true) (h : lv_has ls nL ((i, v) :: (asl L).filter (fun q => !(q.1 == i) && (!(q.1 == i + 1) && !(q.1 + 1 == i && q.2.category == 2))))) : lok ls nL ((setL L i v).set (i + 1) none) := by
  refine lok_of h fun j w hj => ?_
  by_cases hj3 : j = i + 1
  · subst hj3
    rw [List.getElem?_set_self'] at hj
    cases hL : (setL L i v)[i + 1]? with
    | none => rw [hL] at hj; cases hj
    | some x => rw [hL] at hj; cases hj
  rw [List.getElem?_set_ne (fun q => hj3 q.symm)] at hj
  by_cases hji : j = i
  · subst hji
    unfold setL at hj
    rw [List.getElem?_set_self'] at hj
    cases hL : L[j]? with
    | none => rw [hL] at hj; cases hj
    | some x => rw [hL] at hj; cases hj; exact List.mem_cons_self
  · unfold setL at hj
    rw [List.getElem?_set_ne (fun q => hji q.symm)] at hj
    refine List.mem_cons_of_mem _ (List.mem_filter.mpr ⟨asl_mem hj, ?_⟩)
    by_cases hj2 : j + 1 = i
    · have hi : i - 1 = j := by omega
      rcases hc with hc | hc
      · omega
      · rw [hi, hj] at hc
        have hc2 : w.category = 1 := by simpa [cat1] using hc
        simp [hji, hj3, hc2]
    · simp [hji, hj2, hj3]
theorem z_istore_n {k : Fin 4} {x : Int} {L' : List (Option Value)} (hd : decode μ.1 pc = .ok (.istore_n k, 1)) (hn : Nat.ble ((k : Nat) + 1) μ.2.2.1 = true) (hc : Nat.beq (k : Nat) 0 || cat1 (L[(k : Nat) - 1]?) = true) (hL : setL L k (vI x) = L') (kk : Zt l g φ μ (pc + 1) L' st M) : Zt l g φ μ pc L (vI x :: st) M := z_of fun p e s m args below meth c R a b Q hφ H locs ls C hl hH hN h1 h2 hS => by
  subst hφ
  subst hL
  exact lv_istore_n C.1 C.2.1 hd rfl (lok_has hl) (Nat.le_of_ble_eq_true hn) rfl (fun ls' hl' => z_to kk C (lok_set1 (by simpa [Nat.beq_eq] using hc) hl') hH hN h1 h2 hS)
theorem z_istore {i : Nat} {x : Int} {L' : List (Option Value)} (hd : decode μ.1 pc = .ok (.istore i, 2)) (hn : Nat.ble (i + 1) μ.2.2.1 = true) (hc : Nat.beq i 0 || cat1 (L[i - 1]?) = true) (hL : setL L i (vI x) = L') (kk : Zt l g φ μ (pc + 2) L' st M) : Zt l g φ μ pc L (vI x :: st) M := z_of fun p e s m args below meth c R a b Q hφ H locs ls C hl hH hN h1 h2 hS => by
  subst hφ
  subst hL
  exact lv_istore C.1 C.2.1 hd (lok_has hl) (Nat.le_of_ble_eq_true hn) rfl (fun ls' hl' => z_to kk C (lok_set1 (by simpa [Nat.beq_eq] using hc) hl') hH hN h1 h2 hS)
theorem z_astore_n {k : Fin 4} {x : Nat} {L' : List (Option Value)} (hd : decode μ.1 pc = .ok (.astore_n k, 1)) (hn : Nat.ble ((k : Nat) + 1) μ.2.2.1 = true) (hc : Nat.beq (k : Nat) 0 || cat1 (L[(k : Nat) - 1]?) = true) (hL : setL L k (.ref x) = L') (kk : Zt l g φ μ (pc + 1) L' st M) : Zt l g φ μ pc L (.ref x :: st) M := z_of fun p e s m args below meth c R a b Q hφ H locs ls C hl hH hN h1 h2 hS => by
  subst hφ
  subst hL
  exact lv_astore_n C.1 C.2.1 hd rfl (lok_has hl) (Nat.le_of_ble_eq_true hn) rfl (fun ls' hl' => z_to kk C (lok_set1 (by simpa [Nat.beq_eq] using hc) hl') hH hN h1 h2 hS)
theorem z_lstore {i : Nat} {x : Int} {L' : List (Option Value)} (hd : decode μ.1 pc = .ok (.lstore i, 2)) (hn : Nat.ble (i + 2) μ.2.2.1 = true) (hc : Nat.beq i 0 || cat1 (L[i - 1]?) = true) (hL : (setL L i (vL x)).set (i + 1) none = L') (kk : Zt l g φ μ (pc + 2) L' st M) : Zt l g φ μ pc L (vL x :: st) M := z_of fun p e s m args below meth c R a b Q hφ H locs ls C hl hH hN h1 h2 hS => by
  subst hφ
  subst hL
  exact lv_lstore C.1 C.2.1 hd (lok_has hl) (Nat.le_of_ble_eq_true hn) rfl (fun ls' hl' => z_to kk C (lok_set2 (by simpa [Nat.beq_eq] using hc) hl') hH hN h1 h2 hS)
theorem z_iinc {i : Nat} {n x : Int} {L' : List (Option Value)} (hd : decode μ.1 pc = .ok (.iinc i n, 3)) (hx : L[i]? = some (some (vI x))) (hn : Nat.ble (i + 1) μ.2.2.1 = true) (hc : Nat.beq i 0 || cat1 (L[i - 1]?) = true) (hL : setL L i (vI (w32 (x + n))) = L') (kk : Zt l g φ μ (pc + 3) L' st M) : Zt l g φ μ pc L st M := z_of fun p e s m args below meth c R a b Q hφ H locs ls C hl hH hN h1 h2 hS => by
  subst hφ
  subst hL
  obtain ⟨j, hj⟩ := List.getElem?_of_mem (asl_mem hx)
  exact lv_iinc (v := Int32.ofInt (w32 (x + n))) C.1 C.2.1 hd (lok_has hl) hj (by rw [ofI_w32, Int32.ofInt_add]) (Nat.le_of_ble_eq_true hn) rfl (fun ls' hl' => z_to kk C (lok_set1 (by simpa [Nat.beq_eq] using hc) hl') hH hN h1 h2 hS)
theorem z_iconst {n : Int} (hd : decode μ.1 pc = .ok (.iconst n, 1)) (kk : Zt l g φ μ (pc + 1) L (vI n :: st) M) : Zt l g φ μ pc L st M := z_of fun p e s m args below meth c R a b Q hφ H locs ls C hl hH hN h1 h2 hS => by
  subst hφ
  exact lv_iconst C.1 C.2.1 hd rfl (z_to kk C hl hH hN h1 h2 hS)
theorem z_bipush {n : Int} (hd : decode μ.1 pc = .ok (.bipush n, 2)) (hv : decide ((Int8.ofInt n).toInt32 = Int32.ofInt n) = true) (kk : Zt l g φ μ (pc + 2) L (vI n :: st) M) : Zt l g φ μ pc L st M := z_of fun p e s m args below meth c R a b Q hφ H locs ls C hl hH hN h1 h2 hS => by
  subst hφ
  exact lv_bipush C.1 C.2.1 hd (of_decide_eq_true hv) (z_to kk C hl hH hN h1 h2 hS)
theorem z_sipush {n : Int} (hd : decode μ.1 pc = .ok (.sipush n, 3)) (hv : decide ((Int16.ofInt n).toInt32 = Int32.ofInt n) = true) (kk : Zt l g φ μ (pc + 3) L (vI n :: st) M) : Zt l g φ μ pc L st M := z_of fun p e s m args below meth c R a b Q hφ H locs ls C hl hH hN h1 h2 hS => by
  subst hφ
  exact lv_sipush C.1 C.2.1 hd (of_decide_eq_true hv) (z_to kk C hl hH hN h1 h2 hS)
theorem z_lconst0 (hd : decode μ.1 pc = .ok (.lconst 0, 1)) (kk : Zt l g φ μ (pc + 1) L (vL 0 :: st) M) : Zt l g φ μ pc L st M := z_of fun p e s m args below meth c R a b Q hφ H locs ls C hl hH hN h1 h2 hS => by
  subst hφ
  exact lv_lconst (v := Int64.ofInt 0) C.1 C.2.1 hd (by decide +kernel) (z_to kk C hl hH hN h1 h2 hS)
theorem z_ldc {n : Int} {index : Nat} (hd : decode μ.1 pc = .ok (.ldc index, 2)) (hw : Cond.constant μ.2.1 index (Int32.ofInt n) ∈ lw_g) (kk : Zt l g φ μ (pc + 2) L (vI n :: st) M) : Zt l g φ μ pc L st M := z_of fun p e s m args below meth c R a b Q hφ H locs ls C hl hH hN h1 h2 hS => by
  subst hφ
  exact lv_ldc C.1 C.2.1 C.2.2.2.1 (C.2.2.2.2.1 _ hw) hd (z_to kk C hl hH hN h1 h2 hS)
theorem z_ldcw {n : Int} {index : Nat} (hd : decode μ.1 pc = .ok (.ldc_w index, 3)) (hw : Cond.constant μ.2.1 index (Int32.ofInt n) ∈ lw_g) (kk : Zt l g φ μ (pc + 3) L (vI n :: st) M) : Zt l g φ μ pc L st M := z_of fun p e s m args below meth c R a b Q hφ H locs ls C hl hH hN h1 h2 hS => by
  subst hφ
  exact lv_ldcw C.1 C.2.1 C.2.2.2.1 (C.2.2.2.2.1 _ hw) hd (z_to kk C hl hH hN h1 h2 hS)
theorem z_ldc2 {n : Int} {index : Nat} (hd : decode μ.1 pc = .ok (.ldc2_w index, 3)) (hw : Cond.constantLong μ.2.1 index (Int64.ofInt n) ∈ lw_g) (kk : Zt l g φ μ (pc + 3) L (vL n :: st) M) : Zt l g φ μ pc L st M := z_of fun p e s m args below meth c R a b Q hφ H locs ls C hl hH hN h1 h2 hS => by
  subst hφ
  exact lv_ldc2 C.1 C.2.1 C.2.2.2.1 (C.2.2.2.2.1 _ hw) hd (z_to kk C hl hH hN h1 h2 hS)
theorem vI_w32 (x : Int) : vI (w32 x) = .int (Int32.ofInt x) := by unfold vI; rw [ofI_w32]
theorem z_iadd {x y : Int} (hd : decode μ.1 pc = .ok (.iadd, 1)) (kk : Zt l g φ μ (pc + 1) L (vI (w32 (x + y)) :: st) M) : Zt l g φ μ pc L (vI y :: vI x :: st) M := z_of fun p e s m args below meth c R a b Q hφ H locs ls C hl hH hN h1 h2 hS => by
  subst hφ
  have k := z_to kk C hl hH hN h1 h2 hS
  rw [vI_w32, Int32.ofInt_add] at k
  exact lv_iadd C.1 C.2.1 hd k
theorem z_isub {x y : Int} (hd : decode μ.1 pc = .ok (.isub, 1)) (kk : Zt l g φ μ (pc + 1) L (vI (w32 (x - y)) :: st) M) : Zt l g φ μ pc L (vI y :: vI x :: st) M := z_of fun p e s m args below meth c R a b Q hφ H locs ls C hl hH hN h1 h2 hS => by
  subst hφ
  have k := z_to kk C hl hH hN h1 h2 hS
  rw [vI_w32, Int32.ofInt_sub] at k
  exact lv_isub C.1 C.2.1 hd k
theorem z_imul {x y : Int} (hd : decode μ.1 pc = .ok (.imul, 1)) (kk : Zt l g φ μ (pc + 1) L (vI (w32 (x * y)) :: st) M) : Zt l g φ μ pc L (vI y :: vI x :: st) M := z_of fun p e s m args below meth c R a b Q hφ H locs ls C hl hH hN h1 h2 hS => by
  subst hφ
  have k := z_to kk C hl hH hN h1 h2 hS
  rw [vI_w32, Int32.ofInt_mul] at k
  exact lv_imul C.1 C.2.1 hd k
theorem z_ineg {x : Int} (hd : decode μ.1 pc = .ok (.ineg, 1)) (kk : Zt l g φ μ (pc + 1) L (vI (w32 (-x)) :: st) M) : Zt l g φ μ pc L (vI x :: st) M := z_of fun p e s m args below meth c R a b Q hφ H locs ls C hl hH hN h1 h2 hS => by
  subst hφ
  have k := z_to kk C hl hH hN h1 h2 hS
  rw [vI_w32, Int32.ofInt_neg] at k
  exact lv_ineg C.1 C.2.1 hd k
def div32 (x y : Int) : Int := (Int32.ofInt x / Int32.ofInt y).toInt
def rem32 (x y : Int) : Int := (Int32.ofInt x - Int32.ofInt x / Int32.ofInt y * Int32.ofInt y).toInt
def and32 (x y : Int) : Int := (Int32.ofInt x &&& Int32.ofInt y).toInt
def or32 (x y : Int) : Int := (Int32.ofInt x ||| Int32.ofInt y).toInt
def xor32 (x y : Int) : Int := (Int32.ofInt x ^^^ Int32.ofInt y).toInt
def shl32 (x y : Int) : Int := (Int32.ofInt x <<< (Int32.ofInt y &&& 31)).toInt
def shr32 (x y : Int) : Int := (Int32.ofInt x >>> (Int32.ofInt y &&& 31)).toInt
def ushr32 (x y : Int) : Int := ((Int32.ofInt x).toUInt32 >>> ((Int32.ofInt y).toUInt32 &&& Int32.toUInt32 31)).toInt32.toInt
def b8 (x : Int) : Int := ((Int32.ofInt x).toInt8.toInt32).toInt
def c16 (x : Int) : Int := ((Int32.ofInt x).toUInt32 % 65536).toInt32.toInt
def cmp64 (x y : Int) : Int := (lg_cmp (Int64.ofInt x) (Int64.ofInt y)).toInt
def i2l (x : Int) : Int := (Int32.ofInt x).toInt64.toInt
theorem vI_toInt (x : Int32) : vI x.toInt = .int x := by unfold vI; rw [Int32.ofInt_toInt]
theorem vL_toInt (x : Int64) : vL x.toInt = .long x := by unfold vL; rw [Int64.ofInt_toInt]
theorem z_idiv {x y : Int} (hd : decode μ.1 pc = .ok (.idiv, 1)) (hy : inR y) (h0 : ¬ y = 0) (kk : Zt l g φ μ (pc + 1) L (vI (div32 x y) :: st) M) : Zt l g φ μ pc L (vI y :: vI x :: st) M := z_of fun p e s m args below meth c R a b Q hφ H locs ls C hl hH hN h1 h2 hS => by
  subst hφ
  have k := z_to kk C hl hH hN h1 h2 hS
  rw [div32, vI_toInt] at k
  exact lv_idiv C.1 C.2.1 hd (fun h => h0 (ofI_inj hy inR_0 (by rw [h, ofI_0]))) k
theorem z_irem {x y : Int} (hd : decode μ.1 pc = .ok (.irem, 1)) (hy : inR y) (h0 : ¬ y = 0) (kk : Zt l g φ μ (pc + 1) L (vI (rem32 x y) :: st) M) : Zt l g φ μ pc L (vI y :: vI x :: st) M := z_of fun p e s m args below meth c R a b Q hφ H locs ls C hl hH hN h1 h2 hS => by
  subst hφ
  have k := z_to kk C hl hH hN h1 h2 hS
  rw [rem32, vI_toInt] at k
  exact lv_irem C.1 C.2.1 hd (fun h => h0 (ofI_inj hy inR_0 (by rw [h, ofI_0]))) k
theorem z_iand {x y : Int} (hd : decode μ.1 pc = .ok (.iand, 1)) (kk : Zt l g φ μ (pc + 1) L (vI (and32 x y) :: st) M) : Zt l g φ μ pc L (vI y :: vI x :: st) M := z_of fun p e s m args below meth c R a b Q hφ H locs ls C hl hH hN h1 h2 hS => by
  subst hφ
  have k := z_to kk C hl hH hN h1 h2 hS
  rw [and32, vI_toInt] at k
  exact lv_iand C.1 C.2.1 hd k
theorem z_ior {x y : Int} (hd : decode μ.1 pc = .ok (.ior, 1)) (kk : Zt l g φ μ (pc + 1) L (vI (or32 x y) :: st) M) : Zt l g φ μ pc L (vI y :: vI x :: st) M := z_of fun p e s m args below meth c R a b Q hφ H locs ls C hl hH hN h1 h2 hS => by
  subst hφ
  have k := z_to kk C hl hH hN h1 h2 hS
  rw [or32, vI_toInt] at k
  exact lv_ior C.1 C.2.1 hd k
theorem z_ixor {x y : Int} (hd : decode μ.1 pc = .ok (.ixor, 1)) (kk : Zt l g φ μ (pc + 1) L (vI (xor32 x y) :: st) M) : Zt l g φ μ pc L (vI y :: vI x :: st) M := z_of fun p e s m args below meth c R a b Q hφ H locs ls C hl hH hN h1 h2 hS => by
  subst hφ
  have k := z_to kk C hl hH hN h1 h2 hS
  rw [xor32, vI_toInt] at k
  exact lv_ixor C.1 C.2.1 hd k
theorem z_ishl {x y : Int} (hd : decode μ.1 pc = .ok (.ishl, 1)) (kk : Zt l g φ μ (pc + 1) L (vI (shl32 x y) :: st) M) : Zt l g φ μ pc L (vI y :: vI x :: st) M := z_of fun p e s m args below meth c R a b Q hφ H locs ls C hl hH hN h1 h2 hS => by
  subst hφ
  have k := z_to kk C hl hH hN h1 h2 hS
  rw [shl32, vI_toInt] at k
  exact lv_ishl C.1 C.2.1 hd k
theorem z_ishr {x y : Int} (hd : decode μ.1 pc = .ok (.ishr, 1)) (kk : Zt l g φ μ (pc + 1) L (vI (shr32 x y) :: st) M) : Zt l g φ μ pc L (vI y :: vI x :: st) M := z_of fun p e s m args below meth c R a b Q hφ H locs ls C hl hH hN h1 h2 hS => by
  subst hφ
  have k := z_to kk C hl hH hN h1 h2 hS
  rw [shr32, vI_toInt] at k
  exact lv_ishr C.1 C.2.1 hd k
theorem z_iushr {x y : Int} (hd : decode μ.1 pc = .ok (.iushr, 1)) (kk : Zt l g φ μ (pc + 1) L (vI (ushr32 x y) :: st) M) : Zt l g φ μ pc L (vI y :: vI x :: st) M := z_of fun p e s m args below meth c R a b Q hφ H locs ls C hl hH hN h1 h2 hS => by
  subst hφ
  have k := z_to kk C hl hH hN h1 h2 hS
  rw [ushr32, vI_toInt] at k
  exact lv_iushr C.1 C.2.1 hd rfl k
theorem z_i2b {x : Int} (hd : decode μ.1 pc = .ok (.i2b, 1)) (kk : Zt l g φ μ (pc + 1) L (vI (b8 x) :: st) M) : Zt l g φ μ pc L (vI x :: st) M := z_of fun p e s m args below meth c R a b Q hφ H locs ls C hl hH hN h1 h2 hS => by
  subst hφ
  have k := z_to kk C hl hH hN h1 h2 hS
  rw [b8, vI_toInt] at k
  exact lv_i2b C.1 C.2.1 hd rfl k
theorem z_i2c {x : Int} (hd : decode μ.1 pc = .ok (.i2c, 1)) (kk : Zt l g φ μ (pc + 1) L (vI (c16 x) :: st) M) : Zt l g φ μ pc L (vI x :: st) M := z_of fun p e s m args below meth c R a b Q hφ H locs ls C hl hH hN h1 h2 hS => by
  subst hφ
  have k := z_to kk C hl hH hN h1 h2 hS
  rw [c16, vI_toInt] at k
  exact lv_i2c C.1 C.2.1 hd rfl k
theorem z_i2l {x : Int} (hd : decode μ.1 pc = .ok (.i2l, 1)) (kk : Zt l g φ μ (pc + 1) L (vL (i2l x) :: st) M) : Zt l g φ μ pc L (vI x :: st) M := z_of fun p e s m args below meth c R a b Q hφ H locs ls C hl hH hN h1 h2 hS => by
  subst hφ
  have k := z_to kk C hl hH hN h1 h2 hS
  rw [i2l, vL_toInt] at k
  exact lv_i2l C.1 C.2.1 hd rfl k
theorem vL_w64 (x : Int) : vL (w64 x) = .long (Int64.ofInt x) := by unfold vL; rw [ofL_w64]
theorem z_ladd {x y : Int} (hd : decode μ.1 pc = .ok (.ladd, 1)) (kk : Zt l g φ μ (pc + 1) L (vL (w64 (x + y)) :: st) M) : Zt l g φ μ pc L (vL y :: vL x :: st) M := z_of fun p e s m args below meth c R a b Q hφ H locs ls C hl hH hN h1 h2 hS => by
  subst hφ
  have k := z_to kk C hl hH hN h1 h2 hS
  rw [vL_w64, Int64.ofInt_add] at k
  exact lv_ladd C.1 C.2.1 hd k
theorem z_lmul {x y : Int} (hd : decode μ.1 pc = .ok (.lmul, 1)) (kk : Zt l g φ μ (pc + 1) L (vL (w64 (x * y)) :: st) M) : Zt l g φ μ pc L (vL y :: vL x :: st) M := z_of fun p e s m args below meth c R a b Q hφ H locs ls C hl hH hN h1 h2 hS => by
  subst hφ
  have k := z_to kk C hl hH hN h1 h2 hS
  rw [vL_w64, Int64.ofInt_mul] at k
  exact lv_lmul C.1 C.2.1 hd k
theorem z_lcmp {x y : Int} (hd : decode μ.1 pc = .ok (.lcmp, 1)) (kk : Zt l g φ μ (pc + 1) L (vI (cmp64 x y) :: st) M) : Zt l g φ μ pc L (vL y :: vL x :: st) M := z_of fun p e s m args below meth c R a b Q hφ H locs ls C hl hH hN h1 h2 hS => by
  subst hφ
  have k := z_to kk C hl hH hN h1 h2 hS
  rw [cmp64, vI_toInt] at k
  exact W.lcmp C.1 C.2.1 hd k
theorem z_dup {v : Value} (hd : decode μ.1 pc = .ok (.dup, 1)) (hv : v.category = 1) (kk : Zt l g φ μ (pc + 1) L (v :: v :: st) M) : Zt l g φ μ pc L (v :: st) M := z_of fun p e s m args below meth c R a b Q hφ H locs ls C hl hH hN h1 h2 hS => by
  subst hφ
  exact lv_dup C.1 C.2.1 hd hv (z_to kk C hl hH hN h1 h2 hS)
theorem z_dup2 {v w : Value} (hd : decode μ.1 pc = .ok (.dup2, 1)) (hv : v.category = 1) (hw : w.category = 1) (kk : Zt l g φ μ (pc + 1) L (v :: w :: v :: w :: st) M) : Zt l g φ μ pc L (v :: w :: st) M := z_of fun p e s m args below meth c R a b Q hφ H locs ls C hl hH hN h1 h2 hS => by
  subst hφ
  exact lv_dup2_11 C.1 C.2.1 hd hv hw (z_to kk C hl hH hN h1 h2 hS)
theorem z_pop {v : Value} (hd : decode μ.1 pc = .ok (.pop, 1)) (hv : v.category = 1) (kk : Zt l g φ μ (pc + 1) L st M) : Zt l g φ μ pc L (v :: st) M := z_of fun p e s m args below meth c R a b Q hφ H locs ls C hl hH hN h1 h2 hS => by
  subst hφ
  exact lv_pop C.1 C.2.1 hd hv (z_to kk C hl hH hN h1 h2 hS)
theorem z_goto {off : Int} {tgt : Nat} (hd : decode μ.1 pc = .ok (.goto off, 3)) (ht : (pc : Int) + off = (tgt : Int)) (kk : Zt l g φ μ tgt L st M) : Zt l g φ μ pc L st M := z_of fun p e s m args below meth c R a b Q hφ H locs ls C hl hH hN h1 h2 hS => by
  subst hφ
  exact lv_goto C.1 C.2.1 hd ht (z_to kk C hl hH hN h1 h2 hS)
theorem z_icmp_eq {x y off : Int} {tgt : Nat} (hd : decode μ.1 pc = .ok (.if_icmp .eq off, 3)) (ht : (pc : Int) + off = (tgt : Int)) (hx : inR x) (hy : inR y) (kt : x = y → Zt l g φ μ tgt L st M) (kf : ¬ (x = y) → Zt l g φ μ (pc + 3) L st M) : Zt l g φ μ pc L (vI y :: vI x :: st) M := z_of fun p e s m args below meth c R a b Q hφ H locs ls C hl hH hN h1 h2 hS => by
  subst hφ
  have hi : Int32.ofInt x = Int32.ofInt y ↔ x = y := ofI_eq hx hy
  exact lv_icmp_eq C.1 C.2.1 hd ht (fun z => z_to (kt (hi.mp z)) C hl hH hN h1 h2 hS) (fun z => z_to (kf (fun q => z (hi.mpr q))) C hl hH hN h1 h2 hS)
theorem z_if_eq {x off : Int} {tgt : Nat} (hd : decode μ.1 pc = .ok (.ifCond .eq off, 3)) (ht : (pc : Int) + off = (tgt : Int)) (hx : inR x) (kt : x = 0 → Zt l g φ μ tgt L st M) (kf : ¬ (x = 0) → Zt l g φ μ (pc + 3) L st M) : Zt l g φ μ pc L (vI x :: st) M := z_of fun p e s m args below meth c R a b Q hφ H locs ls C hl hH hN h1 h2 hS => by
  subst hφ
  have hi : Int32.ofInt x = (0 : Int32) ↔ x = 0 := by rw [ofI_0]; exact ofI_eq hx inR_0
  exact lv_if_eq C.1 C.2.1 hd ht (fun z => z_to (kt (hi.mp z)) C hl hH hN h1 h2 hS) (fun z => z_to (kf (fun q => z (hi.mpr q))) C hl hH hN h1 h2 hS)
theorem z_icmp_ne {x y off : Int} {tgt : Nat} (hd : decode μ.1 pc = .ok (.if_icmp .ne off, 3)) (ht : (pc : Int) + off = (tgt : Int)) (hx : inR x) (hy : inR y) (kt : ¬ x = y → Zt l g φ μ tgt L st M) (kf : x = y → Zt l g φ μ (pc + 3) L st M) : Zt l g φ μ pc L (vI y :: vI x :: st) M := z_of fun p e s m args below meth c R a b Q hφ H locs ls C hl hH hN h1 h2 hS => by
  subst hφ
  have hi : ¬ Int32.ofInt x = Int32.ofInt y ↔ ¬ x = y := not_congr (ofI_eq hx hy)
  exact lv_icmp_ne C.1 C.2.1 hd ht (fun z => z_to (kt (hi.mp z)) C hl hH hN h1 h2 hS) (fun z => z_to (kf (Decidable.of_not_not (fun q => hi.mpr q z))) C hl hH hN h1 h2 hS)
theorem z_if_ne {x off : Int} {tgt : Nat} (hd : decode μ.1 pc = .ok (.ifCond .ne off, 3)) (ht : (pc : Int) + off = (tgt : Int)) (hx : inR x) (kt : ¬ x = 0 → Zt l g φ μ tgt L st M) (kf : x = 0 → Zt l g φ μ (pc + 3) L st M) : Zt l g φ μ pc L (vI x :: st) M := z_of fun p e s m args below meth c R a b Q hφ H locs ls C hl hH hN h1 h2 hS => by
  subst hφ
  have hi : ¬ Int32.ofInt x = (0 : Int32) ↔ ¬ x = 0 := by rw [ofI_0]; exact not_congr (ofI_eq hx inR_0)
  exact lv_if_ne C.1 C.2.1 hd ht (fun z => z_to (kt (hi.mp z)) C hl hH hN h1 h2 hS) (fun z => z_to (kf (Decidable.of_not_not (fun q => hi.mpr q z))) C hl hH hN h1 h2 hS)
theorem z_icmp_lt {x y off : Int} {tgt : Nat} (hd : decode μ.1 pc = .ok (.if_icmp .lt off, 3)) (ht : (pc : Int) + off = (tgt : Int)) (hx : inR x) (hy : inR y) (kt : x < y → Zt l g φ μ tgt L st M) (kf : ¬ (x < y) → Zt l g φ μ (pc + 3) L st M) : Zt l g φ μ pc L (vI y :: vI x :: st) M := z_of fun p e s m args below meth c R a b Q hφ H locs ls C hl hH hN h1 h2 hS => by
  subst hφ
  have hi : Int32.ofInt x < Int32.ofInt y ↔ x < y := ofI_lt hx hy
  exact lv_icmp_lt C.1 C.2.1 hd ht (fun z => z_to (kt (hi.mp z)) C hl hH hN h1 h2 hS) (fun z => z_to (kf (fun q => z (hi.mpr q))) C hl hH hN h1 h2 hS)
theorem z_if_lt {x off : Int} {tgt : Nat} (hd : decode μ.1 pc = .ok (.ifCond .lt off, 3)) (ht : (pc : Int) + off = (tgt : Int)) (hx : inR x) (kt : x < 0 → Zt l g φ μ tgt L st M) (kf : ¬ (x < 0) → Zt l g φ μ (pc + 3) L st M) : Zt l g φ μ pc L (vI x :: st) M := z_of fun p e s m args below meth c R a b Q hφ H locs ls C hl hH hN h1 h2 hS => by
  subst hφ
  have hi : Int32.ofInt x < (0 : Int32) ↔ x < 0 := by rw [ofI_0]; exact ofI_lt hx inR_0
  exact lv_if_lt C.1 C.2.1 hd ht (fun z => z_to (kt (hi.mp z)) C hl hH hN h1 h2 hS) (fun z => z_to (kf (fun q => z (hi.mpr q))) C hl hH hN h1 h2 hS)
theorem z_icmp_ge {x y off : Int} {tgt : Nat} (hd : decode μ.1 pc = .ok (.if_icmp .ge off, 3)) (ht : (pc : Int) + off = (tgt : Int)) (hx : inR x) (hy : inR y) (kt : y ≤ x → Zt l g φ μ tgt L st M) (kf : ¬ (y ≤ x) → Zt l g φ μ (pc + 3) L st M) : Zt l g φ μ pc L (vI y :: vI x :: st) M := z_of fun p e s m args below meth c R a b Q hφ H locs ls C hl hH hN h1 h2 hS => by
  subst hφ
  have hi : Int32.ofInt y ≤ Int32.ofInt x ↔ y ≤ x := ofI_le hy hx
  exact lv_icmp_ge C.1 C.2.1 hd ht (fun z => z_to (kt (hi.mp z)) C hl hH hN h1 h2 hS) (fun z => z_to (kf (fun q => z (hi.mpr q))) C hl hH hN h1 h2 hS)
theorem z_if_ge {x off : Int} {tgt : Nat} (hd : decode μ.1 pc = .ok (.ifCond .ge off, 3)) (ht : (pc : Int) + off = (tgt : Int)) (hx : inR x) (kt : 0 ≤ x → Zt l g φ μ tgt L st M) (kf : ¬ (0 ≤ x) → Zt l g φ μ (pc + 3) L st M) : Zt l g φ μ pc L (vI x :: st) M := z_of fun p e s m args below meth c R a b Q hφ H locs ls C hl hH hN h1 h2 hS => by
  subst hφ
  have hi : (0 : Int32) ≤ Int32.ofInt x ↔ 0 ≤ x := by rw [ofI_0]; exact ofI_le inR_0 hx
  exact lv_if_ge C.1 C.2.1 hd ht (fun z => z_to (kt (hi.mp z)) C hl hH hN h1 h2 hS) (fun z => z_to (kf (fun q => z (hi.mpr q))) C hl hH hN h1 h2 hS)
theorem z_icmp_gt {x y off : Int} {tgt : Nat} (hd : decode μ.1 pc = .ok (.if_icmp .gt off, 3)) (ht : (pc : Int) + off = (tgt : Int)) (hx : inR x) (hy : inR y) (kt : y < x → Zt l g φ μ tgt L st M) (kf : ¬ (y < x) → Zt l g φ μ (pc + 3) L st M) : Zt l g φ μ pc L (vI y :: vI x :: st) M := z_of fun p e s m args below meth c R a b Q hφ H locs ls C hl hH hN h1 h2 hS => by
  subst hφ
  have hi : Int32.ofInt y < Int32.ofInt x ↔ y < x := ofI_lt hy hx
  exact lv_icmp_gt C.1 C.2.1 hd ht (fun z => z_to (kt (hi.mp z)) C hl hH hN h1 h2 hS) (fun z => z_to (kf (fun q => z (hi.mpr q))) C hl hH hN h1 h2 hS)
theorem z_if_gt {x off : Int} {tgt : Nat} (hd : decode μ.1 pc = .ok (.ifCond .gt off, 3)) (ht : (pc : Int) + off = (tgt : Int)) (hx : inR x) (kt : 0 < x → Zt l g φ μ tgt L st M) (kf : ¬ (0 < x) → Zt l g φ μ (pc + 3) L st M) : Zt l g φ μ pc L (vI x :: st) M := z_of fun p e s m args below meth c R a b Q hφ H locs ls C hl hH hN h1 h2 hS => by
  subst hφ
  have hi : (0 : Int32) < Int32.ofInt x ↔ 0 < x := by rw [ofI_0]; exact ofI_lt inR_0 hx
  exact lv_if_gt C.1 C.2.1 hd ht (fun z => z_to (kt (hi.mp z)) C hl hH hN h1 h2 hS) (fun z => z_to (kf (fun q => z (hi.mpr q))) C hl hH hN h1 h2 hS)
theorem z_icmp_le {x y off : Int} {tgt : Nat} (hd : decode μ.1 pc = .ok (.if_icmp .le off, 3)) (ht : (pc : Int) + off = (tgt : Int)) (hx : inR x) (hy : inR y) (kt : x ≤ y → Zt l g φ μ tgt L st M) (kf : ¬ (x ≤ y) → Zt l g φ μ (pc + 3) L st M) : Zt l g φ μ pc L (vI y :: vI x :: st) M := z_of fun p e s m args below meth c R a b Q hφ H locs ls C hl hH hN h1 h2 hS => by
  subst hφ
  have hi : Int32.ofInt x ≤ Int32.ofInt y ↔ x ≤ y := ofI_le hx hy
  exact lv_icmp_le C.1 C.2.1 hd ht (fun z => z_to (kt (hi.mp z)) C hl hH hN h1 h2 hS) (fun z => z_to (kf (fun q => z (hi.mpr q))) C hl hH hN h1 h2 hS)
theorem z_if_le {x off : Int} {tgt : Nat} (hd : decode μ.1 pc = .ok (.ifCond .le off, 3)) (ht : (pc : Int) + off = (tgt : Int)) (hx : inR x) (kt : x ≤ 0 → Zt l g φ μ tgt L st M) (kf : ¬ (x ≤ 0) → Zt l g φ μ (pc + 3) L st M) : Zt l g φ μ pc L (vI x :: st) M := z_of fun p e s m args below meth c R a b Q hφ H locs ls C hl hH hN h1 h2 hS => by
  subst hφ
  have hi : Int32.ofInt x ≤ (0 : Int32) ↔ x ≤ 0 := by rw [ofI_0]; exact ofI_le hx inR_0
  exact lv_if_le C.1 C.2.1 hd ht (fun z => z_to (kt (hi.mp z)) C hl hH hN h1 h2 hS) (fun z => z_to (kf (fun q => z (hi.mpr q))) C hl hH hN h1 h2 hS)
end ROWS
