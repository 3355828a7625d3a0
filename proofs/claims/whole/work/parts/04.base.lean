/-! the base: a pure picture of the heap (numbers of cells from 1 on; ints, longs, references by cell and place), and one judgement Zt over it -/
abbrev PW : Type := Nat × (Nat → Nat → Int) × (Nat → Nat → Int) × (Nat → Nat → Nat)
def inR (x : Int) : Prop := -2147483648 ≤ x ∧ x ≤ 2147483647
def inL (x : Int) : Prop := -9223372036854775808 ≤ x ∧ x ≤ 9223372036854775807
def w32 (x : Int) : Int := (Int32.ofInt x).toInt
def w64 (x : Int) : Int := (Int64.ofInt x).toInt
theorem w32_eq {x : Int} (h : inR x) : w32 x = x := by
  unfold w32
  exact Int32.toInt_ofInt_of_le (by have := h.1; omega) (by have := h.2; omega)
theorem inR_toInt (x : Int32) : inR x.toInt := ⟨by have := x.le_toInt; omega, by have := x.toInt_lt; omega⟩
theorem inR_w32 (x : Int) : inR (w32 x) := inR_toInt _
theorem ofI_w32 (x : Int) : Int32.ofInt (w32 x) = Int32.ofInt x := Int32.ofInt_toInt _
theorem w64_eq {x : Int} (h : inL x) : w64 x = x := by
  unfold w64
  exact Int64.toInt_ofInt_of_le (by have := h.1; omega) (by have := h.2; omega)
theorem inL_toInt (x : Int64) : inL x.toInt := ⟨by have := x.le_toInt; omega, by have := x.toInt_lt; omega⟩
theorem inL_w64 (x : Int) : inL (w64 x) := inL_toInt _
theorem ofL_w64 (x : Int) : Int64.ofInt (w64 x) = Int64.ofInt x := Int64.ofInt_toInt _
theorem ofI_inj {x y : Int} (hx : inR x) (hy : inR y) (h : Int32.ofInt x = Int32.ofInt y) : x = y := by
  have h2 := congrArg Int32.toInt h
  have e1 := w32_eq hx
  have e2 := w32_eq hy
  unfold w32 at e1 e2
  rw [e1, e2] at h2
  exact h2
theorem ofI_toInt {x : Int} (hx : inR x) : (Int32.ofInt x).toInt = x := w32_eq hx
theorem ofI_eq {x y : Int} (hx : inR x) (hy : inR y) : Int32.ofInt x = Int32.ofInt y ↔ x = y := ⟨ofI_inj hx hy, fun h => by rw [h]⟩
theorem ofI_lt {x y : Int} (hx : inR x) (hy : inR y) : Int32.ofInt x < Int32.ofInt y ↔ x < y := by rw [Int32.lt_iff_toInt_lt, ofI_toInt hx, ofI_toInt hy]
theorem ofI_le {x y : Int} (hx : inR x) (hy : inR y) : Int32.ofInt x ≤ Int32.ofInt y ↔ x ≤ y := by rw [Int32.le_iff_toInt_le, ofI_toInt hx, ofI_toInt hy]
theorem inR_0 : inR 0 := by unfold inR; omega
theorem ofI_0 : (0 : Int32) = Int32.ofInt 0 := by decide +kernel
theorem clamp_ofI {x : Int} (hx : inR x) : (Int32.ofInt x).toNatClampNeg = x.toNat := by
  show (Int32.ofInt x).toInt.toNat = _
  rw [ofI_toInt hx]
theorem vp_in_ofI {x : Int} {n : Nat} (hx : inR x) (h0 : 0 ≤ x) (h1 : x < n) : vp_in (Int32.ofInt x) n := by
  rintro (h | h)
  · rw [ofI_0, ofI_lt hx inR_0] at h
    omega
  · rw [clamp_ofI hx] at h
    omega
def vI (x : Int) : Value := .int (Int32.ofInt x)
def vL (x : Int) : Value := .long (Int64.ofInt x)
abbrev GX : Type := va_G × (Nat → ClassId) × Nat × (Nat → Nat)
abbrev vR (g : GX) (r : Nat) : Value := .ref (g.2.2.1 + r)
def qR (g : GX) (r : Nat) : Option Nat := if r = 0 then none else some (g.2.2.1 + r)
def fv (g : GX) (M : PW) (r c j : Nat) : Value := if FK c j = true then va_rf (qR g (M.2.2.2 r j)) else vI (M.2.1 r j)
def elt (g : GX) (M : PW) (r : Nat) : va_E :=
  if (SH r).1 < 12 then .inr ((SH r).1, (List.range (SH r).2).map (fv g M r (SH r).1))
  else if (SH r).1 < 23 then .inl (g.2.1 ((SH r).1 - 20), (SH r).2, .inl (fun j => Int32.ofInt (M.2.1 r j)))
  else if (SH r).1 = 23 then .inl (g.2.1 3, (SH r).2, .inr (.inl (fun j => Int64.ofInt (M.2.2.1 r j))))
  else .inl (g.2.1 ((SH r).1 - 20), (SH r).2, .inr (.inr (.inr (.inr (fun j => qR g (M.2.2.2 r j))))))
def tyl (g : GX) : List (ClassId × FieldType) := [(g.2.1 0, .int), (g.2.1 1, .byte), (g.2.1 2, .boolean), (g.2.1 3, .long), (g.2.1 4, .object "FarewellStones$Bed"), (g.2.1 5, .array .int)]
def wl (g : GX) (M : PW) : va_W := (List.range M.1).map (fun i => (g.2.2.1 + (i + 1), elt g M (i + 1)))
def AA (g : GX) : Nat → Prop := fun q => g.2.2.1 < q
def up2 {α : Type} (f : Nat → Nat → α) (a k : Nat) (v : α) : Nat → Nat → α := fun x y => if x = a ∧ y = k then v else f x y
theorem up2_same {α : Type} {f : Nat → Nat → α} {a k : Nat} {v : α} : up2 f a k v a k = v := if_pos ⟨rfl, rfl⟩
theorem up2_ne {α : Type} {f : Nat → Nat → α} {a k x y : Nat} {v : α} (h : x ≠ a ∨ y ≠ k) : up2 f a k v x y = f x y := if_neg (fun z => h.elim (fun q => q z.1) (fun q => q z.2))
theorem wl_get {g : GX} {M : PW} {r : Nat} (h1 : 0 < r) (h2 : r ≤ M.1) : (wl g M)[r - 1]? = some (g.2.2.1 + r, elt g M r) := by
  unfold wl
  rw [List.getElem?_map, List.getElem?_range (by omega)]
  have : r - 1 + 1 = r := by omega
  simp [this]
theorem wl_at {g : GX} {M : PW} {k : Nat} {q : Nat × va_E} (h : (wl g M)[k]? = some q) : k < M.1 ∧ q = (g.2.2.1 + (k + 1), elt g M (k + 1)) := by
  unfold wl at h
  rw [List.getElem?_map] at h
  by_cases hk : k < M.1
  · rw [List.getElem?_range hk] at h
    exact ⟨hk, (Option.some.inj h).symm⟩
  · rw [List.getElem?_eq_none (by rw [List.length_range]; omega)] at h
    cases h
theorem wl_D (g : GX) (M : PW) : va_D (AA g) (wl g M) := by
  refine ⟨fun i j p q hi hj h => ?_, fun k q hk => ?_⟩
  · have h1 := (wl_at hi).2
    have h2 := (wl_at hj).2
    rw [h1, h2] at h
    have h3 : g.2.2.1 + (i + 1) = g.2.2.1 + (j + 1) := h
    omega
  · have h1 := (wl_at hk).2
    rw [h1]
    show g.2.2.1 < g.2.2.1 + (k + 1)
    omega
theorem wl_set {g : GX} {M M' : PW} {r : Nat} (h1 : 0 < r) (h2 : r ≤ M.1) (hz : M'.1 = M.1) (he : ∀ q, q ≠ r → elt g M' q = elt g M q) : (wl g M).set (r - 1) (g.2.2.1 + r, elt g M' r) = wl g M' := by
  apply List.ext_getElem?
  intro k
  by_cases hk : k = r - 1
  · subst hk
    have hl : r - 1 < (wl g M).length := by simp [wl]; omega
    rw [List.getElem?_set_self hl, wl_get (M := M') h1 (by omega)]
  · rw [List.getElem?_set_ne (Ne.symm hk)]
    by_cases hk2 : k < M.1
    · have e : ∀ N : PW, N.1 = M.1 → (wl g N)[k]? = some (g.2.2.1 + (k + 1), elt g N (k + 1)) := fun N hN => wl_get (M := N) (r := k + 1) (by omega) (by omega)
      rw [e M rfl, e M' hz, he (k + 1) (by omega)]
    · rw [List.getElem?_eq_none (by simp [wl]; omega), List.getElem?_eq_none (by simp [wl]; omega)]
theorem elt_off {g : GX} {M M' : PW} {q : Nat} (hi : M'.2.1 q = M.2.1 q) (hj : M'.2.2.1 q = M.2.2.1 q) (hg : M'.2.2.2 q = M.2.2.2 q) : elt g M' q = elt g M q := by
  have e : fv g M' q (SH q).1 = fv g M q (SH q).1 := by funext j; simp only [fv, hi, hg]
  simp only [elt, e, hi, hj, hg]
theorem up2_off {α : Type} {f : Nat → Nat → α} {a k q : Nat} {v : α} (h : q ≠ a) : up2 f a k v q = f q := by
  funext y
  exact up2_ne (Or.inl h)
theorem elt_obj {g : GX} {M : PW} {r c n : Nat} (h : SH r = (c, n)) (hc : c < 12) : elt g M r = .inr (c, (List.range n).map (fv g M r c)) := by
  unfold elt
  rw [h]
  exact if_pos hc
theorem elt_arr {g : GX} {M : PW} {r c n : Nat} (h : SH r = (c, n)) (h1 : 20 ≤ c) (h2 : c < 23) : elt g M r = .inl (g.2.1 (c - 20), n, .inl (fun j => Int32.ofInt (M.2.1 r j))) := by
  unfold elt
  rw [h]
  rw [if_neg (by omega), if_pos h2]
theorem elt_lng {g : GX} {M : PW} {r n : Nat} (h : SH r = (23, n)) : elt g M r = .inl (g.2.1 3, n, .inr (.inl (fun j => Int64.ofInt (M.2.2.1 r j)))) := by
  unfold elt
  rw [h]
  rfl
theorem elt_ref {g : GX} {M : PW} {r c n : Nat} (h : SH r = (c, n)) (h1 : 24 ≤ c) : elt g M r = .inl (g.2.1 (c - 20), n, .inr (.inr (.inr (.inr (fun j => qR g (M.2.2.2 r j)))))) := by
  unfold elt
  rw [h, if_neg (by omega), if_neg (by omega), if_neg (by omega)]
def WH (g : GX) (M : PW) (H : Heap) : Prop := H.size = g.2.2.1 + 1 + M.1 ∧ va_P g.1 vwCl (wl g M) H
def NM (M : PW) : Prop := (∀ a k, inR (M.2.1 a k)) ∧ ∀ a k, inL (M.2.2.1 a k)
def LXL : List Int := [0, -1, 1, 0, 0, -1, 1, -2, 2, -1, 1, 0, 0, -1, 1, -2, 2, -3, 3, -2, 2, -1, 1, 0, 0, -1, 1, -2, 2, -3, 3, -4, 4, -3, 3, -2, 2, -1, 1, 0]
def LYL : List Int := [-1, 0, 0, 1, -2, -1, -1, 0, 0, 1, 1, 2, -3, -2, -2, -1, -1, 0, 0, 1, 1, 2, 2, 3, -4, -3, -3, -2, -2, -1, -1, 0, 0, 1, 1, 2, 2, 3, 3, 4]
def LX (j : Nat) : Int := LXL.getD j 0
def LY (j : Nat) : Int := LYL.getD j 0
def WRD : String := "river depth flow  leap  leaverflood carry slip  if    then  else  stonesdeep  force moss  acrossalong "
def SGN : String := ";=+-*/<()"
def WRB : List Int32 := [114, 105, 118, 101, 114, 32, 100, 101, 112, 116, 104, 32, 102, 108, 111, 119, 32, 32, 108, 101, 97, 112, 32, 32, 108, 101, 97, 118, 101, 114, 102, 108, 111, 111, 100, 32, 99, 97, 114, 114, 121, 32, 115, 108, 105, 112, 32, 32, 105, 102, 32, 32, 32, 32, 116, 104, 101, 110, 32, 32, 101, 108, 115, 101, 32, 32, 115, 116, 111, 110, 101, 115, 100, 101, 101, 112, 32, 32, 102, 111, 114, 99, 101, 32, 109, 111, 115, 115, 32, 32, 97, 99, 114, 111, 115, 115, 97, 108, 111, 110, 103, 32]
def SGB : List Int32 := [59, 61, 43, 45, 42, 47, 60, 40, 41]
def isNestW : Cond → Bool
  | .fieldLinkNest .. => true
  | .methodLinkNest .. => true
  | .arrayOver (.object _) => true
  | .arrayOver (.array _) => true
  | _ => false
/-- the words that link a nest mate's members, and those of arrays of references -/
def lw_n : List Cond := lw_tbl.filter isNestW
def NW (U : State) : Prop := ∀ w ∈ lw_n, va_Nw w U
theorem ln_in {w : Cond} (h : w ∈ lw_tbl) (hg : isNestW w = true) : w ∈ lw_n := List.mem_filter.mpr ⟨h, hg⟩
theorem NW.on {s U : State} (h : NW s) (hW : s.WarmedH U.vm) : NW U := by
  intro w hw
  have h1 := h w hw
  have h2 := (List.mem_filter.mp hw).2
  cases w <;> first | exact va_Nw.warmF hW h1 | exact va_Nw.warmM hW h1 | (cases h2; done) | (rename_i ty; cases ty <;> first | exact va_AO.moved hW.alike h1 | exact over_moved hW.alike h1 | (cases h2; done))
theorem NW.same {s U : State} (h : NW s) (hv : s.vm = U.vm) : NW U := by
  intro w hw
  have h1 := h w hw
  have h2 := (List.mem_filter.mp hw).2
  cases w <;> first | exact va_Nw.same rfl hv h1 | (cases h2; done) | (rename_i ty; cases ty <;> first | exact va_AO.moved (by rw [hv]; exact Vm.Alike.refl _) h1 | exact over_moved (by rw [hv]; exact Vm.Alike.refl _) h1 | (cases h2; done))
/-- what nobody writes: the two tables of leaps, the two texts, the JDK's two statics -/
def ST (g : GX) (U : State) (H : Heap) : Prop :=
  va_Z "FarewellStones" "LEAP_X" "[I" (.ref (g.2.2.2 0)) (AA g) U H ∧ va_Z "FarewellStones" "LEAP_Y" "[I" (.ref (g.2.2.2 1)) (AA g) U H ∧ va_T .int (g.2.2.2 0) 40 (fun j => vI (LX j)) (AA g) U H ∧ va_T .int (g.2.2.2 1) 40 (fun j => vI (LY j)) (AA g) U H ∧
  vk_R "FarewellStones$Tokens" 69 WRD (g.2.2.2 2) U ∧ vk_R "FarewellStones$Tokens" 58 SGN (g.2.2.2 3) U ∧ vk_S 2 [102, 9] [WRB, SGB] (fun i => g.2.2.2 (2 + i)) (fun i => g.2.2.2 (4 + i)) (AA g) U H ∧
  va_Z "java/lang/String" "COMPACT_STRINGS" "Z" (.int 1) (AA g) U H ∧ va_Zq "jdk/internal/util/Preconditions" "SIOOBE_FORMATTER" "Ljava/util/function/BiFunction;" (AA g) U H ∧ NW U
theorem ST.on {g : GX} {s U : State} (h : ST g s s.heap) (hW : s.WarmedH U.vm) (hq : ∀ a : Nat, a < s.heap.size → ¬ AA g a → U.heap[a]? = s.heap[a]?) : ST g U U.heap := by
  obtain ⟨h1, h2, h3, h4, h5, h6, h7, h8, h9, h10⟩ := h
  have ha := hW.alike
  exact ⟨(h1.moved ha).kept hq, (h2.moved ha).kept hq, (h3.moved ha).kept hq, (h4.moved ha).kept hq, h5.warm hW, h6.warm hW, (h7.moved ha).kept hq, (h8.moved ha).kept hq, (h9.moved ha).kept hq, h10.on hW⟩
def WD (g : GX) (M : PW) (U : State) : Prop := WH g M U.heap ∧ NM M ∧ va_K g.1 vwCl (tyl g) U ∧ ST g U U.heap
def rm (d a b : Nat) : Room := { frames := d, cells := b - a, slots := SLT b - SLT a, locals := 60 * d }
def lw_g : List Cond := lw_tbl.filter goodWord
theorem lg_in {w : Cond} (h : w ∈ lw_tbl) (hg : goodWord w = true) : w ∈ lw_g := List.mem_filter.mpr ⟨h, hg⟩
def wsOf (y : MethodName) (cc : ByteArray) (nL : Nat) (ret : Option FieldType) : List Cond := Cond.code y cc nL ret :: lw_g
def QD (g : GX) (r : Option Value) (P : Prop) (M' : PW) : Array Value → State → Outcome → State → Prop := fun _ st o t => (o = .returned r ∧ P ∧ WD g M' t) ∧ va_F (AA g) st t
/-- a method's contract, at one picture of the heap: it returns r, P holds, the heap holds M' -/
def Spec (l : Launch) (g : GX) (d : Nat) (y : MethodName) (cc : ByteArray) (nL : Nat) (ret : Option FieldType) (avs : List Value) (M : PW) (r : Option Value) (P : Prop) (M' : PW) : Prop :=
  Met l y (wsOf y cc nL ret) (rm d M.1 M'.1) (va_Pc avs (WD g M)) (QD g r P M') (M'.1 - M.1) (SLT M'.1 - SLT M.1) (AA g)
abbrev CX : Type := Program × Env × State × MethodId × Array Value × List Frame × Method × Code × Room × Nat × Nat × (State → Prop)
abbrev MU : Type := ByteArray × String × Nat × Nat × String
def lok (ls : Array Slot) (nL : Nat) (L : List (Option Value)) : Prop := ls.size = nL ∧ lv_wf ls ∧ ∀ (i : Nat) (v : Value), L[i]? = some (some v) → ls[i]? = some (.val v)
def CF (g : GX) (φ : CX) (μ : MU) : Prop := match φ with
  | (p, e, s, m, args, below, meth, c, R, a, b, Q) => p.tables.exec = Jvm.exec ∧ c.code = μ.1 ∧ c.maxLocals = μ.2.2.1 ∧ s.vm.findClass μ.2.1 = some m.cls ∧ (∀ w ∈ lw_g, w.before args s = true) ∧ va_K g.1 vwCl (tyl g) s ∧ ST g s s.heap ∧ s.heap.size = g.2.2.1 + 1 + a ∧ meth.locks = false ∧ meth.name = μ.2.2.2.2 ∧ (μ.2.2.2.1 ≤ R.frames ∧ 60 * μ.2.2.2.1 ≤ R.locals ∧ b - a ≤ R.cells ∧ SLT b - SLT a ≤ R.slots)
def Zt (l : Launch) (g : GX) (φ : CX) (μ : MU) (pc : Nat) (L : List (Option Value)) (st : List Value) (M : PW) : Prop := match φ with
  | (p, e, s, m, args, below, meth, c, R, a, b, Q) => ∀ (H : Heap) (locs : List Loc) (ls : Array Slot), CF g (p, e, s, m, args, below, meth, c, R, a, b, Q) μ → lok ls μ.2.2.1 L → WH g M H → NM M → a ≤ M.1 → M.1 ≤ b → va_S (AA g) s.heap H locs →
      W p l e R s m args below meth c H locs (M.1 - a) (SLT M.1 - SLT a) Q (F0 m pc ls st)
def ends (g : GX) (φ : CX) (ret : Option FieldType) (r : Option Value) (P : Prop) (M' : PW) : Prop := match φ with
  | (_, _, s, _, args, below, meth, _, _, a, b, Q) => Q = MQ below (QD g r P M') args s (M'.1 - a) (SLT M'.1 - SLT a) (AA g) ∧ b = M'.1 ∧ meth.sig.returnType = ret
def cb (φ : CX) : Nat := φ.2.2.2.2.2.2.2.2.2.2.1
theorem take_sum_mono (l : List Nat) : ∀ {n m : Nat}, n ≤ m → (l.take n).sum ≤ (l.take m).sum := by
  induction l with
  | nil => intro n m h; simp
  | cons x t ih =>
    intro n m h
    cases n with
    | zero => simp
    | succ n =>
      cases m with
      | zero => omega
      | succ m =>
        have := ih (n := n) (m := m) (by omega)
        simp only [List.take_succ_cons, List.sum_cons]
        omega
theorem SLT_mono {n m : Nat} (h : n ≤ m) : SLT n ≤ SLT m := by
  unfold SLT
  rw [List.map_take, List.map_take]
  exact take_sum_mono _ (by omega)
theorem SLT_succ (n : Nat) : SLT (n + 1) = SLT n + (SH (n + 1)).2 ∨ SHL.length ≤ n + 1 := by
  by_cases h : n + 1 < SHL.length
  · left
    unfold SLT SH
    rw [List.take_succ_eq_append_getElem h, List.map_append, List.sum_append]
    have : SHL.getD (n + 1) (99, 0) = SHL[n + 1] := by simp [List.getD, h]
    rw [this]
    simp
  · right; omega
