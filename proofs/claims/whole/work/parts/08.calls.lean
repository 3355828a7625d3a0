section CALLS
variable {l : Launch} {g : GX} {φ : CX} {μ : MU} {pc : Nat} {L : List (Option Value)} {st : List Value} {M : PW}
theorem gw {w : Cond} (h : w ∈ lw_g) : w ∈ lw_g ∧ ((w.onTables && w.keeps) = true ∨ ∃ ty, w = .arrayClass ty) := ⟨h, good_of_word (List.mem_filter.mp h).2⟩
theorem tinL {t : List Cond} (ht : ∀ w ∈ t, w ∈ lw_tbl) (i : Nat) {w : Cond} (h : t[i]? = some w) (hg : goodWord w = true) : w ∈ lw_g := lg_in (ht w (List.mem_of_getElem? h)) hg
theorem ninL {t : List Cond} (ht : ∀ w ∈ t, w ∈ lw_tbl) (i : Nat) {w : Cond} (h : t[i]? = some w) (hg : isNestW w = true) : w ∈ lw_n := ln_in (ht w (List.mem_of_getElem? h)) hg
theorem tb_s : ∀ w ∈ k2_sels lw_privs, w ∈ lw_tbl := fun w h => List.mem_append_left _ h
theorem tb_1 : ∀ w ∈ tables_1_1, w ∈ lw_tbl := fun w h => List.mem_append_right _ (show w ∈ tables_1 from List.mem_append_left _ h)
theorem tb_2 : ∀ w ∈ tables_1_2, w ∈ lw_tbl := fun w h => List.mem_append_right _ (show w ∈ tables_1 from List.mem_append_right _ (List.mem_append_left _ h))
theorem tb_3 : ∀ w ∈ tables_1_3, w ∈ lw_tbl := fun w h => List.mem_append_right _ (show w ∈ tables_1 from List.mem_append_right _ (List.mem_append_right _ (List.mem_append_left _ h)))
theorem tb_4 : ∀ w ∈ tables_1_4, w ∈ lw_tbl := fun w h => List.mem_append_right _ (show w ∈ tables_1 from List.mem_append_right _ (List.mem_append_right _ (List.mem_append_right _ (List.mem_append_left _ h))))
theorem tb_5 : ∀ w ∈ tables_1_5, w ∈ lw_tbl := fun w h => List.mem_append_right _ (show w ∈ tables_1 from List.mem_append_right _ (List.mem_append_right _ (List.mem_append_right _ (List.mem_append_right _ (List.mem_append_left _ h)))))
theorem tb_6 : ∀ w ∈ tables_1_6, w ∈ lw_tbl := fun w h => List.mem_append_right _ (show w ∈ tables_1 from List.mem_append_right _ (List.mem_append_right _ (List.mem_append_right _ (List.mem_append_right _ (List.mem_append_right _ (List.mem_append_left _ h))))))
theorem tb_7 : ∀ w ∈ tables_1_7, w ∈ lw_tbl := fun w h => List.mem_append_right _ (show w ∈ tables_1 from List.mem_append_right _ (List.mem_append_right _ (List.mem_append_right _ (List.mem_append_right _ (List.mem_append_right _ (List.mem_append_right _ (List.mem_append_left _ h)))))))
theorem tb_8 : ∀ w ∈ tables_1_8, w ∈ lw_tbl := fun w h => List.mem_append_right _ (show w ∈ tables_1 from List.mem_append_right _ (List.mem_append_right _ (List.mem_append_right _ (List.mem_append_right _ (List.mem_append_right _ (List.mem_append_right _ (List.mem_append_right _ (h))))))))
theorem tins (i : Nat) {w : Cond} (h : (k2_sels lw_privs)[i]? = some w) (hg : goodWord w = true) : w ∈ lw_g := tinL tb_s i h hg
theorem nins (i : Nat) {w : Cond} (h : (k2_sels lw_privs)[i]? = some w) (hg : isNestW w = true) : w ∈ lw_n := ninL tb_s i h hg
theorem tin1 (i : Nat) {w : Cond} (h : (tables_1_1)[i]? = some w) (hg : goodWord w = true) : w ∈ lw_g := tinL tb_1 i h hg
theorem nin1 (i : Nat) {w : Cond} (h : (tables_1_1)[i]? = some w) (hg : isNestW w = true) : w ∈ lw_n := ninL tb_1 i h hg
theorem tin2 (i : Nat) {w : Cond} (h : (tables_1_2)[i]? = some w) (hg : goodWord w = true) : w ∈ lw_g := tinL tb_2 i h hg
theorem nin2 (i : Nat) {w : Cond} (h : (tables_1_2)[i]? = some w) (hg : isNestW w = true) : w ∈ lw_n := ninL tb_2 i h hg
theorem tin3 (i : Nat) {w : Cond} (h : (tables_1_3)[i]? = some w) (hg : goodWord w = true) : w ∈ lw_g := tinL tb_3 i h hg
theorem nin3 (i : Nat) {w : Cond} (h : (tables_1_3)[i]? = some w) (hg : isNestW w = true) : w ∈ lw_n := ninL tb_3 i h hg
theorem tin4 (i : Nat) {w : Cond} (h : (tables_1_4)[i]? = some w) (hg : goodWord w = true) : w ∈ lw_g := tinL tb_4 i h hg
theorem nin4 (i : Nat) {w : Cond} (h : (tables_1_4)[i]? = some w) (hg : isNestW w = true) : w ∈ lw_n := ninL tb_4 i h hg
theorem tin5 (i : Nat) {w : Cond} (h : (tables_1_5)[i]? = some w) (hg : goodWord w = true) : w ∈ lw_g := tinL tb_5 i h hg
theorem nin5 (i : Nat) {w : Cond} (h : (tables_1_5)[i]? = some w) (hg : isNestW w = true) : w ∈ lw_n := ninL tb_5 i h hg
theorem tin6 (i : Nat) {w : Cond} (h : (tables_1_6)[i]? = some w) (hg : goodWord w = true) : w ∈ lw_g := tinL tb_6 i h hg
theorem nin6 (i : Nat) {w : Cond} (h : (tables_1_6)[i]? = some w) (hg : isNestW w = true) : w ∈ lw_n := ninL tb_6 i h hg
theorem tin7 (i : Nat) {w : Cond} (h : (tables_1_7)[i]? = some w) (hg : goodWord w = true) : w ∈ lw_g := tinL tb_7 i h hg
theorem nin7 (i : Nat) {w : Cond} (h : (tables_1_7)[i]? = some w) (hg : isNestW w = true) : w ∈ lw_n := ninL tb_7 i h hg
theorem tin8 (i : Nat) {w : Cond} (h : (tables_1_8)[i]? = some w) (hg : goodWord w = true) : w ∈ lw_g := tinL tb_8 i h hg
theorem nin8 (i : Nat) {w : Cond} (h : (tables_1_8)[i]? = some w) (hg : isNestW w = true) : w ∈ lw_n := ninL tb_8 i h hg
/-- what is known of a method that is called -/
def MW (y : MethodName) (cc : ByteArray) (nL : Nat) (ret : Option FieldType) (n : Nat) : Prop := Cond.code y cc nL ret ∈ lw_g ∧ (y.cls ≠ "java/lang/invoke/MethodHandle" ∧ y.cls ≠ "java/lang/invoke/VarHandle" ∧ (parseMethodDescriptor y.desc).map (fun d => d.parameters.length) = some n) ∧ Cond.initialized y.cls ∈ lw_g ∧ nL ≤ 41 ∧ plainName y.cls = true
theorem wsOf_in {y : MethodName} {cc : ByteArray} {nL n : Nat} {ret : Option FieldType} (h : MW y cc nL ret n) : GoodIn lw_g (wsOf y cc nL ret) := by
  intro w hw
  rcases List.mem_cons.mp hw with rfl | hw
  · exact gw h.1
  · exact gw hw
theorem good_app {a : List Cond} {b : List Cond} (ha : ∀ w ∈ a, w ∈ lw_g) (hb : GoodIn lw_g b) : GoodIn lw_g (a ++ b) := fun w hw => (List.mem_append.mp hw).elim (fun h => gw (ha w h)) (hb w)
theorem ST.same {U U' : State} {H : Heap} (hv : U'.vm = U.vm) (h : ST g U H) : ST g U' H := by
  obtain ⟨h1, h2, h3, h4, h5, h6, h7, h8, h9, h10⟩ := h
  have ha : U.vm.Alike U'.vm := by rw [hv]; exact Vm.Alike.refl _
  exact ⟨h1.moved ha, h2.moved ha, h3.moved ha, h4.moved ha, h5.same hv, h6.same hv, h7.moved ha, h8.moved ha, h9.moved ha, h10.same hv.symm⟩
theorem WD_blind {avs : List Value} : FrameBlind (va_Pc avs (WD g M)) := by
  intro a U g0 mk h
  obtain ⟨h0, h1, h2, h3, h4⟩ := h
  exact ⟨h0, h1, h2, va_K.moved (u := U) (U := U.calling g0 mk a) (Vm.Alike.refl U.vm) h3, (ST.same (U := U) (U' := U.calling g0 mk a) (H := U.heap) rfl h4)⟩
theorem WD_at {s U : State} {H : Heap} {locs : List Loc} (hW : s.WarmedH U.vm) (hU : U.heap = H) (hH : WH g M H) (hN : NM M) (hK : va_K g.1 vwCl (tyl g) s) (hT : ST g s s.heap) (hS : va_S (AA g) s.heap H locs) : WD g M U := by
  refine ⟨by rw [hU]; exact hH, hN, va_K.moved hW.alike hK, hT.on hW (fun a h1 h2 => ?_)⟩
  rw [hU]
  exact hS.2.1 a h1 h2
/-- behind a call -/
theorem z_run {a b : Nat} {r : Option Value} {P : Prop} {M' : PW} {rest : List Value} {av : Array Value} {p : Program} {e : Env} {s : State} {m : MethodId} {args : Array Value} {below : List Frame} {meth : Method} {c : Code} {R : Room} {Q : State → Prop} {H : Heap} {locs : List Loc} {ls : Array Slot} {st0 : List Value} (hz : M.1 ≤ M'.1) (hz2 : M'.1 ≤ b)
    (hr : va_Run p l e R s m args below meth c H locs (M.1 - a) (SLT M.1 - SLT a) (M'.1 - M.1) (SLT M'.1 - SLT M.1) (F0 m pc ls st0) rest (QD g r P M' av) (AA g))
    (C0 : CF g (p, e, s, m, args, below, meth, c, R, a, b, Q) μ) (hl0 : lok ls μ.2.2.1 L) (h1 : a ≤ M.1) (hS : va_S (AA g) s.heap H locs)
    (kk : P → Zt l g (p, e, s, m, args, below, meth, c, R, a, b, Q) μ (pc + 3) L (r.toList ++ rest) M') : W p l e R s m args below meth c H locs (M.1 - a) (SLT M.1 - SLT a) Q (F0 m pc ls st0) := by
  intro T hT X
  obtain ⟨v, st₀, t, T', L2, h0, X', hL, e1, e2, ⟨⟨hv, hp, hwd⟩, hz9, hk⟩, stp⟩ := hr T hT X
  have hv2 : v = r := by injection hv
  subst hv2
  rw [h0] at hz9 hk
  have hS2 : va_S (AA g) s.heap T'.heap (locs ++ L2) := ⟨Nat.le_trans hS.1 (by rw [e1]; exact hz9), fun q q1 q2 => by rw [e1, hk q (Nat.lt_of_lt_of_le q1 hS.1) q2]; exact hS.2.1 q q1 q2, fun q hq => by
    rcases List.mem_append.mp hq with h | h
    · exact hS.2.2 q h
    · exact hL q h⟩
  have k := z_to (kk hp) C0 hl0 (by rw [e1]; exact hwd.1) hwd.2.1 (Nat.le_trans h1 hz) hz2 hS2
  have ea : M.1 - a + (M'.1 - M.1) = M'.1 - a := by omega
  have es : SLT M.1 - SLT a + (SLT M'.1 - SLT M.1) = SLT M'.1 - SLT a := by
    have := SLT_mono h1
    have := SLT_mono hz
    omega
  rw [ea, es] at X'
  obtain ⟨t2, a1, b1⟩ := k T' rfl X'
  exact ⟨t2, stp t2 a1, b1⟩
section K
variable {d index nL n b0 : Nat} {y : MethodName} {cc : ByteArray} {ret : Option FieldType} {As rest : List Value} {r : Option Value} {P : Prop} {M' : PW} {host : String}
theorem rm_fit {R : Room} {a b d d2 : Nat} (hR : d2 ≤ R.frames ∧ 60 * d2 ≤ R.locals) (hd : d + 1 ≤ d2) (hn : nL ≤ 41) : (rm d a b).frames + 1 ≤ R.frames ∧ 8 + (nL + 11) + (rm d a b).locals ≤ R.locals := by
  show d + 1 ≤ R.frames ∧ 8 + (nL + 11) + 60 * d ≤ R.locals
  omega
theorem cs_fit {R : Room} {a b m m2 : Nat} (hR : b - a ≤ R.cells ∧ SLT b - SLT a ≤ R.slots) (h1 : a ≤ m) (h2 : m ≤ m2) (h3 : m2 ≤ b) : m - a + (m2 - m) ≤ R.cells ∧ SLT m - SLT a + (SLT m2 - SLT m) ≤ R.slots := by
  have := SLT_mono h1
  have := SLT_mono h2
  have := SLT_mono h3
  omega
/-- the receiver is an object of its class -/
theorem recvA {ci N : Nat} {C : String} {T : u_T} {ty : Nat → FieldType} {s : State} {H : Heap} (cl : CLf ci C T N ty) (hr : SH b0 = (ci, N)) (h0 : 0 < b0) (hz : b0 ≤ M.1) (hK : va_K g.1 vwCl (tyl g) s) (hH : WH g M H) : ∃ cell : Cell, H[g.2.2.1 + b0]? = some cell ∧ cell.vm.isStatics = false ∧ s.vm.findClass C = some cell.cls := by
  have he := wl_get (g := g) (M := M) h0 hz
  rw [elt_obj hr cl.2.2.2.2] at he
  exact va_recv hK hH.2 cl.1 he
theorem z_callV {ci N : Nat} {T : u_T} {ty : Nat → FieldType} (hs : Spec l g d y cc nL ret (vR g b0 :: As) M r P M') (hd : decode μ.1 pc = .ok (.invokevirtual index, 3)) (mw : MW y cc nL ret n) (cl : CLf ci y.cls T N ty) (hr : SH b0 = (ci, N)) (h0 : 0 < b0) (hz : b0 ≤ M.1) (hl : Cond.methodLink μ.2.1 index y ∈ lw_g) (hin : Cond.instanceMethod y ∈ lw_g) (hse : Cond.selects y.cls y y ∈ lw_g) (hdep : Nat.ble (d + 1) μ.2.2.2.1 = true) (hn : As.length = n) (hst : st = As.reverse ++ vR g b0 :: rest) (hrs : Nat.ble ((rest.map fun v => v.category).sum) 8 = true) (hm : M.1 ≤ M'.1) (hm2 : M'.1 ≤ cb φ) (kk : P → Zt l g φ μ (pc + 3) L (r.toList ++ rest) M') : Zt l g φ μ pc L st M := z_of fun p e s m args below meth c R a b Q hφ H locs ls C0 hl0 hH hN h1 h2 hS => by
  subst hφ
  subst hst
  have hgood : GoodIn lw_g (wsV μ.2.1 index y.cls y (wsOf y cc nL ret)) := good_app (by
    intro w hw
    simp only [List.mem_cons, List.not_mem_nil, or_false] at hw
    rcases hw with rfl | rfl | rfl | rfl
    · exact hl
    · exact hin
    · exact hse
    · exact mw.2.2.1) (wsOf_in mw)
  have cw := cwV (R := R) (s := s) (args := args) (own := μ.2.1) (index := index) (C := y.cls) (rm := rm d M.1 M'.1) n C0.2.2.2.2.1 hgood rfl rfl rfl ⟨rfl, mw.2.1⟩ (rm_fit ⟨C0.2.2.2.2.2.2.2.2.2.2.1, C0.2.2.2.2.2.2.2.2.2.2.2.1⟩ (Nat.le_of_ble_eq_true hdep) mw.2.2.2.1)
  exact z_run hm hm2 (va_runV (As := As) (rest := rest) ⟨C0.1, C0.2.1, C0.2.2.1, C0.2.2.2.1, C0.2.2.2.2.1⟩ hs cw ⟨WD_blind, recvA cl hr h0 hz C0.2.2.2.2.2.1 hH, fun U hU hW => ⟨rfl, WD_at hW hU hH hN C0.2.2.2.2.2.1 C0.2.2.2.2.2.2.1 hS⟩⟩ rfl hn hl0.1 rfl (lv_room (Nat.le_of_ble_eq_true hrs)) hd (cs_fit C0.2.2.2.2.2.2.2.2.2.2.2.2 h1 hm hm2)) C0 hl0 h1 hS kk
theorem z_callI (hs : Spec l g d y cc nL none (vR g b0 :: As) M r P M') (hd : decode μ.1 pc = .ok (.invokespecial index, 3)) (mw : MW y cc nL none n) (hl : Cond.methodLink μ.2.1 index y ∈ lw_g) (hin : Cond.instanceMethod y ∈ lw_g) (hy1 : y.name = "<init>") (hdep : Nat.ble (d + 1) μ.2.2.2.1 = true) (hn : As.length = n) (hst : st = As.reverse ++ vR g b0 :: rest) (hrs : Nat.ble ((rest.map fun v => v.category).sum) 8 = true) (hm : M.1 ≤ M'.1) (hm2 : M'.1 ≤ cb φ) (kk : P → Zt l g φ μ (pc + 3) L (r.toList ++ rest) M') : Zt l g φ μ pc L st M := z_of fun p e s m args below meth c R a b Q hφ H locs ls C0 hl0 hH hN h1 h2 hS => by
  subst hφ
  subst hst
  have hts := C0.2.2.2.2.1
  have cw := cwI (R := R) (s := s) (args := args) (own := μ.2.1) (index := index) (rm := rm d M.1 M'.1) n hts (wsOf_in mw) rfl rfl rfl (hts _ mw.2.2.1) (hts _ hl) (hts _ hin) hy1 mw.2.1 (rm_fit ⟨C0.2.2.2.2.2.2.2.2.2.2.1, C0.2.2.2.2.2.2.2.2.2.2.2.1⟩ (Nat.le_of_ble_eq_true hdep) mw.2.2.2.1)
  exact z_run hm hm2 (va_runI (As := As) (rest := rest) ⟨C0.1, C0.2.1, C0.2.2.1, C0.2.2.2.1, C0.2.2.2.2.1⟩ hs cw ⟨WD_blind, fun U hU hW => ⟨rfl, WD_at hW hU hH hN C0.2.2.2.2.2.1 C0.2.2.2.2.2.2.1 hS⟩⟩ rfl hn hl0.1 rfl (lv_room (Nat.le_of_ble_eq_true hrs)) hd (cs_fit C0.2.2.2.2.2.2.2.2.2.2.2.2 h1 hm hm2)) C0 hl0 h1 hS kk
theorem z_callIN (hs : Spec l g d y cc nL none (vR g b0 :: As) M r P M') (hd : decode μ.1 pc = .ok (.invokespecial index, 3)) (mw : MW y cc nL none n) (hl : Cond.methodLinkNest μ.2.1 index y host ∈ lw_n) (hin : Cond.instanceMethod y ∈ lw_g) (hy1 : y.name = "<init>") (hdep : Nat.ble (d + 1) μ.2.2.2.1 = true) (hn : As.length = n) (hst : st = As.reverse ++ vR g b0 :: rest) (hrs : Nat.ble ((rest.map fun v => v.category).sum) 8 = true) (hm : M.1 ≤ M'.1) (hm2 : M'.1 ≤ cb φ) (kk : P → Zt l g φ μ (pc + 3) L (r.toList ++ rest) M') : Zt l g φ μ pc L st M := z_of fun p e s m args below meth c R a b Q hφ H locs ls C0 hl0 hH hN h1 h2 hS => by
  subst hφ
  subst hst
  have hts := C0.2.2.2.2.1
  have cw := va_cnB (R := R) (s := s) (args := args) (own := μ.2.1) (host := host) (index := index) (rm := rm d M.1 M'.1) n hts (wsOf_in mw) rfl rfl rfl (C0.2.2.2.2.2.2.1.2.2.2.2.2.2.2.2.2 _ hl) (hts _ mw.2.2.1) mw.2.1 (rm_fit ⟨C0.2.2.2.2.2.2.2.2.2.2.1, C0.2.2.2.2.2.2.2.2.2.2.2.1⟩ (Nat.le_of_ble_eq_true hdep) mw.2.2.2.1)
  exact z_run hm hm2 (va_runIN (As := As) (rest := rest) ⟨C0.1, C0.2.1, C0.2.2.1, C0.2.2.2.1, C0.2.2.2.2.1⟩ hs ⟨cw, hy1, hts _ hin⟩ ⟨WD_blind, fun U hU hW => ⟨rfl, WD_at hW hU hH hN C0.2.2.2.2.2.1 C0.2.2.2.2.2.2.1 hS⟩⟩ rfl hn hl0.1 rfl (lv_room (Nat.le_of_ble_eq_true hrs)) hd (cs_fit C0.2.2.2.2.2.2.2.2.2.2.2.2 h1 hm hm2)) C0 hl0 h1 hS kk
theorem z_callS (hs : Spec l g d y cc nL ret As M r P M') (hd : decode μ.1 pc = .ok (.invokestatic index, 3)) (mw : MW y cc nL ret n) (hl : Cond.methodLink μ.2.1 index y ∈ lw_g) (hsta : Cond.static y ∈ lw_g) (hdep : Nat.ble (d + 1) μ.2.2.2.1 = true) (hn : As.length = n) (hst : st = As.reverse ++ rest) (hrs : Nat.ble ((rest.map fun v => v.category).sum) 8 = true) (hm : M.1 ≤ M'.1) (hm2 : M'.1 ≤ cb φ) (kk : P → Zt l g φ μ (pc + 3) L (r.toList ++ rest) M') : Zt l g φ μ pc L st M := z_of fun p e s m args below meth c R a b Q hφ H locs ls C0 hl0 hH hN h1 h2 hS => by
  subst hφ
  subst hst
  have hts := C0.2.2.2.2.1
  have hgood : GoodIn lw_g (va_wsS μ.2.1 index y (wsOf y cc nL ret)) := good_app (by
    intro w hw
    simp only [List.mem_cons, List.not_mem_nil, or_false] at hw
    rcases hw with rfl | rfl | rfl
    · exact hl
    · exact hsta
    · exact mw.2.2.1) (wsOf_in mw)
  have cw := va_cwS (R := R) (s := s) (args := args) (own := μ.2.1) (index := index) (rm := rm d M.1 M'.1) n hts hgood rfl rfl rfl mw.2.1 (rm_fit ⟨C0.2.2.2.2.2.2.2.2.2.2.1, C0.2.2.2.2.2.2.2.2.2.2.2.1⟩ (Nat.le_of_ble_eq_true hdep) mw.2.2.2.1)
  exact z_run hm hm2 (va_runS (As := As) (rest := rest) ⟨C0.1, C0.2.1, C0.2.2.1, C0.2.2.2.1, C0.2.2.2.2.1⟩ hs cw ⟨WD_blind, fun U hU hW => ⟨rfl, WD_at hW hU hH hN C0.2.2.2.2.2.1 C0.2.2.2.2.2.2.1 hS⟩⟩ rfl hn hl0.1 rfl (lv_room (Nat.le_of_ble_eq_true hrs)) hd (cs_fit C0.2.2.2.2.2.2.2.2.2.2.2.2 h1 hm hm2)) C0 hl0 h1 hS kk
theorem z_callSN (hs : Spec l g d y cc nL ret As M r P M') (hd : decode μ.1 pc = .ok (.invokestatic index, 3)) (mw : MW y cc nL ret n) (hl : Cond.methodLinkNest μ.2.1 index y host ∈ lw_n) (hsta : Cond.static y ∈ lw_g) (hdep : Nat.ble (d + 1) μ.2.2.2.1 = true) (hn : As.length = n) (hst : st = As.reverse ++ rest) (hrs : Nat.ble ((rest.map fun v => v.category).sum) 8 = true) (hm : M.1 ≤ M'.1) (hm2 : M'.1 ≤ cb φ) (kk : P → Zt l g φ μ (pc + 3) L (r.toList ++ rest) M') : Zt l g φ μ pc L st M := z_of fun p e s m args below meth c R a b Q hφ H locs ls C0 hl0 hH hN h1 h2 hS => by
  subst hφ
  subst hst
  have hts := C0.2.2.2.2.1
  have cw := va_cnB (R := R) (s := s) (args := args) (own := μ.2.1) (host := host) (index := index) (rm := rm d M.1 M'.1) n hts (wsOf_in mw) rfl rfl rfl (C0.2.2.2.2.2.2.1.2.2.2.2.2.2.2.2.2 _ hl) (hts _ mw.2.2.1) mw.2.1 (rm_fit ⟨C0.2.2.2.2.2.2.2.2.2.2.1, C0.2.2.2.2.2.2.2.2.2.2.2.1⟩ (Nat.le_of_ble_eq_true hdep) mw.2.2.2.1)
  exact z_run hm hm2 (va_runSN (As := As) (rest := rest) ⟨C0.1, C0.2.1, C0.2.2.1, C0.2.2.2.1, C0.2.2.2.2.1⟩ hs ⟨cw, hts _ hsta, trivial⟩ ⟨WD_blind, fun U hU hW => ⟨rfl, WD_at hW hU hH hN C0.2.2.2.2.2.1 C0.2.2.2.2.2.2.1 hS⟩⟩ rfl hn hl0.1 rfl (lv_room (Nat.le_of_ble_eq_true hrs)) hd (cs_fit C0.2.2.2.2.2.2.2.2.2.2.2.2 h1 hm hm2)) C0 hl0 h1 hS kk
end K
section MA
variable {x y : Int} {index : Nat}
theorem z_max (hd : decode μ.1 pc = .ok (.invokestatic index, 3)) (hx : inR x) (hy : inR y) (hl : Cond.methodLink μ.2.1 index Lib.Math.max.name ∈ lw_g) (hsta : Cond.static Lib.Math.max.name ∈ lw_g) (hini : Cond.initialized "java/lang/Math" ∈ lw_g) (hcode : Cond.code Lib.Math.max.name Lib.Math.max.code 2 (some .int) ∈ lw_g) (hdep : Nat.ble 1 μ.2.2.2.1 = true) (hrs : Nat.ble ((st.map fun v => v.category).sum) 8 = true) (hm2 : M.1 ≤ cb φ) (kk : Zt l g φ μ (pc + 3) L (vI (max x y) :: st) M) : Zt l g φ μ pc L (vI y :: vI x :: st) M := z_of fun p e s m args below meth c R a b Q hφ H locs ls C0 hl0 hH hN h1 h2 hS => by
  subst hφ
  have hts := C0.2.2.2.2.1
  have k := z_to kk C0 hl0 hH hN h1 h2 hS
  have hcs := cs_fit C0.2.2.2.2.2.2.2.2.2.2.2.2 h1 (Nat.le_refl _) hm2
  have e : Value.int (if Int32.ofInt x < Int32.ofInt y then Int32.ofInt y else Int32.ofInt x) = vI (max x y) := by
    unfold vI
    rw [← apply_ite Int32.ofInt]
    congr 2
    by_cases h : x < y
    · rw [if_pos ((ofI_lt hx hy).mpr h)]; omega
    · rw [if_neg (fun q => h ((ofI_lt hx hy).mp q))]; omega
  have h9 := C0.2.2.2.2.2.2.2.2.2.2
  have hd1 := Nat.le_of_ble_eq_true hdep
  have hr1 := Nat.le_of_ble_eq_true hrs
  refine va_mmax C0.1 C0.2.1 (C0.2.2.1.trans hl0.1.symm) C0.2.2.2.1 (hts _ hl) (hts _ hsta) (hts _ hini) (hts _ hcode) (by omega) (by omega) (by omega) (by omega) hd ?_
  rw [e]
  exact k
theorem z_min (hd : decode μ.1 pc = .ok (.invokestatic index, 3)) (hx : inR x) (hy : inR y) (hl : Cond.methodLink μ.2.1 index Lib.Math.min.name ∈ lw_g) (hsta : Cond.static Lib.Math.min.name ∈ lw_g) (hini : Cond.initialized "java/lang/Math" ∈ lw_g) (hcode : Cond.code Lib.Math.min.name Lib.Math.min.code 2 (some .int) ∈ lw_g) (hdep : Nat.ble 1 μ.2.2.2.1 = true) (hrs : Nat.ble ((st.map fun v => v.category).sum) 8 = true) (hm2 : M.1 ≤ cb φ) (kk : Zt l g φ μ (pc + 3) L (vI (min x y) :: st) M) : Zt l g φ μ pc L (vI y :: vI x :: st) M := z_of fun p e s m args below meth c R a b Q hφ H locs ls C0 hl0 hH hN h1 h2 hS => by
  subst hφ
  have hts := C0.2.2.2.2.1
  have k := z_to kk C0 hl0 hH hN h1 h2 hS
  have hcs := cs_fit C0.2.2.2.2.2.2.2.2.2.2.2.2 h1 (Nat.le_refl _) hm2
  have e : Value.int (if Int32.ofInt y < Int32.ofInt x then Int32.ofInt y else Int32.ofInt x) = vI (min x y) := by
    unfold vI
    rw [← apply_ite Int32.ofInt]
    congr 2
    by_cases h : y < x
    · rw [if_pos ((ofI_lt hy hx).mpr h)]; omega
    · rw [if_neg (fun q => h ((ofI_lt hy hx).mp q))]; omega
  have h9 := C0.2.2.2.2.2.2.2.2.2.2
  have hd1 := Nat.le_of_ble_eq_true hdep
  have hr1 := Nat.le_of_ble_eq_true hrs
  refine va_mmin C0.1 C0.2.1 (C0.2.2.1.trans hl0.1.symm) C0.2.2.2.1 (hts _ hl) (hts _ hsta) (hts _ hini) (hts _ hcode) (by omega) (by omega) (by omega) (by omega) hd ?_
  rw [e]
  exact k
def abs32 (x : Int) : Int := if 0 ≤ x then x else w32 (0 - x)
theorem z_abs (hd : decode μ.1 pc = .ok (.invokestatic index, 3)) (hx : inR x) (hl : Cond.methodLink μ.2.1 index Lib.Math.abs.name ∈ lw_g) (hsta : Cond.static Lib.Math.abs.name ∈ lw_g) (hini : Cond.initialized "java/lang/Math" ∈ lw_g) (hcode : Cond.code Lib.Math.abs.name Lib.Math.abs.code 1 (some .int) ∈ lw_g) (hdep : Nat.ble 1 μ.2.2.2.1 = true) (hrs : Nat.ble ((st.map fun v => v.category).sum) 8 = true) (hm2 : M.1 ≤ cb φ) (kk : Zt l g φ μ (pc + 3) L (vI (abs32 x) :: st) M) : Zt l g φ μ pc L (vI x :: st) M := z_of fun p e s m args below meth c R a b Q hφ H locs ls C0 hl0 hH hN h1 h2 hS => by
  subst hφ
  have hts := C0.2.2.2.2.1
  have k := z_to kk C0 hl0 hH hN h1 h2 hS
  have hcs := cs_fit C0.2.2.2.2.2.2.2.2.2.2.2.2 h1 (Nat.le_refl _) hm2
  have e : Value.int (if 0 ≤ Int32.ofInt x then Int32.ofInt x else 0 - Int32.ofInt x) = vI (abs32 x) := by
    unfold vI abs32
    by_cases h : 0 ≤ x
    · rw [if_pos h, if_pos]
      rw [ofI_0]; exact (ofI_le inR_0 hx).mpr h
    · rw [if_neg h, if_neg, ofI_w32, Int32.ofInt_sub, ← ofI_0]
      rw [ofI_0]; exact fun q => h ((ofI_le inR_0 hx).mp q)
  have h9 := C0.2.2.2.2.2.2.2.2.2.2
  have hd1 := Nat.le_of_ble_eq_true hdep
  have hr1 := Nat.le_of_ble_eq_true hrs
  refine va_mabs C0.1 C0.2.1 (C0.2.2.1.trans hl0.1.symm) C0.2.2.2.1 (hts _ hl) (hts _ hsta) (hts _ hini) (hts _ hcode) (by omega) (by omega) (by omega) (by omega) hd ?_
  rw [e]
  exact k
end MA
end CALLS
