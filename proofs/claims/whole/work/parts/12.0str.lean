section STR2
variable {l : Launch} {g : GX} {φ : CX} {μ : MU} {pc : Nat} {L : List (Option Value)} {st : List Value} {M : PW} {index : Nat}
theorem z_gsC (hd : decode μ.1 pc = .ok (.getstatic index, 3)) (hl : Cond.fieldLink μ.2.1 index "java/lang/String" "COMPACT_STRINGS" "Z" ∈ lw_g) (kk : Zt l g φ μ (pc + 3) L (vI 1 :: st) M) : Zt l g φ μ pc L st M := z_of fun p e s m args below meth c R a b Q hφ H locs ls C0 hl0 hH hN h1 h2 hS => by
  subst hφ
  exact va_gets C0.1 C0.2.1 C0.2.2.2.2.2.2.1.2.2.2.2.2.2.2.1 hS C0.2.2.2.1 (C0.2.2.2.2.1 _ hl) (fun _ h => h) hd (z_to kk C0 hl0 hH hN h1 h2 hS)
theorem z_gsQ (hd : decode μ.1 pc = .ok (.getstatic index, 3)) (hl : Cond.fieldLink μ.2.1 index "jdk/internal/util/Preconditions" "SIOOBE_FORMATTER" "Ljava/util/function/BiFunction;" ∈ lw_g) (kk : ∀ v : Value, v.category = 1 → Zt l g φ μ (pc + 3) L (v :: st) M) : Zt l g φ μ pc L st M := z_of fun p e s m args below meth c R a b Q hφ H locs ls C0 hl0 hH hN h1 h2 hS => by
  subst hφ
  rcases C0.2.2.2.2.2.2.1.2.2.2.2.2.2.2.2.1 with h | ⟨t, h⟩
  · exact va_gets C0.1 C0.2.1 h hS C0.2.2.2.1 (C0.2.2.2.2.1 _ hl) (fun _ h => h) hd (z_to (kk .null rfl) C0 hl0 hH hN h1 h2 hS)
  · exact va_gets C0.1 C0.2.1 h hS C0.2.2.2.1 (C0.2.2.2.2.1 _ hl) (fun _ h => h) hd (z_to (kk (.ref t) rfl) C0 hl0 hH hN h1 h2 hS)
theorem z_strC (i : Nat) (hi : i < 2) (hd : decode μ.1 pc = .ok (.getfield index, 3)) (hl : Cond.fieldLink μ.2.1 index "java/lang/String" "coder" "B" ∈ lw_g) (kk : Zt l g φ μ (pc + 3) L (vI 0 :: st) M) : Zt l g φ μ pc L (.ref (g.2.2.2 (2 + i)) :: st) M := z_of fun p e s m args below meth c R a b Q hφ H locs ls C0 hl0 hH hN h1 h2 hS => by
  subst hφ
  exact vk_getf C0.1 C0.2.1 (C0.2.2.2.2.2.2.1.2.2.2.2.2.2.1.1 i hi).2.1 hS C0.2.2.2.1 (C0.2.2.2.2.1 _ hl) (fun _ h => h) hd (z_to kk C0 hl0 hH hN h1 h2 hS)
theorem z_strV (i : Nat) (hi : i < 2) (hd : decode μ.1 pc = .ok (.getfield index, 3)) (hl : Cond.fieldLink μ.2.1 index "java/lang/String" "value" "[B" ∈ lw_g) (kk : Zt l g φ μ (pc + 3) L (.ref (g.2.2.2 (4 + i)) :: st) M) : Zt l g φ μ pc L (.ref (g.2.2.2 (2 + i)) :: st) M := z_of fun p e s m args below meth c R a b Q hφ H locs ls C0 hl0 hH hN h1 h2 hS => by
  subst hφ
  exact vk_getf C0.1 C0.2.1 (C0.2.2.2.2.2.2.1.2.2.2.2.2.2.1.1 i hi).2.2.1 hS C0.2.2.2.1 (C0.2.2.2.2.1 _ hl) (fun _ h => h) hd (z_to kk C0 hl0 hH hN h1 h2 hS)
def slen (i : Nat) : Nat := [102, 9].getD i 0
def sbyt (i j : Nat) : Int := ((([WRB, SGB] : List (List Int32)).getD i []).getD j 0).toInt
theorem z_strLen (i : Nat) (hi : i < 2) (hd : decode μ.1 pc = .ok (.arraylength, 1)) (kk : Zt l g φ μ (pc + 1) L (vI (slen i) :: st) M) : Zt l g φ μ pc L (.ref (g.2.2.2 (4 + i)) :: st) M := z_of fun p e s m args below meth c R a b Q hφ H locs ls C0 hl0 hH hN h1 h2 hS => by
  subst hφ
  exact va_tlen C0.1 C0.2.1 (C0.2.2.2.2.2.2.1.2.2.2.2.2.2.1.1 i hi).2.2.2 hS (v := Int32.ofInt (slen i)) (Int32.ofInt_eq_ofNat).symm hd (z_to kk C0 hl0 hH hN h1 h2 hS)
theorem z_strByte (i : Nat) (hi : i < 2) {j : Int} (hd : decode μ.1 pc = .ok (.baload, 1)) (hj : inR j) (hb : 0 ≤ j ∧ j < (slen i : Int)) (kk : Zt l g φ μ (pc + 1) L (vI (sbyt i j.toNat) :: st) M) : Zt l g φ μ pc L (vI j :: .ref (g.2.2.2 (4 + i)) :: st) M := z_of fun p e s m args below meth c R a b Q hφ H locs ls C0 hl0 hH hN h1 h2 hS => by
  subst hφ
  exact va_tb C0.1 C0.2.1 (C0.2.2.2.2.2.2.1.2.2.2.2.2.2.1.1 i hi).2.2.2 hS (ix_of hb hj) (by rw [clamp_ofI hj]; exact (vI_toInt _).symm) hd (z_to kk C0 hl0 hH hN h1 h2 hS)
theorem z_cret {x : Int} {P : Prop} {M' : PW} (ty : FieldType) (hd : decode μ.1 pc = .ok (.ireturn, 1)) (hE : ends g φ (some ty) (some (vI x)) P M') (hx : narrow ty (vI x) = vI x) (hP : P) (hM : M = M') : Zt l g φ μ pc L [vI x] M := z_of fun p e s m args below meth c R a b Q hφ H locs ls C0 hl0 hH hN h1 h2 hS => by
  subst hφ
  subst hM
  obtain ⟨hQ, hb, hr⟩ := hE
  subst hQ
  exact W.zret C0.1 C0.2.1 hr hx (fun t ht hW => ⟨⟨rfl, hP, by rw [ht]; exact hH, hN, va_K.moved hW.alike C0.2.2.2.2.2.1, C0.2.2.2.2.2.2.1.on hW (fun a h9 h8 => by rw [ht]; exact hS.2.1 a h9 h8)⟩, hS.F ht⟩) hS.2.2 hd C0.2.2.2.2.2.2.2.2.1
end STR2
set_option maxRecDepth 10000 in
theorem mw_isLatin1 : MW yJ0_isLatin1_aae02 cJ0_isLatin1_aae02 1 (Option.some Jvm.ClassFile.FieldType.boolean) 0 := ⟨tin3 9 (by rfl) rfl, ⟨by decide +kernel, by decide +kernel, by decide +kernel⟩, tin1 14 (by rfl) rfl, by decide, by decide +kernel⟩
set_option maxRecDepth 10000 in
theorem im_isLatin1 : Cond.instanceMethod yJ0_isLatin1_aae02 ∈ lw_g := tin3 7 (by rfl) rfl
set_option maxRecDepth 10000 in
theorem se_isLatin1 : Cond.selects (yJ0_isLatin1_aae02).cls yJ0_isLatin1_aae02 yJ0_isLatin1_aae02 ∈ lw_g := tin3 8 (by rfl) rfl
set_option maxRecDepth 10000 in
theorem mw_slc : MW yJ1_charAt_3b067 cJ1_charAt_3b067 2 (Option.some Jvm.ClassFile.FieldType.char) 2 := ⟨tin3 14 (by rfl) rfl, ⟨by decide +kernel, by decide +kernel, by decide +kernel⟩, tin1 15 (by rfl) rfl, by decide, by decide +kernel⟩
set_option maxRecDepth 10000 in
theorem st_slc : Cond.static yJ1_charAt_3b067 ∈ lw_g := tin3 13 (by rfl) rfl
set_option maxRecDepth 10000 in
theorem mw_chk : MW yJ0_checkIndex_df160 cJ0_checkIndex_df160 2 (Option.none : Option Jvm.ClassFile.FieldType) 2 := ⟨tin3 17 (by rfl) rfl, ⟨by decide +kernel, by decide +kernel, by decide +kernel⟩, tin1 14 (by rfl) rfl, by decide, by decide +kernel⟩
set_option maxRecDepth 10000 in
theorem st_chk : Cond.static yJ0_checkIndex_df160 ∈ lw_g := tin3 16 (by rfl) rfl
set_option maxRecDepth 10000 in
theorem mw_pchk : MW yJ3_checkIndex_8e157 cJ3_checkIndex_8e157 3 (Option.some Jvm.ClassFile.FieldType.int) 3 := ⟨tin3 22 (by rfl) rfl, ⟨by decide +kernel, by decide +kernel, by decide +kernel⟩, tin1 16 (by rfl) rfl, by decide, by decide +kernel⟩
set_option maxRecDepth 10000 in
theorem st_pchk : Cond.static yJ3_checkIndex_8e157 ∈ lw_g := tin3 21 (by rfl) rfl
set_option maxRecDepth 10000 in
theorem mw_charAt : MW yJ0_charAt_5068e cJ0_charAt_5068e 2 (Option.some Jvm.ClassFile.FieldType.char) 1 := ⟨tin3 5 (by rfl) rfl, ⟨by decide +kernel, by decide +kernel, by decide +kernel⟩, tin1 14 (by rfl) rfl, by decide, by decide +kernel⟩
set_option maxRecDepth 10000 in
theorem im_charAt : Cond.instanceMethod yJ0_charAt_5068e ∈ lw_g := tin3 3 (by rfl) rfl
set_option maxRecDepth 10000 in
theorem se_charAt : Cond.selects (yJ0_charAt_5068e).cls yJ0_charAt_5068e yJ0_charAt_5068e ∈ lw_g := tin3 4 (by rfl) rfl
set_option maxRecDepth 10000 in
theorem mw_ix1 : MW yJ0_indexOf_0f7a4 cJ0_indexOf_0f7a4 2 (Option.some Jvm.ClassFile.FieldType.int) 1 := ⟨tin3 46 (by rfl) rfl, ⟨by decide +kernel, by decide +kernel, by decide +kernel⟩, tin1 14 (by rfl) rfl, by decide, by decide +kernel⟩
set_option maxRecDepth 10000 in
theorem im_ix1 : Cond.instanceMethod yJ0_indexOf_0f7a4 ∈ lw_g := tin3 44 (by rfl) rfl
set_option maxRecDepth 10000 in
theorem se_ix1 : Cond.selects (yJ0_indexOf_0f7a4).cls yJ0_indexOf_0f7a4 yJ0_indexOf_0f7a4 ∈ lw_g := tin3 45 (by rfl) rfl
set_option maxRecDepth 10000 in
theorem mw_ix2 : MW yJ0_indexOf_7cf53 cJ0_indexOf_7cf53 3 (Option.some Jvm.ClassFile.FieldType.int) 2 := ⟨tin3 50 (by rfl) rfl, ⟨by decide +kernel, by decide +kernel, by decide +kernel⟩, tin1 14 (by rfl) rfl, by decide, by decide +kernel⟩
set_option maxRecDepth 10000 in
theorem im_ix2 : Cond.instanceMethod yJ0_indexOf_7cf53 ∈ lw_g := tin3 48 (by rfl) rfl
set_option maxRecDepth 10000 in
theorem se_ix2 : Cond.selects (yJ0_indexOf_7cf53).cls yJ0_indexOf_7cf53 yJ0_indexOf_7cf53 ∈ lw_g := tin3 49 (by rfl) rfl
set_option maxRecDepth 10000 in
theorem mw_slen : MW yJ0_length_8abf5 cJ0_length_8abf5 1 (Option.some Jvm.ClassFile.FieldType.int) 0 := ⟨tin3 54 (by rfl) rfl, ⟨by decide +kernel, by decide +kernel, by decide +kernel⟩, tin1 14 (by rfl) rfl, by decide, by decide +kernel⟩
set_option maxRecDepth 10000 in
theorem im_slen : Cond.instanceMethod yJ0_length_8abf5 ∈ lw_g := tin3 52 (by rfl) rfl
set_option maxRecDepth 10000 in
theorem se_slen : Cond.selects (yJ0_length_8abf5).cls yJ0_length_8abf5 yJ0_length_8abf5 ∈ lw_g := tin3 53 (by rfl) rfl
set_option maxRecDepth 10000 in
theorem mw_coder : MW yJ0_coder_7d493 cJ0_coder_7d493 1 (Option.some Jvm.ClassFile.FieldType.byte) 0 := ⟨tin3 58 (by rfl) rfl, ⟨by decide +kernel, by decide +kernel, by decide +kernel⟩, tin1 14 (by rfl) rfl, by decide, by decide +kernel⟩
set_option maxRecDepth 10000 in
theorem im_coder : Cond.instanceMethod yJ0_coder_7d493 ∈ lw_g := tin3 56 (by rfl) rfl
set_option maxRecDepth 10000 in
theorem se_coder : Cond.selects (yJ0_coder_7d493).cls yJ0_coder_7d493 yJ0_coder_7d493 ∈ lw_g := tin3 57 (by rfl) rfl
set_option maxRecDepth 10000 in
theorem mw_slix : MW yJ1_indexOf_4cfef cJ1_indexOf_4cfef 4 (Option.some Jvm.ClassFile.FieldType.int) 4 := ⟨tin3 61 (by rfl) rfl, ⟨by decide +kernel, by decide +kernel, by decide +kernel⟩, tin1 15 (by rfl) rfl, by decide, by decide +kernel⟩
set_option maxRecDepth 10000 in
theorem st_slix : Cond.static yJ1_indexOf_4cfef ∈ lw_g := tin3 60 (by rfl) rfl
set_option maxRecDepth 10000 in
theorem mw_cane : MW yJ1_canEncode_9a6ad cJ1_canEncode_9a6ad 1 (Option.some Jvm.ClassFile.FieldType.boolean) 1 := ⟨tin3 64 (by rfl) rfl, ⟨by decide +kernel, by decide +kernel, by decide +kernel⟩, tin1 15 (by rfl) rfl, by decide, by decide +kernel⟩
set_option maxRecDepth 10000 in
theorem st_cane : Cond.static yJ1_canEncode_9a6ad ∈ lw_g := tin3 63 (by rfl) rfl
set_option maxRecDepth 10000 in
theorem mw_slixc : MW yJ1_indexOfChar_4cfef cJ1_indexOfChar_4cfef 6 (Option.some Jvm.ClassFile.FieldType.int) 4 := ⟨tin3 73 (by rfl) rfl, ⟨by decide +kernel, by decide +kernel, by decide +kernel⟩, tin1 15 (by rfl) rfl, by decide, by decide +kernel⟩
set_option maxRecDepth 10000 in
theorem st_slixc : Cond.static yJ1_indexOfChar_4cfef ∈ lw_g := tin3 72 (by rfl) rfl

section STR3
variable {l : Launch} {g : GX} {M : PW}
theorem nz {x y : Int} (h : decide (¬ x = y) = true) : ¬ x = y := of_decide_eq_true h
theorem s_isL (i : Nat) (hi : i < 2) : Spec l g 0 yJ0_isLatin1_aae02 cJ0_isLatin1_aae02 1 (some .boolean) [.ref (g.2.2.2 (2 + i))] M (some (vI 1)) True M := by
  refine spec_of (μ := (cJ0_isLatin1_aae02, "java/lang/String", 1, 0, "isLatin1")) (k := 0) (L0 := [some (.ref (g.2.2.2 (2 + i)))]) rfl mw_isLatin1 rfl rfl (Nat.le_refl _) (fun φ hb hE => ?_)
  refine z_gsC dJ0_isLatin1_aae02_0 (tin3 10 (by decide +kernel) rfl) ?_
  refine z_if_eq (tgt := 17) dJ0_isLatin1_aae02_3 (by decide) (inRd (by decide)) (fun h => absurd h (by decide)) (fun _ => ?_)
  refine z_aload_n dJ0_isLatin1_aae02_6 rfl ?_
  refine z_strC i hi dJ0_isLatin1_aae02_7 (tin8 48 (by decide +kernel) rfl) ?_
  refine z_if_ne (tgt := 17) dJ0_isLatin1_aae02_10 (by decide) inR_0 (fun h => absurd rfl h) (fun _ => ?_)
  refine z_iconst dJ0_isLatin1_aae02_13 ?_
  refine z_goto (tgt := 18) dJ0_isLatin1_aae02_14 (by decide) ?_
  exact z_zret dJ0_isLatin1_aae02_18 hE b01_1 trivial rfl
theorem s_coder (i : Nat) (hi : i < 2) : Spec l g 0 yJ0_coder_7d493 cJ0_coder_7d493 1 (some .byte) [.ref (g.2.2.2 (2 + i))] M (some (vI 0)) True M := by
  refine spec_of (μ := (cJ0_coder_7d493, "java/lang/String", 1, 0, "coder")) (k := 0) (L0 := [some (.ref (g.2.2.2 (2 + i)))]) rfl mw_coder rfl rfl (Nat.le_refl _) (fun φ hb hE => ?_)
  refine z_gsC dJ0_coder_7d493_0 (tin3 10 (by decide +kernel) rfl) ?_
  refine z_if_eq (tgt := 13) dJ0_coder_7d493_3 (by decide) (inRd (by decide)) (fun h => absurd h (by decide)) (fun _ => ?_)
  refine z_aload_n dJ0_coder_7d493_6 rfl ?_
  refine z_strC i hi dJ0_coder_7d493_7 (tin8 48 (by decide +kernel) rfl) ?_
  refine z_goto (tgt := 14) dJ0_coder_7d493_10 (by decide) ?_
  exact z_cret .byte dJ0_coder_7d493_14 hE (by decide +kernel) trivial rfl
theorem s_slen (i : Nat) (hi : i < 2) : Spec l g 1 yJ0_length_8abf5 cJ0_length_8abf5 1 (some .int) [.ref (g.2.2.2 (2 + i))] M (some (vI (shr32 (slen i) 0))) True M := by
  refine spec_of (μ := (cJ0_length_8abf5, "java/lang/String", 1, 1, "length")) (k := 0) (L0 := [some (.ref (g.2.2.2 (2 + i)))]) rfl mw_slen rfl rfl (Nat.le_refl _) (fun φ hb hE => ?_)
  refine z_aload_n dJ0_length_8abf5_0 rfl ?_
  refine z_strV i hi dJ0_length_8abf5_1 (tin8 49 (by decide +kernel) rfl) ?_
  refine z_strLen i hi dJ0_length_8abf5_4 ?_
  refine z_aload_n dJ0_length_8abf5_5 rfl ?_
  refine z_callStr i hi (As := []) (rest := [vI (slen i)]) (s_coder i hi) dJ0_length_8abf5_6 mw_coder rfl (tin3 55 (by decide +kernel) rfl) im_coder se_coder rfl rfl rfl rfl (Nat.le_refl _) (Nat.le_of_eq hb.symm) (fun _ => ?_)
  show Zt _ _ _ _ 9 _ [vI 0, vI (slen i)] _
  refine z_ishr dJ0_length_8abf5_9 ?_
  exact z_iret dJ0_length_8abf5_10 hE trivial rfl
theorem s_pchk {x n : Int} {v : Value} (hv : v.category = 1) (hx : inR x) (hn : inR n) (h : 0 ≤ x ∧ x < n) : Spec l g 0 yJ3_checkIndex_8e157 cJ3_checkIndex_8e157 3 (some .int) [vI x, vI n, v] M (some (vI x)) True M := by
  refine spec_of (μ := (cJ3_checkIndex_8e157, "jdk/internal/util/Preconditions", 3, 0, "checkIndex")) (k := 0) (L0 := [some (vI x), some (vI n), some v]) rfl mw_pchk (by cases v <;> first | rfl | cases hv) (by cases v <;> first | rfl | cases hv) (Nat.le_refl _) (fun φ hb hE => ?_)
  refine z_iload_n dJ3_checkIndex_8e157_0 rfl ?_
  refine z_if_lt (tgt := 9) dJ3_checkIndex_8e157_1 (by decide) hx (fun q => absurd q (by omega)) (fun _ => ?_)
  refine z_iload_n dJ3_checkIndex_8e157_4 rfl ?_
  refine z_iload_n dJ3_checkIndex_8e157_5 rfl ?_
  refine z_icmp_lt (tgt := 16) dJ3_checkIndex_8e157_6 (by decide) hx hn (fun _ => ?_) (fun q => absurd h.2 q)
  refine z_iload_n dJ3_checkIndex_8e157_16 rfl ?_
  exact z_iret dJ3_checkIndex_8e157_17 hE trivial rfl
theorem s_chk {x n : Int} (hx : inR x) (hn : inR n) (h : 0 ≤ x ∧ x < n) : Spec l g 1 yJ0_checkIndex_df160 cJ0_checkIndex_df160 2 none [vI x, vI n] M none True M := by
  refine spec_of (μ := (cJ0_checkIndex_df160, "java/lang/String", 2, 1, "checkIndex")) (k := 0) (L0 := [some (vI x), some (vI n)]) rfl mw_chk rfl rfl (Nat.le_refl _) (fun φ hb hE => ?_)
  refine z_iload_n dJ0_checkIndex_df160_0 rfl ?_
  refine z_iload_n dJ0_checkIndex_df160_1 rfl ?_
  refine z_gsQ dJ0_checkIndex_df160_2 (tin3 18 (by decide +kernel) rfl) (fun v hv => ?_)
  refine z_callS (As := [vI x, vI n, v]) (rest := []) (s_pchk hv hx hn h) dJ0_checkIndex_df160_5 mw_pchk (tin3 20 (by decide +kernel) rfl) st_pchk rfl rfl rfl rfl (Nat.le_refl _) (Nat.le_of_eq hb.symm) (fun _ => ?_)
  show Zt _ _ _ _ 8 _ [vI x] _
  refine z_pop dJ0_checkIndex_df160_8 rfl ?_
  exact z_vret dJ0_checkIndex_df160_9 hE trivial rfl
theorem sb_ok : ∀ k, k < 102 → c16 (and32 (sbyt 0 k) 255) = sbyt 0 k := by decide +kernel
theorem sb_nar : ∀ k, k < 102 → narrow .char (vI (sbyt 0 k)) = vI (sbyt 0 k) := by decide +kernel
theorem s_slc {x : Int} (hx : inR x) (h : 0 ≤ x ∧ x < 102) : Spec l g 2 yJ1_charAt_3b067 cJ1_charAt_3b067 2 (some .char) [.ref (g.2.2.2 4), vI x] M (some (vI (chW x))) (inR (chW x)) M := by
  refine spec_of (μ := (cJ1_charAt_3b067, "java/lang/StringLatin1", 2, 2, "charAt")) (k := 0) (L0 := [some (.ref (g.2.2.2 4)), some (vI x)]) rfl mw_slc rfl rfl (Nat.le_refl _) (fun φ hb hE => ?_)
  refine z_iload_n dJ1_charAt_3b067_0 rfl ?_
  refine z_aload_n dJ1_charAt_3b067_1 rfl ?_
  refine z_strLen 0 (by decide) dJ1_charAt_3b067_2 ?_
  refine z_callS (As := [vI x, vI 102]) (rest := []) (s_chk hx (inRd (by decide)) h) dJ1_charAt_3b067_3 mw_chk (tin3 15 (by decide +kernel) rfl) st_chk rfl rfl rfl rfl (Nat.le_refl _) (Nat.le_of_eq hb.symm) (fun _ => ?_)
  show Zt _ _ _ _ 6 _ [] _
  refine z_aload_n dJ1_charAt_3b067_6 rfl ?_
  refine z_iload_n dJ1_charAt_3b067_7 rfl ?_
  refine z_strByte 0 (by decide) dJ1_charAt_3b067_8 hx h ?_
  refine z_sipush dJ1_charAt_3b067_9 (by decide +kernel) ?_
  refine z_iand dJ1_charAt_3b067_12 ?_
  refine z_i2c dJ1_charAt_3b067_13 ?_
  rw [sb_ok _ (by omega)]
  exact z_cret .char dJ1_charAt_3b067_14 hE (sb_nar _ (by omega)) (inR_toInt _) rfl
theorem s_charAt {x : Int} (hx : inR x) (h : 0 ≤ x ∧ x < 102) : Spec l g 3 yJ0_charAt_5068e cJ0_charAt_5068e 2 (some .char) [.ref (g.2.2.2 2), vI x] M (some (vI (chW x))) (inR (chW x)) M := by
  refine spec_of (μ := (cJ0_charAt_5068e, "java/lang/String", 2, 3, "charAt")) (k := 0) (L0 := [some (.ref (g.2.2.2 2)), some (vI x)]) rfl mw_charAt rfl rfl (Nat.le_refl _) (fun φ hb hE => ?_)
  refine z_aload_n dJ0_charAt_5068e_0 rfl ?_
  refine z_callStr 0 (by decide) (As := []) (rest := []) (s_isL 0 (by decide)) dJ0_charAt_5068e_1 mw_isLatin1 rfl (tin3 6 (by decide +kernel) rfl) im_isLatin1 se_isLatin1 rfl rfl rfl rfl (Nat.le_refl _) (Nat.le_of_eq hb.symm) (fun _ => ?_)
  show Zt _ _ _ _ 4 _ [vI 1] _
  refine z_if_eq (tgt := 16) dJ0_charAt_5068e_4 (by decide) (inRd (by decide)) (fun q => absurd q (by decide)) (fun _ => ?_)
  refine z_aload_n dJ0_charAt_5068e_7 rfl ?_
  refine z_strV 0 (by decide) dJ0_charAt_5068e_8 (tin8 49 (by decide +kernel) rfl) ?_
  refine z_iload_n dJ0_charAt_5068e_11 rfl ?_
  refine z_callS (As := [.ref (g.2.2.2 4), vI x]) (rest := []) (s_slc hx h) dJ0_charAt_5068e_12 mw_slc (tin3 12 (by decide +kernel) rfl) st_slc rfl rfl rfl rfl (Nat.le_refl _) (Nat.le_of_eq hb.symm) (fun hp => ?_)
  show Zt _ _ _ _ 15 _ [vI (chW x)] _
  exact z_cret .char dJ0_charAt_5068e_15 hE (sb_nar _ (by omega)) hp rfl
theorem s_cane {c : Int} (hc : inR c) : Spec l g 0 yJ1_canEncode_9a6ad cJ1_canEncode_9a6ad 1 (some .boolean) [vI c] M (some (vI (if c < 0 ∨ 255 < c then 0 else 1))) True M := by
  refine spec_of (μ := (cJ1_canEncode_9a6ad, "java/lang/StringLatin1", 1, 0, "canEncode")) (k := 0) (L0 := [some (vI c)]) rfl mw_cane rfl rfl (Nat.le_refl _) (fun φ hb hE => ?_)
  refine z_iload_n dJ1_canEncode_9a6ad_0 rfl ?_
  refine z_if_lt (tgt := 15) dJ1_canEncode_9a6ad_1 (by decide) hc (fun q => ?_) (fun q => ?_)
  · rw [if_pos (Or.inl q)] at hE
    refine z_iconst dJ1_canEncode_9a6ad_15 ?_
    exact z_zret dJ1_canEncode_9a6ad_16 hE b01_0 trivial rfl
  refine z_iload_n dJ1_canEncode_9a6ad_4 rfl ?_
  refine z_sipush dJ1_canEncode_9a6ad_5 (by decide +kernel) ?_
  refine z_icmp_gt (tgt := 15) dJ1_canEncode_9a6ad_8 (by decide) hc (inRd (by decide)) (fun q2 => ?_) (fun q2 => ?_)
  · rw [if_pos (Or.inr q2)] at hE
    refine z_iconst dJ1_canEncode_9a6ad_15 ?_
    exact z_zret dJ1_canEncode_9a6ad_16 hE b01_0 trivial rfl
  rw [if_neg (by omega)] at hE
  refine z_iconst dJ1_canEncode_9a6ad_11 ?_
  refine z_goto (tgt := 16) dJ1_canEncode_9a6ad_12 (by decide) ?_
  exact z_zret dJ1_canEncode_9a6ad_16 hE b01_1 trivial rfl
theorem ix_hit : ∀ c, c < 256 → ∀ k, k < 9 → sbyt 1 k = b8 (c : Nat) → (∀ j, j < k → ¬ sbyt 1 j = b8 (c : Nat)) → ixS (c : Nat) = (k : Nat) := by decide +kernel
theorem ix_miss : ∀ c, c < 256 → (∀ j, j < 9 → ¬ sbyt 1 j = b8 (c : Nat)) → ixS (c : Nat) = -1 := by decide +kernel
theorem inR_sb (i j : Nat) : inR (sbyt i j) := inR_toInt _
theorem s_slixc {c : Int} (hc : inR c) (h0 : 0 ≤ c ∧ c ≤ 255) : Spec l g 0 yJ1_indexOfChar_4cfef cJ1_indexOfChar_4cfef 6 (some .int) [.ref (g.2.2.2 5), vI c, vI 0, vI 9] M (some (vI (ixS c))) True M := by
  obtain ⟨n, rfl⟩ := Int.eq_ofNat_of_zero_le h0.1
  have hn : n < 256 := by omega
  refine spec_of (μ := (cJ1_indexOfChar_4cfef, "java/lang/StringLatin1", 6, 0, "indexOfChar")) (k := 2) (L0 := [some (.ref (g.2.2.2 5)), some (vI n), some (vI 0), some (vI 9), none, none]) rfl mw_slixc rfl rfl (Nat.le_refl _) (fun φ hb hE => ?_)
  refine z_iload_n dJ1_indexOfChar_4cfef_0 rfl ?_
  refine z_i2b dJ1_indexOfChar_4cfef_1 ?_
  refine z_istore (L' := [some (.ref (g.2.2.2 5)), some (vI n), some (vI 0), some (vI 9), some (vI (b8 n)), none]) dJ1_indexOfChar_4cfef_2 rfl rfl rfl ?_
  refine z_iload_n dJ1_indexOfChar_4cfef_4 rfl ?_
  refine z_istore (L' := [some (.ref (g.2.2.2 5)), some (vI n), some (vI 0), some (vI 9), some (vI (b8 n)), some (vI (0 : Nat))]) dJ1_indexOfChar_4cfef_5 rfl rfl rfl ?_
  have lp : ∀ m k : Nat, m + k = 9 → (∀ j, j < k → ¬ sbyt 1 j = b8 n) → Zt l g φ (cJ1_indexOfChar_4cfef, "java/lang/StringLatin1", 6, 0, "indexOfChar") 7 [some (.ref (g.2.2.2 5)), some (vI n), some (vI 0), some (vI 9), some (vI (b8 n)), some (vI (k : Nat))] [] M := by
    intro m
    induction m with
    | zero =>
      intro k hk hj
      obtain rfl : k = 9 := by omega
      refine z_iload dJ1_indexOfChar_4cfef_7 rfl ?_
      refine z_iload_n dJ1_indexOfChar_4cfef_9 rfl ?_
      refine z_icmp_ge (tgt := 31) dJ1_indexOfChar_4cfef_10 (by decide) (inRd (by decide)) (inRd (by decide)) (fun _ => ?_) (fun q => absurd (by decide) q)
      refine z_iconst dJ1_indexOfChar_4cfef_31 ?_
      rw [ix_miss n hn hj] at hE
      exact z_iret dJ1_indexOfChar_4cfef_32 hE trivial rfl
    | succ m ih =>
      intro k hk hj
      have hk9 : k < 9 := by omega
      have hkr : inR (k : Nat) := by unfold inR; omega
      refine z_iload dJ1_indexOfChar_4cfef_7 rfl ?_
      refine z_iload_n dJ1_indexOfChar_4cfef_9 rfl ?_
      refine z_icmp_ge (tgt := 31) dJ1_indexOfChar_4cfef_10 (by decide) hkr (inRd (by decide)) (fun q => absurd q (by omega)) (fun _ => ?_)
      refine z_aload_n dJ1_indexOfChar_4cfef_13 rfl ?_
      refine z_iload dJ1_indexOfChar_4cfef_14 rfl ?_
      refine z_strByte 1 (by decide) dJ1_indexOfChar_4cfef_16 hkr (by show 0 ≤ _ ∧ _ < ((9 : Nat) : Int); omega) ?_
      refine z_iload dJ1_indexOfChar_4cfef_17 rfl ?_
      refine z_icmp_ne (tgt := 25) dJ1_indexOfChar_4cfef_19 (by decide) (inR_sb _ _) inR_b8 (fun q => ?_) (fun q => ?_)
      · refine z_iinc (L' := [some (.ref (g.2.2.2 5)), some (vI n), some (vI 0), some (vI 9), some (vI (b8 n)), some (vI (k + 1 : Nat))]) dJ1_indexOfChar_4cfef_25 rfl rfl rfl (by rw [w32_eq (by unfold inR; omega)]; rfl) ?_
        refine z_goto (tgt := 7) dJ1_indexOfChar_4cfef_28 (by decide) ?_
        refine ih (k + 1) (by omega) (fun j hj2 => ?_)
        rcases Nat.lt_succ_iff_lt_or_eq.mp hj2 with h | rfl
        · exact hj j h
        · simpa using q
      · refine z_iload dJ1_indexOfChar_4cfef_22 rfl ?_
        rw [ix_hit n hn k hk9 (by simpa using q) hj] at hE
        exact z_iret dJ1_indexOfChar_4cfef_24 hE trivial rfl
  exact lp 9 0 rfl (fun j h => by omega)
theorem s_slix {c : Int} (hc : inR c) : Spec l g 1 yJ1_indexOf_4cfef cJ1_indexOf_4cfef 4 (some .int) [.ref (g.2.2.2 5), vI c, vI 0, vI 9] M (some (vI (ixS c))) True M := by
  refine spec_of (μ := (cJ1_indexOf_4cfef, "java/lang/StringLatin1", 4, 1, "indexOf")) (k := 0) (L0 := [some (.ref (g.2.2.2 5)), some (vI c), some (vI 0), some (vI 9)]) rfl mw_slix rfl rfl (Nat.le_refl _) (fun φ hb hE => ?_)
  refine z_iload_n dJ1_indexOf_4cfef_0 rfl ?_
  refine z_callS (As := [vI c]) (rest := []) (s_cane hc) dJ1_indexOf_4cfef_1 mw_cane (tin3 62 (by decide +kernel) rfl) st_cane rfl rfl rfl rfl (Nat.le_refl _) (Nat.le_of_eq hb.symm) (fun _ => ?_)
  show Zt _ _ _ _ 4 _ [vI (if c < 0 ∨ 255 < c then 0 else 1)] _
  by_cases hcc : c < 0 ∨ 255 < c
  · rw [if_pos hcc]
    refine z_if_ne (tgt := 9) dJ1_indexOf_4cfef_4 (by decide) inR_0 (fun q => absurd rfl q) (fun _ => ?_)
    refine z_iconst dJ1_indexOf_4cfef_7 ?_
    rw [show ixS c = -1 from if_pos hcc] at hE
    exact z_iret dJ1_indexOf_4cfef_8 hE trivial rfl
  rw [if_neg hcc]
  refine z_if_ne (tgt := 9) dJ1_indexOf_4cfef_4 (by decide) (inRd (by decide)) (fun _ => ?_) (fun q => absurd q (by decide))
  refine z_iload_n dJ1_indexOf_4cfef_9 rfl ?_
  refine z_iconst dJ1_indexOf_4cfef_10 ?_
  refine z_max dJ1_indexOf_4cfef_11 inR_0 inR_0 (tin3 65 (by decide +kernel) rfl) math_max_s math_i math_max_c rfl rfl (Nat.le_of_eq hb.symm) ?_
  refine z_istore_n (L' := [some (.ref (g.2.2.2 5)), some (vI c), some (vI 0), some (vI 9)]) dJ1_indexOf_4cfef_14 rfl rfl rfl ?_
  refine z_iload_n dJ1_indexOf_4cfef_15 rfl ?_
  refine z_aload_n dJ1_indexOf_4cfef_16 rfl ?_
  refine z_strLen 1 (by decide) dJ1_indexOf_4cfef_17 ?_
  show Zt _ _ _ _ 18 _ [vI 9, vI 9] _
  refine z_min dJ1_indexOf_4cfef_18 (inRd (by decide)) (inRd (by decide)) (tin3 68 (by decide +kernel) rfl) math_min_s math_i math_min_c rfl rfl (Nat.le_of_eq hb.symm) ?_
  refine z_istore_n (L' := [some (.ref (g.2.2.2 5)), some (vI c), some (vI 0), some (vI 9)]) dJ1_indexOf_4cfef_21 rfl rfl rfl ?_
  refine z_iload_n dJ1_indexOf_4cfef_22 rfl ?_
  refine z_iload_n dJ1_indexOf_4cfef_23 rfl ?_
  refine z_icmp_lt (tgt := 29) dJ1_indexOf_4cfef_24 (by decide) inR_0 (inRd (by decide)) (fun _ => ?_) (fun q => absurd (by decide) q)
  refine z_aload_n dJ1_indexOf_4cfef_29 rfl ?_
  refine z_iload_n dJ1_indexOf_4cfef_30 rfl ?_
  refine z_iload_n dJ1_indexOf_4cfef_31 rfl ?_
  refine z_iload_n dJ1_indexOf_4cfef_32 rfl ?_
  refine z_callS (As := [.ref (g.2.2.2 5), vI c, vI 0, vI 9]) (rest := []) (s_slixc hc (by omega)) dJ1_indexOf_4cfef_33 mw_slixc (tin3 71 (by decide +kernel) rfl) st_slixc rfl rfl rfl rfl (Nat.le_refl _) (Nat.le_of_eq hb.symm) (fun _ => ?_)
  show Zt _ _ _ _ 36 _ [vI (ixS c)] _
  exact z_iret dJ1_indexOf_4cfef_36 hE trivial rfl
theorem s_ix2 {c : Int} (hc : inR c) : Spec l g 2 yJ0_indexOf_7cf53 cJ0_indexOf_7cf53 3 (some .int) [.ref (g.2.2.2 3), vI c, vI 0] M (some (vI (ixS c))) True M := by
  refine spec_of (μ := (cJ0_indexOf_7cf53, "java/lang/String", 3, 2, "indexOf")) (k := 0) (L0 := [some (.ref (g.2.2.2 3)), some (vI c), some (vI 0)]) rfl mw_ix2 rfl rfl (Nat.le_refl _) (fun φ hb hE => ?_)
  refine z_aload_n dJ0_indexOf_7cf53_0 rfl ?_
  refine z_callStr 1 (by decide) (As := []) (rest := []) (s_isL 1 (by decide)) dJ0_indexOf_7cf53_1 mw_isLatin1 rfl (tin3 6 (by decide +kernel) rfl) im_isLatin1 se_isLatin1 rfl rfl rfl rfl (Nat.le_refl _) (Nat.le_of_eq hb.symm) (fun _ => ?_)
  show Zt _ _ _ _ 4 _ [vI 1] _
  refine z_if_eq (tgt := 23) dJ0_indexOf_7cf53_4 (by decide) (inRd (by decide)) (fun q => absurd q (by decide)) (fun _ => ?_)
  refine z_aload_n dJ0_indexOf_7cf53_7 rfl ?_
  refine z_strV 1 (by decide) dJ0_indexOf_7cf53_8 (tin8 49 (by decide +kernel) rfl) ?_
  refine z_iload_n dJ0_indexOf_7cf53_11 rfl ?_
  refine z_iload_n dJ0_indexOf_7cf53_12 rfl ?_
  refine z_aload_n dJ0_indexOf_7cf53_13 rfl ?_
  refine z_callStr 1 (by decide) (As := []) (rest := [vI 0, vI c, .ref (g.2.2.2 5)]) (s_slen 1 (by decide)) dJ0_indexOf_7cf53_14 mw_slen rfl (tin3 51 (by decide +kernel) rfl) im_slen se_slen rfl rfl rfl rfl (Nat.le_refl _) (Nat.le_of_eq hb.symm) (fun _ => ?_)
  show Zt _ _ _ _ 17 _ [vI (shr32 ((9 : Nat) : Int) 0), vI 0, vI c, .ref (g.2.2.2 5)] _
  rw [show shr32 ((9 : Nat) : Int) 0 = 9 by decide +kernel]
  refine z_callS (As := [.ref (g.2.2.2 5), vI c, vI 0, vI 9]) (rest := []) (s_slix hc) dJ0_indexOf_7cf53_17 mw_slix (tin3 59 (by decide +kernel) rfl) st_slix rfl rfl rfl rfl (Nat.le_refl _) (Nat.le_of_eq hb.symm) (fun _ => ?_)
  show Zt _ _ _ _ 20 _ [vI (ixS c)] _
  refine z_goto (tgt := 36) dJ0_indexOf_7cf53_20 (by decide) ?_
  exact z_iret dJ0_indexOf_7cf53_36 hE trivial rfl
theorem inR_ixS (c : Int) : inR (ixS c) := by
  unfold ixS
  split
  · exact inRd (by decide)
  · cases h : SGB.findIdx? (fun b => decide (b.toInt = c)) with
    | none => exact inRd (by decide)
    | some k =>
      have : k < 9 := by
        have := List.findIdx?_eq_some_iff_getElem.mp h
        obtain ⟨h1, -⟩ := this
        simpa [SGB] using h1
      unfold inR
      simp only
      omega
theorem s_indexOf {c : Int} (hc : inR c) : Spec l g 3 yJ0_indexOf_0f7a4 cJ0_indexOf_0f7a4 2 (some .int) [.ref (g.2.2.2 3), vI c] M (some (vI (ixS c))) (inR (ixS c)) M := by
  refine spec_of (μ := (cJ0_indexOf_0f7a4, "java/lang/String", 2, 3, "indexOf")) (k := 0) (L0 := [some (.ref (g.2.2.2 3)), some (vI c)]) rfl mw_ix1 rfl rfl (Nat.le_refl _) (fun φ hb hE => ?_)
  refine z_aload_n dJ0_indexOf_0f7a4_0 rfl ?_
  refine z_iload_n dJ0_indexOf_0f7a4_1 rfl ?_
  refine z_iconst dJ0_indexOf_0f7a4_2 ?_
  refine z_callStr 1 (by decide) (As := [vI c, vI 0]) (rest := []) (s_ix2 hc) dJ0_indexOf_0f7a4_3 mw_ix2 rfl (tin3 47 (by decide +kernel) rfl) im_ix2 se_ix2 rfl rfl rfl rfl (Nat.le_refl _) (Nat.le_of_eq hb.symm) (fun _ => ?_)
  show Zt _ _ _ _ 6 _ [vI (ixS c)] _
  exact z_iret dJ0_indexOf_0f7a4_6 hE (inR_ixS c) rfl
end STR3
section FILL
variable {l : Launch} {g : GX} {z r n : Nat} {I J : Nat → Nat → Int} {G : Nat → Nat → Nat} {v : Int}
theorem fill_step (k : Nat) : up2 (fillA I r k v) r k v = fillA I r (k + 1) v := by
  funext x y
  unfold up2 fillA
  by_cases hx : x = r
  · by_cases hy : y = k
    · simp [hx, hy]
    · by_cases h : y < k
      · simp [hx, h, Nat.lt_succ_of_lt h]
      · simp [hx, hy, h, show ¬ y < k + 1 by omega]
  · simp [hx]
theorem fill_0 : fillA I r 0 v = I := by
  funext x y
  unfold fillA
  simp
theorem s_fill (hr : SH r = (20, n)) (h0 : 0 < r) (hz : r ≤ z) (hv : inR v) (hn : n < 100000) : Spec l g 13 yJ7_fill_53178 cJ7_fill_53178 4 none [vR g r, vI v] (z, I, J, G) none True (z, fillA I r n v, J, G) := by
  refine spec_of (μ := (cJ7_fill_53178, "java/util/Arrays", 4, 13, "fill")) (k := 2) (L0 := [some (vR g r), some (vI v), none, none]) rfl mw_fill rfl rfl (Nat.le_refl _) (fun φ hb hE => ?_)
  have hnr : inR (n : Int) := by unfold inR; omega
  refine z_iconst dJ7_fill_53178_0 ?_
  refine z_istore_n (L' := [some (vR g r), some (vI v), some (vI (0 : Nat)), none]) dJ7_fill_53178_1 rfl rfl rfl ?_
  refine z_aload_n dJ7_fill_53178_2 rfl ?_
  refine z_alen dJ7_fill_53178_3 hr h0 hz ?_
  refine z_istore_n (L' := [some (vR g r), some (vI v), some (vI (0 : Nat)), some (vI n)]) dJ7_fill_53178_4 rfl rfl rfl ?_
  have lp : ∀ m k : Nat, m + k = n → Zt l g φ (cJ7_fill_53178, "java/util/Arrays", 4, 13, "fill") 5 [some (vR g r), some (vI v), some (vI (k : Nat)), some (vI n)] [] (z, fillA I r k v, J, G) := by
    intro m
    induction m with
    | zero =>
      intro k hk
      obtain rfl : k = n := by omega
      refine z_iload_n dJ7_fill_53178_5 rfl ?_
      refine z_iload_n dJ7_fill_53178_6 rfl ?_
      refine z_icmp_ge (tgt := 20) dJ7_fill_53178_7 (by decide) hnr hnr (fun _ => ?_) (fun q => absurd (Int.le_refl _) q)
      exact z_vret dJ7_fill_53178_20 hE trivial rfl
    | succ m ih =>
      intro k hk
      have hkr : inR (k : Int) := by unfold inR; omega
      refine z_iload_n dJ7_fill_53178_5 rfl ?_
      refine z_iload_n dJ7_fill_53178_6 rfl ?_
      refine z_icmp_ge (tgt := 20) dJ7_fill_53178_7 (by decide) hkr hnr (fun q => absurd q (by omega)) (fun _ => ?_)
      refine z_aload_n dJ7_fill_53178_10 rfl ?_
      refine z_iload_n dJ7_fill_53178_11 rfl ?_
      refine z_iload_n dJ7_fill_53178_12 rfl ?_
      refine y_iast dJ7_fill_53178_13 hr h0 hz hkr (by omega) hv ?_
      rw [Int.toNat_natCast, fill_step]
      refine z_iinc (L' := [some (vR g r), some (vI v), some (vI (k + 1 : Nat)), some (vI n)]) dJ7_fill_53178_14 rfl rfl rfl (by rw [w32_eq (by unfold inR; omega)]; rfl) ?_
      refine z_goto (tgt := 5) dJ7_fill_53178_17 (by decide) ?_
      exact ih (k + 1) (by omega)
  have h := lp n 0 (by omega)
  rw [fill_0] at h
  exact h
end FILL
