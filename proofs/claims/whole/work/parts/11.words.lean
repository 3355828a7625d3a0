set_option maxRecDepth 10000 in
theorem pn_0 : plainName RX0 = true := by decide +kernel
set_option maxRecDepth 10000 in
theorem nh_0 : RX0 ≠ "java/lang/invoke/MethodHandle" ∧ RX0 ≠ "java/lang/invoke/VarHandle" := by decide +kernel
set_option maxRecDepth 10000 in
theorem ini_0 : Cond.initialized RX0 ∈ lw_g := tin1 7 (by rfl) rfl
set_option maxRecDepth 10000 in
theorem pn_1 : plainName RX1 = true := by decide +kernel
set_option maxRecDepth 10000 in
theorem nh_1 : RX1 ≠ "java/lang/invoke/MethodHandle" ∧ RX1 ≠ "java/lang/invoke/VarHandle" := by decide +kernel
set_option maxRecDepth 10000 in
theorem ini_1 : Cond.initialized RX1 ∈ lw_g := tin1 10 (by rfl) rfl
set_option maxRecDepth 10000 in
theorem pn_2 : plainName RX2 = true := by decide +kernel
set_option maxRecDepth 10000 in
theorem nh_2 : RX2 ≠ "java/lang/invoke/MethodHandle" ∧ RX2 ≠ "java/lang/invoke/VarHandle" := by decide +kernel
set_option maxRecDepth 10000 in
theorem ini_2 : Cond.initialized RX2 ∈ lw_g := tin1 11 (by rfl) rfl
set_option maxRecDepth 10000 in
theorem pn_3 : plainName RX3 = true := by decide +kernel
set_option maxRecDepth 10000 in
theorem nh_3 : RX3 ≠ "java/lang/invoke/MethodHandle" ∧ RX3 ≠ "java/lang/invoke/VarHandle" := by decide +kernel
set_option maxRecDepth 10000 in
theorem ini_3 : Cond.initialized RX3 ∈ lw_g := tin1 6 (by rfl) rfl
set_option maxRecDepth 10000 in
theorem pn_4 : plainName RX4 = true := by decide +kernel
set_option maxRecDepth 10000 in
theorem nh_4 : RX4 ≠ "java/lang/invoke/MethodHandle" ∧ RX4 ≠ "java/lang/invoke/VarHandle" := by decide +kernel
set_option maxRecDepth 10000 in
theorem ini_4 : Cond.initialized RX4 ∈ lw_g := tin1 8 (by rfl) rfl
set_option maxRecDepth 10000 in
theorem pn_5 : plainName RX5 = true := by decide +kernel
set_option maxRecDepth 10000 in
theorem nh_5 : RX5 ≠ "java/lang/invoke/MethodHandle" ∧ RX5 ≠ "java/lang/invoke/VarHandle" := by decide +kernel
set_option maxRecDepth 10000 in
theorem ini_5 : Cond.initialized RX5 ∈ lw_g := tin1 3 (by rfl) rfl
set_option maxRecDepth 10000 in
theorem pn_6 : plainName RX6 = true := by decide +kernel
set_option maxRecDepth 10000 in
theorem nh_6 : RX6 ≠ "java/lang/invoke/MethodHandle" ∧ RX6 ≠ "java/lang/invoke/VarHandle" := by decide +kernel
set_option maxRecDepth 10000 in
theorem ini_6 : Cond.initialized RX6 ∈ lw_g := tin1 5 (by rfl) rfl
set_option maxRecDepth 10000 in
theorem pn_7 : plainName RX7 = true := by decide +kernel
set_option maxRecDepth 10000 in
theorem nh_7 : RX7 ≠ "java/lang/invoke/MethodHandle" ∧ RX7 ≠ "java/lang/invoke/VarHandle" := by decide +kernel
set_option maxRecDepth 10000 in
theorem ini_7 : Cond.initialized RX7 ∈ lw_g := tin1 2 (by rfl) rfl
set_option maxRecDepth 10000 in
theorem pn_8 : plainName RX8 = true := by decide +kernel
set_option maxRecDepth 10000 in
theorem nh_8 : RX8 ≠ "java/lang/invoke/MethodHandle" ∧ RX8 ≠ "java/lang/invoke/VarHandle" := by decide +kernel
set_option maxRecDepth 10000 in
theorem ini_8 : Cond.initialized RX8 ∈ lw_g := tin1 4 (by rfl) rfl
set_option maxRecDepth 10000 in
theorem pn_9 : plainName RX9 = true := by decide +kernel
set_option maxRecDepth 10000 in
theorem nh_9 : RX9 ≠ "java/lang/invoke/MethodHandle" ∧ RX9 ≠ "java/lang/invoke/VarHandle" := by decide +kernel
set_option maxRecDepth 10000 in
theorem ini_9 : Cond.initialized RX9 ∈ lw_g := tin1 9 (by rfl) rfl
set_option maxRecDepth 10000 in
theorem pn_10 : plainName RX10 = true := by decide +kernel
set_option maxRecDepth 10000 in
theorem nh_10 : RX10 ≠ "java/lang/invoke/MethodHandle" ∧ RX10 ≠ "java/lang/invoke/VarHandle" := by decide +kernel
set_option maxRecDepth 10000 in
theorem ini_10 : Cond.initialized RX10 ∈ lw_g := tin1 1 (by rfl) rfl
set_option maxRecDepth 10000 in
theorem pn_11 : plainName RX11 = true := by decide +kernel
set_option maxRecDepth 10000 in
theorem nh_11 : RX11 ≠ "java/lang/invoke/MethodHandle" ∧ RX11 ≠ "java/lang/invoke/VarHandle" := by decide +kernel
set_option maxRecDepth 10000 in
theorem ini_11 : Cond.initialized RX11 ∈ lw_g := tin1 13 (by rfl) rfl
set_option maxRecDepth 10000 in
theorem pd_0 : (parseMethodDescriptor "()V").map (fun d => d.parameters.length) = some 0 := by decide +kernel
set_option maxRecDepth 10000 in
theorem pd_1 : (parseMethodDescriptor "(LFarewellStones$Bed;)V").map (fun d => d.parameters.length) = some 1 := by decide +kernel
set_option maxRecDepth 10000 in
theorem pd_2 : (parseMethodDescriptor "(LFarewellStones$River;I)I").map (fun d => d.parameters.length) = some 2 := by decide +kernel
set_option maxRecDepth 10000 in
theorem pd_3 : (parseMethodDescriptor "(LFarewellStones$River;I)Z").map (fun d => d.parameters.length) = some 2 := by decide +kernel
set_option maxRecDepth 10000 in
theorem pd_4 : (parseMethodDescriptor "(II)I").map (fun d => d.parameters.length) = some 2 := by decide +kernel
set_option maxRecDepth 10000 in
theorem pd_5 : (parseMethodDescriptor "(IIIII)V").map (fun d => d.parameters.length) = some 5 := by decide +kernel
set_option maxRecDepth 10000 in
theorem pd_6 : (parseMethodDescriptor "(II)Z").map (fun d => d.parameters.length) = some 2 := by decide +kernel
set_option maxRecDepth 10000 in
theorem pd_7 : (parseMethodDescriptor "(LFarewellStones$River;III)I").map (fun d => d.parameters.length) = some 4 := by decide +kernel
set_option maxRecDepth 10000 in
theorem pd_8 : (parseMethodDescriptor "(II)V").map (fun d => d.parameters.length) = some 2 := by decide +kernel
set_option maxRecDepth 10000 in
theorem pd_9 : (parseMethodDescriptor "(III)V").map (fun d => d.parameters.length) = some 3 := by decide +kernel
set_option maxRecDepth 10000 in
theorem pd_10 : (parseMethodDescriptor "(III)I").map (fun d => d.parameters.length) = some 3 := by decide +kernel
set_option maxRecDepth 10000 in
theorem pd_11 : (parseMethodDescriptor "(I)I").map (fun d => d.parameters.length) = some 1 := by decide +kernel
set_option maxRecDepth 10000 in
theorem pd_12 : (parseMethodDescriptor "(IIIIII)I").map (fun d => d.parameters.length) = some 6 := by decide +kernel
set_option maxRecDepth 10000 in
theorem pd_13 : (parseMethodDescriptor "(LFarewellStones$River;II)V").map (fun d => d.parameters.length) = some 3 := by decide +kernel
set_option maxRecDepth 10000 in
theorem pd_14 : (parseMethodDescriptor "(LFarewellStones$River;II)Z").map (fun d => d.parameters.length) = some 3 := by decide +kernel
set_option maxRecDepth 10000 in
theorem pd_15 : (parseMethodDescriptor "(LFarewellStones$River;III)V").map (fun d => d.parameters.length) = some 4 := by decide +kernel
set_option maxRecDepth 10000 in
theorem pd_16 : (parseMethodDescriptor "()I").map (fun d => d.parameters.length) = some 0 := by decide +kernel
set_option maxRecDepth 10000 in
theorem pd_17 : (parseMethodDescriptor "(LFarewellStones$River;)I").map (fun d => d.parameters.length) = some 1 := by decide +kernel
set_option maxRecDepth 10000 in
theorem pd_18 : (parseMethodDescriptor "(LFarewellStones$River;[I)V").map (fun d => d.parameters.length) = some 2 := by decide +kernel
set_option maxRecDepth 10000 in
theorem pd_19 : (parseMethodDescriptor "(LFarewellStones$River;II[I)V").map (fun d => d.parameters.length) = some 4 := by decide +kernel
set_option maxRecDepth 10000 in
theorem pd_20 : (parseMethodDescriptor "(LFarewellStones$River;I[I)V").map (fun d => d.parameters.length) = some 3 := by decide +kernel
set_option maxRecDepth 10000 in
theorem pd_21 : (parseMethodDescriptor "(I)V").map (fun d => d.parameters.length) = some 1 := by decide +kernel
set_option maxRecDepth 10000 in
theorem pd_22 : (parseMethodDescriptor "(LFarewellStones$River;[II)V").map (fun d => d.parameters.length) = some 3 := by decide +kernel
set_option maxRecDepth 10000 in
theorem pd_23 : (parseMethodDescriptor "(I)Z").map (fun d => d.parameters.length) = some 1 := by decide +kernel
set_option maxRecDepth 10000 in
theorem pd_24 : (parseMethodDescriptor "(LFarewellStones$River;[I)I").map (fun d => d.parameters.length) = some 2 := by decide +kernel
set_option maxRecDepth 10000 in
theorem pd_25 : (parseMethodDescriptor "(III)Z").map (fun d => d.parameters.length) = some 3 := by decide +kernel
set_option maxRecDepth 10000 in
theorem pd_26 : (parseMethodDescriptor "(LFarewellStones$Ways;)V").map (fun d => d.parameters.length) = some 1 := by decide +kernel
set_option maxRecDepth 10000 in
theorem pd_27 : (parseMethodDescriptor "(LFarewellStones$River;LFarewellStones$Bed;LFarewellStones$Ways;)Z").map (fun d => d.parameters.length) = some 3 := by decide +kernel
set_option maxRecDepth 10000 in
theorem pd_28 : (parseMethodDescriptor "(LFarewellStones$Bed;)Z").map (fun d => d.parameters.length) = some 1 := by decide +kernel
set_option maxRecDepth 10000 in
theorem pd_29 : (parseMethodDescriptor "(LFarewellStones$River;)V").map (fun d => d.parameters.length) = some 1 := by decide +kernel
set_option maxRecDepth 10000 in
theorem pd_30 : (parseMethodDescriptor "(LFarewellStones$Law;I)V").map (fun d => d.parameters.length) = some 2 := by decide +kernel
set_option maxRecDepth 10000 in
theorem pd_31 : (parseMethodDescriptor "(LFarewellStones$Law;)V").map (fun d => d.parameters.length) = some 1 := by decide +kernel
set_option maxRecDepth 10000 in
theorem pd_32 : (parseMethodDescriptor "(LFarewellStones$Tape;II)Z").map (fun d => d.parameters.length) = some 3 := by decide +kernel
set_option maxRecDepth 10000 in
theorem pd_33 : (parseMethodDescriptor "(LFarewellStones$Tape;I)V").map (fun d => d.parameters.length) = some 2 := by decide +kernel
set_option maxRecDepth 10000 in
theorem pd_34 : (parseMethodDescriptor "(LFarewellStones$Tape;LFarewellStones$River;)V").map (fun d => d.parameters.length) = some 2 := by decide +kernel
set_option maxRecDepth 10000 in
theorem pd_35 : (parseMethodDescriptor "(LFarewellStones$Tape;II)I").map (fun d => d.parameters.length) = some 3 := by decide +kernel
set_option maxRecDepth 10000 in
theorem pd_36 : (parseMethodDescriptor "(LFarewellStones$Tape;I)I").map (fun d => d.parameters.length) = some 2 := by decide +kernel
set_option maxRecDepth 10000 in
theorem pd_37 : (parseMethodDescriptor "(LFarewellStones$Tape;III)Z").map (fun d => d.parameters.length) = some 4 := by decide +kernel
set_option maxRecDepth 10000 in
theorem pd_38 : (parseMethodDescriptor "(IIII)V").map (fun d => d.parameters.length) = some 4 := by decide +kernel
set_option maxRecDepth 10000 in
theorem pd_39 : (parseMethodDescriptor "(LFarewellStones$Tape;)V").map (fun d => d.parameters.length) = some 1 := by decide +kernel
set_option maxRecDepth 10000 in
theorem pd_40 : (parseMethodDescriptor "(LFarewellStones$Tape;LFarewellStones$River;)I").map (fun d => d.parameters.length) = some 2 := by decide +kernel
set_option maxRecDepth 10000 in
theorem pd_41 : (parseMethodDescriptor "()Z").map (fun d => d.parameters.length) = some 0 := by decide +kernel
set_option maxRecDepth 10000 in
theorem pd_42 : (parseMethodDescriptor "(LFarewellStones$River;II)I").map (fun d => d.parameters.length) = some 3 := by decide +kernel
set_option maxRecDepth 10000 in
theorem pd_43 : (parseMethodDescriptor "(LFarewellStones$River;)Z").map (fun d => d.parameters.length) = some 1 := by decide +kernel
set_option maxRecDepth 10000 in
theorem pd_44 : (parseMethodDescriptor "(IIIII)I").map (fun d => d.parameters.length) = some 5 := by decide +kernel
set_option maxRecDepth 10000 in
theorem pd_45 : (parseMethodDescriptor "(IIIII)Z").map (fun d => d.parameters.length) = some 5 := by decide +kernel
set_option maxRecDepth 10000 in
theorem pd_46 : (parseMethodDescriptor "(IIII)I").map (fun d => d.parameters.length) = some 4 := by decide +kernel
set_option maxRecDepth 10000 in
theorem pd_47 : (parseMethodDescriptor "(JI)J").map (fun d => d.parameters.length) = some 2 := by decide +kernel
set_option maxRecDepth 10000 in
theorem pd_48 : (parseMethodDescriptor "(IIIIIII)J").map (fun d => d.parameters.length) = some 7 := by decide +kernel
set_option maxRecDepth 10000 in
theorem pd_49 : (parseMethodDescriptor "(IIIJ)V").map (fun d => d.parameters.length) = some 4 := by decide +kernel
set_option maxRecDepth 10000 in
theorem pd_50 : (parseMethodDescriptor "(Z)V").map (fun d => d.parameters.length) = some 1 := by decide +kernel
abbrev mu_B_clear : MU := (cX0_clear, RX0, 1, 14, "clear")
set_option maxRecDepth 10000 in
theorem mw_B_clear : MW yX0_clear cX0_clear 1 (Option.none : Option Jvm.ClassFile.FieldType) 0 := ⟨tin2 140 (by rfl) rfl, ⟨nh_0.1, nh_0.2, pd_0⟩, ini_0, by decide, pn_0⟩
set_option maxRecDepth 10000 in
theorem im_B_clear : Cond.instanceMethod yX0_clear ∈ lw_g := tin2 138 (by rfl) rfl
set_option maxRecDepth 10000 in
theorem se_B_clear : Cond.selects RX0 yX0_clear yX0_clear ∈ lw_g := tin2 139 (by rfl) rfl
abbrev mu_B_copyFrom : MU := (cX0_copyFrom, RX0, 2, 14, "copyFrom")
set_option maxRecDepth 10000 in
theorem mw_B_copyFrom : MW yX0_copyFrom cX0_copyFrom 2 (Option.none : Option Jvm.ClassFile.FieldType) 1 := ⟨tin4 63 (by rfl) rfl, ⟨nh_0.1, nh_0.2, pd_1⟩, ini_0, by decide, pn_0⟩
set_option maxRecDepth 10000 in
theorem im_B_copyFrom : Cond.instanceMethod yX0_copyFrom ∈ lw_g := tin4 61 (by rfl) rfl
set_option maxRecDepth 10000 in
theorem se_B_copyFrom : Cond.selects RX0 yX0_copyFrom yX0_copyFrom ∈ lw_g := tin4 62 (by rfl) rfl
abbrev mu_B_left : MU := (cX0_left, RX0, 3, 0, "left")
set_option maxRecDepth 10000 in
theorem mw_B_left : MW yX0_left cX0_left 3 (Option.some Jvm.ClassFile.FieldType.int) 2 := ⟨tin4 24 (by rfl) rfl, ⟨nh_0.1, nh_0.2, pd_2⟩, ini_0, by decide, pn_0⟩
set_option maxRecDepth 10000 in
theorem im_B_left : Cond.instanceMethod yX0_left ∈ lw_g := tin4 22 (by rfl) rfl
set_option maxRecDepth 10000 in
theorem se_B_left : Cond.selects RX0 yX0_left yX0_left ∈ lw_g := tin4 23 (by rfl) rfl
abbrev mu_B_mayThrow : MU := (cX0_mayThrow, RX0, 3, 1, "mayThrow")
set_option maxRecDepth 10000 in
theorem mw_B_mayThrow : MW yX0_mayThrow cX0_mayThrow 3 (Option.some Jvm.ClassFile.FieldType.boolean) 2 := ⟨tin4 28 (by rfl) rfl, ⟨nh_0.1, nh_0.2, pd_3⟩, ini_0, by decide, pn_0⟩
set_option maxRecDepth 10000 in
theorem im_B_mayThrow : Cond.instanceMethod yX0_mayThrow ∈ lw_g := tin4 26 (by rfl) rfl
set_option maxRecDepth 10000 in
theorem se_B_mayThrow : Cond.selects RX0 yX0_mayThrow yX0_mayThrow ∈ lw_g := tin4 27 (by rfl) rfl
abbrev mu_X_cellNumber : MU := (cX10_cellNumber, RX10, 2, 0, "cellNumber")
set_option maxRecDepth 10000 in
theorem mw_X_cellNumber : MW yX10_cellNumber cX10_cellNumber 2 (Option.some Jvm.ClassFile.FieldType.int) 2 := ⟨tin3 143 (by rfl) rfl, ⟨nh_10.1, nh_10.2, pd_4⟩, ini_10, by decide, pn_10⟩
set_option maxRecDepth 10000 in
theorem st_X_cellNumber : Cond.static yX10_cellNumber ∈ lw_g := tin3 142 (by rfl) rfl
abbrev mu_B_layOn : MU := (cX0_layOn, RX0, 6, 0, "layOn")
set_option maxRecDepth 10000 in
theorem mw_B_layOn : MW yX0_layOn cX0_layOn 6 (Option.none : Option Jvm.ClassFile.FieldType) 5 := ⟨tin4 79 (by rfl) rfl, ⟨nh_0.1, nh_0.2, pd_5⟩, ini_0, by decide, pn_0⟩
set_option maxRecDepth 10000 in
theorem im_B_layOn : Cond.instanceMethod yX0_layOn ∈ lw_g := tin4 78 (by rfl) rfl
set_option maxRecDepth 10000 in
theorem se_B_layOn : Cond.selects RX0 yX0_layOn yX0_layOn ∈ lw_g := tins 23 (by rfl) rfl
abbrev mu_R_drift : MU := (cX6_drift, RX6, 4, 0, "drift")
set_option maxRecDepth 10000 in
theorem mw_R_drift : MW yX6_drift cX6_drift 4 (Option.some Jvm.ClassFile.FieldType.int) 2 := ⟨tin4 74 (by rfl) rfl, ⟨nh_6.1, nh_6.2, pd_4⟩, ini_6, by decide, pn_6⟩
set_option maxRecDepth 10000 in
theorem im_R_drift : Cond.instanceMethod yX6_drift ∈ lw_g := tin4 72 (by rfl) rfl
set_option maxRecDepth 10000 in
theorem se_R_drift : Cond.selects RX6 yX6_drift yX6_drift ∈ lw_g := tin4 73 (by rfl) rfl
abbrev mu_R_has : MU := (cX6_has, RX6, 3, 0, "has")
set_option maxRecDepth 10000 in
theorem mw_R_has : MW yX6_has cX6_has 3 (Option.some Jvm.ClassFile.FieldType.boolean) 2 := ⟨tin3 213 (by rfl) rfl, ⟨nh_6.1, nh_6.2, pd_6⟩, ini_6, by decide, pn_6⟩
set_option maxRecDepth 10000 in
theorem im_R_has : Cond.instanceMethod yX6_has ∈ lw_g := tin3 211 (by rfl) rfl
set_option maxRecDepth 10000 in
theorem se_R_has : Cond.selects RX6 yX6_has yX6_has ∈ lw_g := tin3 212 (by rfl) rfl
abbrev mu_B_throwStone : MU := (cX0_throwStone, RX0, 8, 1, "throwStone")
set_option maxRecDepth 10000 in
theorem mw_B_throwStone : MW yX0_throwStone cX0_throwStone 8 (Option.some Jvm.ClassFile.FieldType.int) 4 := ⟨tin4 70 (by rfl) rfl, ⟨nh_0.1, nh_0.2, pd_7⟩, ini_0, by decide, pn_0⟩
set_option maxRecDepth 10000 in
theorem im_B_throwStone : Cond.instanceMethod yX0_throwStone ∈ lw_g := tin4 68 (by rfl) rfl
set_option maxRecDepth 10000 in
theorem se_B_throwStone : Cond.selects RX0 yX0_throwStone yX0_throwStone ∈ lw_g := tin4 69 (by rfl) rfl
abbrev mu_B_lose : MU := (cX0_lose, RX0, 5, 0, "lose")
set_option maxRecDepth 10000 in
theorem mw_B_lose : MW yX0_lose cX0_lose 5 (Option.none : Option Jvm.ClassFile.FieldType) 2 := ⟨tin4 106 (by rfl) rfl, ⟨nh_0.1, nh_0.2, pd_8⟩, ini_0, by decide, pn_0⟩
set_option maxRecDepth 10000 in
theorem im_B_lose : Cond.instanceMethod yX0_lose ∈ lw_g := tin4 105 (by rfl) rfl
set_option maxRecDepth 10000 in
theorem se_B_lose : Cond.selects RX0 yX0_lose yX0_lose ∈ lw_g := tins 26 (by rfl) rfl
abbrev mu_B_carryOff : MU := (cX0_carryOff, RX0, 7, 1, "carryOff")
set_option maxRecDepth 10000 in
theorem mw_B_carryOff : MW yX0_carryOff cX0_carryOff 7 (Option.none : Option Jvm.ClassFile.FieldType) 3 := ⟨tin4 102 (by rfl) rfl, ⟨nh_0.1, nh_0.2, pd_9⟩, ini_0, by decide, pn_0⟩
set_option maxRecDepth 10000 in
theorem im_B_carryOff : Cond.instanceMethod yX0_carryOff ∈ lw_g := tin4 101 (by rfl) rfl
set_option maxRecDepth 10000 in
theorem se_B_carryOff : Cond.selects RX0 yX0_carryOff yX0_carryOff ∈ lw_g := tins 25 (by rfl) rfl
abbrev mu_B_mossOn : MU := (cX0_mossOn, RX0, 3, 14, "mossOn")
set_option maxRecDepth 10000 in
theorem mw_B_mossOn : MW yX0_mossOn cX0_mossOn 3 (Option.some Jvm.ClassFile.FieldType.int) 2 := ⟨tin3 222 (by rfl) rfl, ⟨nh_0.1, nh_0.2, pd_4⟩, ini_0, by decide, pn_0⟩
set_option maxRecDepth 10000 in
theorem im_B_mossOn : Cond.instanceMethod yX0_mossOn ∈ lw_g := tin3 221 (by rfl) rfl
set_option maxRecDepth 10000 in
theorem se_B_mossOn : Cond.selects RX0 yX0_mossOn yX0_mossOn ∈ lw_g := tins 19 (by rfl) rfl
abbrev mu_W_joined : MU := (cX3_joined, RX3, 3, 0, "joined")
set_option maxRecDepth 10000 in
theorem mw_W_joined : MW yX3_joined cX3_joined 3 (Option.some Jvm.ClassFile.FieldType.int) 3 := ⟨tin4 3 (by rfl) rfl, ⟨nh_3.1, nh_3.2, pd_10⟩, ini_3, by decide, pn_3⟩
set_option maxRecDepth 10000 in
theorem st_W_joined : Cond.static yX3_joined ∈ lw_g := tin4 2 (by rfl) rfl
abbrev mu_W_seenAt : MU := (cX3_seenAt, RX3, 2, 0, "seenAt")
set_option maxRecDepth 10000 in
theorem mw_W_seenAt : MW yX3_seenAt cX3_seenAt 2 (Option.some Jvm.ClassFile.FieldType.int) 1 := ⟨tin4 0 (by rfl) rfl, ⟨nh_3.1, nh_3.2, pd_11⟩, ini_3, by decide, pn_3⟩
set_option maxRecDepth 10000 in
theorem im_W_seenAt : Cond.instanceMethod yX3_seenAt ∈ lw_g := tin3 239 (by rfl) rfl
set_option maxRecDepth 10000 in
theorem se_W_seenAt : Cond.selects RX3 yX3_seenAt yX3_seenAt ∈ lw_g := tins 20 (by rfl) rfl
abbrev mu_W_tells : MU := (cX3_tells, RX3, 14, 1, "tells")
set_option maxRecDepth 10000 in
theorem mw_W_tells : MW yX3_tells cX3_tells 14 (Option.some Jvm.ClassFile.FieldType.int) 6 := ⟨tin3 236 (by rfl) rfl, ⟨nh_3.1, nh_3.2, pd_12⟩, ini_3, by decide, pn_3⟩
set_option maxRecDepth 10000 in
theorem im_W_tells : Cond.instanceMethod yX3_tells ∈ lw_g := tin3 234 (by rfl) rfl
set_option maxRecDepth 10000 in
theorem se_W_tells : Cond.selects RX3 yX3_tells yX3_tells ∈ lw_g := tin3 235 (by rfl) rfl
abbrev mu_B_floodRow : MU := (cX0_floodRow, RX0, 10, 15, "floodRow")
set_option maxRecDepth 10000 in
theorem mw_B_floodRow : MW yX0_floodRow cX0_floodRow 10 (Option.none : Option Jvm.ClassFile.FieldType) 3 := ⟨tin4 98 (by rfl) rfl, ⟨nh_0.1, nh_0.2, pd_13⟩, ini_0, by decide, pn_0⟩
set_option maxRecDepth 10000 in
theorem im_B_floodRow : Cond.instanceMethod yX0_floodRow ∈ lw_g := tin4 97 (by rfl) rfl
set_option maxRecDepth 10000 in
theorem se_B_floodRow : Cond.selects RX0 yX0_floodRow yX0_floodRow ∈ lw_g := tins 24 (by rfl) rfl
abbrev mu_B_passDay : MU := (cX0_passDay, RX0, 7, 16, "passDay")
set_option maxRecDepth 10000 in
theorem mw_B_passDay : MW yX0_passDay cX0_passDay 7 (Option.some Jvm.ClassFile.FieldType.boolean) 3 := ⟨tin4 94 (by rfl) rfl, ⟨nh_0.1, nh_0.2, pd_14⟩, ini_0, by decide, pn_0⟩
set_option maxRecDepth 10000 in
theorem im_B_passDay : Cond.instanceMethod yX0_passDay ∈ lw_g := tin4 92 (by rfl) rfl
set_option maxRecDepth 10000 in
theorem se_B_passDay : Cond.selects RX0 yX0_passDay yX0_passDay ∈ lw_g := tin4 93 (by rfl) rfl
abbrev mu_B_passDays : MU := (cX0_passDays, RX0, 6, 17, "passDays")
set_option maxRecDepth 10000 in
theorem mw_B_passDays : MW yX0_passDays cX0_passDays 6 (Option.none : Option Jvm.ClassFile.FieldType) 4 := ⟨tin4 90 (by rfl) rfl, ⟨nh_0.1, nh_0.2, pd_15⟩, ini_0, by decide, pn_0⟩
set_option maxRecDepth 10000 in
theorem im_B_passDays : Cond.instanceMethod yX0_passDays ∈ lw_g := tin4 88 (by rfl) rfl
set_option maxRecDepth 10000 in
theorem se_B_passDays : Cond.selects RX0 yX0_passDays yX0_passDays ∈ lw_g := tin4 89 (by rfl) rfl
abbrev mu_B_mossAt : MU := (cX0_mossAt, RX0, 2, 15, "mossAt")
set_option maxRecDepth 10000 in
theorem mw_B_mossAt : MW yX0_mossAt cX0_mossAt 2 (Option.some Jvm.ClassFile.FieldType.int) 1 := ⟨tin3 218 (by rfl) rfl, ⟨nh_0.1, nh_0.2, pd_11⟩, ini_0, by decide, pn_0⟩
set_option maxRecDepth 10000 in
theorem im_B_mossAt : Cond.instanceMethod yX0_mossAt ∈ lw_g := tin3 216 (by rfl) rfl
set_option maxRecDepth 10000 in
theorem se_B_mossAt : Cond.selects RX0 yX0_mossAt yX0_mossAt ∈ lw_g := tin3 217 (by rfl) rfl
abbrev mu_B_isStep : MU := (cX0_isStep, RX0, 3, 0, "isStep")
set_option maxRecDepth 10000 in
theorem mw_B_isStep : MW yX0_isStep cX0_isStep 3 (Option.some Jvm.ClassFile.FieldType.boolean) 2 := ⟨tin3 227 (by rfl) rfl, ⟨nh_0.1, nh_0.2, pd_3⟩, ini_0, by decide, pn_0⟩
set_option maxRecDepth 10000 in
theorem im_B_isStep : Cond.instanceMethod yX0_isStep ∈ lw_g := tin3 225 (by rfl) rfl
set_option maxRecDepth 10000 in
theorem se_B_isStep : Cond.selects RX0 yX0_isStep yX0_isStep ∈ lw_g := tin3 226 (by rfl) rfl
abbrev mu_B_slippery : MU := (cX0_slippery, RX0, 4, 16, "slippery")
set_option maxRecDepth 10000 in
theorem mw_B_slippery : MW yX0_slippery cX0_slippery 4 (Option.some Jvm.ClassFile.FieldType.int) 2 := ⟨tin3 231 (by rfl) rfl, ⟨nh_0.1, nh_0.2, pd_2⟩, ini_0, by decide, pn_0⟩
set_option maxRecDepth 10000 in
theorem im_B_slippery : Cond.instanceMethod yX0_slippery ∈ lw_g := tin3 229 (by rfl) rfl
set_option maxRecDepth 10000 in
theorem se_B_slippery : Cond.selects RX0 yX0_slippery yX0_slippery ∈ lw_g := tin3 230 (by rfl) rfl
abbrev mu_B_ownerAt : MU := (cX0_ownerAt, RX0, 5, 0, "ownerAt")
set_option maxRecDepth 10000 in
theorem mw_B_ownerAt : MW yX0_ownerAt cX0_ownerAt 5 (Option.some Jvm.ClassFile.FieldType.int) 2 := ⟨tin4 8 (by rfl) rfl, ⟨nh_0.1, nh_0.2, pd_4⟩, ini_0, by decide, pn_0⟩
set_option maxRecDepth 10000 in
theorem im_B_ownerAt : Cond.instanceMethod yX0_ownerAt ∈ lw_g := tin4 6 (by rfl) rfl
set_option maxRecDepth 10000 in
theorem se_B_ownerAt : Cond.selects RX0 yX0_ownerAt yX0_ownerAt ∈ lw_g := tin4 7 (by rfl) rfl
abbrev mu_B_countOf : MU := (cX0_countOf, RX0, 6, 0, "countOf")
set_option maxRecDepth 10000 in
theorem mw_B_countOf : MW yX0_countOf cX0_countOf 6 (Option.some Jvm.ClassFile.FieldType.int) 2 := ⟨tin5 76 (by rfl) rfl, ⟨nh_0.1, nh_0.2, pd_4⟩, ini_0, by decide, pn_0⟩
set_option maxRecDepth 10000 in
theorem im_B_countOf : Cond.instanceMethod yX0_countOf ∈ lw_g := tin5 75 (by rfl) rfl
set_option maxRecDepth 10000 in
theorem se_B_countOf : Cond.selects RX0 yX0_countOf yX0_countOf ∈ lw_g := tins 46 (by rfl) rfl
abbrev mu_B_countLying : MU := (cX0_countLying, RX0, 3, 0, "countLying")
set_option maxRecDepth 10000 in
theorem mw_B_countLying : MW yX0_countLying cX0_countLying 3 (Option.some Jvm.ClassFile.FieldType.int) 0 := ⟨tin4 37 (by rfl) rfl, ⟨nh_0.1, nh_0.2, pd_16⟩, ini_0, by decide, pn_0⟩
set_option maxRecDepth 10000 in
theorem im_B_countLying : Cond.instanceMethod yX0_countLying ∈ lw_g := tin4 35 (by rfl) rfl
set_option maxRecDepth 10000 in
theorem se_B_countLying : Cond.selects RX0 yX0_countLying yX0_countLying ∈ lw_g := tin4 36 (by rfl) rfl
abbrev mu_B_countLost : MU := (cX0_countLost, RX0, 3, 0, "countLost")
set_option maxRecDepth 10000 in
theorem mw_B_countLost : MW yX0_countLost cX0_countLost 3 (Option.some Jvm.ClassFile.FieldType.int) 0 := ⟨tin4 41 (by rfl) rfl, ⟨nh_0.1, nh_0.2, pd_16⟩, ini_0, by decide, pn_0⟩
set_option maxRecDepth 10000 in
theorem im_B_countLost : Cond.instanceMethod yX0_countLost ∈ lw_g := tin4 39 (by rfl) rfl
set_option maxRecDepth 10000 in
theorem se_B_countLost : Cond.selects RX0 yX0_countLost yX0_countLost ∈ lw_g := tin4 40 (by rfl) rfl
abbrev mu_B_countSteps : MU := (cX0_countSteps, RX0, 4, 1, "countSteps")
set_option maxRecDepth 10000 in
theorem mw_B_countSteps : MW yX0_countSteps cX0_countSteps 4 (Option.some Jvm.ClassFile.FieldType.int) 1 := ⟨tin4 45 (by rfl) rfl, ⟨nh_0.1, nh_0.2, pd_17⟩, ini_0, by decide, pn_0⟩
set_option maxRecDepth 10000 in
theorem im_B_countSteps : Cond.instanceMethod yX0_countSteps ∈ lw_g := tin4 43 (by rfl) rfl
set_option maxRecDepth 10000 in
theorem se_B_countSteps : Cond.selects RX0 yX0_countSteps yX0_countSteps ∈ lw_g := tin4 44 (by rfl) rfl
abbrev mu_B_weighSlippery : MU := (cX0_weighSlippery, RX0, 5, 17, "weighSlippery")
set_option maxRecDepth 10000 in
theorem mw_B_weighSlippery : MW yX0_weighSlippery cX0_weighSlippery 5 (Option.none : Option Jvm.ClassFile.FieldType) 2 := ⟨tin4 135 (by rfl) rfl, ⟨nh_0.1, nh_0.2, pd_18⟩, ini_0, by decide, pn_0⟩
set_option maxRecDepth 10000 in
theorem im_B_weighSlippery : Cond.instanceMethod yX0_weighSlippery ∈ lw_g := tin4 133 (by rfl) rfl
set_option maxRecDepth 10000 in
theorem se_B_weighSlippery : Cond.selects RX0 yX0_weighSlippery yX0_weighSlippery ∈ lw_g := tin4 134 (by rfl) rfl
abbrev mu_B_weighLack : MU := (cX0_weighLack, RX0, 5, 14, "weighLack")
set_option maxRecDepth 10000 in
theorem mw_B_weighLack : MW yX0_weighLack cX0_weighLack 5 (Option.none : Option Jvm.ClassFile.FieldType) 2 := ⟨tin4 216 (by rfl) rfl, ⟨nh_0.1, nh_0.2, pd_18⟩, ini_0, by decide, pn_0⟩
set_option maxRecDepth 10000 in
theorem im_B_weighLack : Cond.instanceMethod yX0_weighLack ∈ lw_g := tin4 214 (by rfl) rfl
set_option maxRecDepth 10000 in
theorem se_B_weighLack : Cond.selects RX0 yX0_weighLack yX0_weighLack ∈ lw_g := tin4 215 (by rfl) rfl
abbrev mu_B_weighHeight : MU := (cX0_weighHeight, RX0, 5, 1, "weighHeight")
set_option maxRecDepth 10000 in
theorem mw_B_weighHeight : MW yX0_weighHeight cX0_weighHeight 5 (Option.none : Option Jvm.ClassFile.FieldType) 4 := ⟨tin5 64 (by rfl) rfl, ⟨nh_0.1, nh_0.2, pd_19⟩, ini_0, by decide, pn_0⟩
set_option maxRecDepth 10000 in
theorem st_B_weighHeight : Cond.static yX0_weighHeight ∈ lw_g := tin5 63 (by rfl) rfl
abbrev mu_B_weighSteps : MU := (cX0_weighSteps, RX0, 4, 2, "weighSteps")
set_option maxRecDepth 10000 in
theorem mw_B_weighSteps : MW yX0_weighSteps cX0_weighSteps 4 (Option.none : Option Jvm.ClassFile.FieldType) 2 := ⟨tin5 61 (by rfl) rfl, ⟨nh_0.1, nh_0.2, pd_18⟩, ini_0, by decide, pn_0⟩
set_option maxRecDepth 10000 in
theorem im_B_weighSteps : Cond.instanceMethod yX0_weighSteps ∈ lw_g := tin5 59 (by rfl) rfl
set_option maxRecDepth 10000 in
theorem se_B_weighSteps : Cond.selects RX0 yX0_weighSteps yX0_weighSteps ∈ lw_g := tin5 60 (by rfl) rfl
abbrev mu_B_weighWithout : MU := (cX0_weighWithout, RX0, 5, 2, "weighWithout")
set_option maxRecDepth 10000 in
theorem mw_B_weighWithout : MW yX0_weighWithout cX0_weighWithout 5 (Option.none : Option Jvm.ClassFile.FieldType) 3 := ⟨tin5 72 (by rfl) rfl, ⟨nh_0.1, nh_0.2, pd_20⟩, ini_0, by decide, pn_0⟩
set_option maxRecDepth 10000 in
theorem im_B_weighWithout : Cond.instanceMethod yX0_weighWithout ∈ lw_g := tin5 70 (by rfl) rfl
set_option maxRecDepth 10000 in
theorem se_B_weighWithout : Cond.selects RX0 yX0_weighWithout yX0_weighWithout ∈ lw_g := tin5 71 (by rfl) rfl
abbrev mu_B_weighAlone : MU := (cX0_weighAlone, RX0, 5, 2, "weighAlone")
set_option maxRecDepth 10000 in
theorem mw_B_weighAlone : MW yX0_weighAlone cX0_weighAlone 5 (Option.none : Option Jvm.ClassFile.FieldType) 3 := ⟨tin5 84 (by rfl) rfl, ⟨nh_0.1, nh_0.2, pd_20⟩, ini_0, by decide, pn_0⟩
set_option maxRecDepth 10000 in
theorem im_B_weighAlone : Cond.instanceMethod yX0_weighAlone ∈ lw_g := tin5 82 (by rfl) rfl
set_option maxRecDepth 10000 in
theorem se_B_weighAlone : Cond.selects RX0 yX0_weighAlone yX0_weighAlone ∈ lw_g := tin5 83 (by rfl) rfl
abbrev mu_F_leadInto : MU := (cX1_leadInto, RX1, 3, 0, "leadInto")
set_option maxRecDepth 10000 in
theorem mw_F_leadInto : MW yX1_leadInto cX1_leadInto 3 (Option.none : Option Jvm.ClassFile.FieldType) 2 := ⟨tin5 127 (by rfl) rfl, ⟨nh_1.1, nh_1.2, pd_8⟩, ini_1, by decide, pn_1⟩
set_option maxRecDepth 10000 in
theorem im_F_leadInto : Cond.instanceMethod yX1_leadInto ∈ lw_g := tin5 126 (by rfl) rfl
set_option maxRecDepth 10000 in
theorem se_F_leadInto : Cond.selects RX1 yX1_leadInto yX1_leadInto ∈ lw_g := tins 52 (by rfl) rfl
abbrev mu_F_addWay : MU := (cX1_addWay, RX1, 5, 1, "addWay")
set_option maxRecDepth 10000 in
theorem mw_F_addWay : MW yX1_addWay cX1_addWay 5 (Option.none : Option Jvm.ClassFile.FieldType) 1 := ⟨tin5 123 (by rfl) rfl, ⟨nh_1.1, nh_1.2, pd_21⟩, ini_1, by decide, pn_1⟩
set_option maxRecDepth 10000 in
theorem im_F_addWay : Cond.instanceMethod yX1_addWay ∈ lw_g := tin5 122 (by rfl) rfl
set_option maxRecDepth 10000 in
theorem se_F_addWay : Cond.selects RX1 yX1_addWay yX1_addWay ∈ lw_g := tins 51 (by rfl) rfl
abbrev mu_F_reach : MU := (cX1_reach, RX1, 3, 0, "reach")
set_option maxRecDepth 10000 in
theorem mw_F_reach : MW yX1_reach cX1_reach 3 (Option.none : Option Jvm.ClassFile.FieldType) 2 := ⟨tin5 108 (by rfl) rfl, ⟨nh_1.1, nh_1.2, pd_8⟩, ini_1, by decide, pn_1⟩
set_option maxRecDepth 10000 in
theorem im_F_reach : Cond.instanceMethod yX1_reach ∈ lw_g := tin5 107 (by rfl) rfl
set_option maxRecDepth 10000 in
theorem se_F_reach : Cond.selects RX1 yX1_reach yX1_reach ∈ lw_g := tins 48 (by rfl) rfl
abbrev mu_F_comeTo : MU := (cX1_comeTo, RX1, 2, 1, "comeTo")
set_option maxRecDepth 10000 in
theorem mw_F_comeTo : MW yX1_comeTo cX1_comeTo 2 (Option.none : Option Jvm.ClassFile.FieldType) 1 := ⟨tin5 112 (by rfl) rfl, ⟨nh_1.1, nh_1.2, pd_21⟩, ini_1, by decide, pn_1⟩
set_option maxRecDepth 10000 in
theorem im_F_comeTo : Cond.instanceMethod yX1_comeTo ∈ lw_g := tin5 111 (by rfl) rfl
set_option maxRecDepth 10000 in
theorem se_F_comeTo : Cond.selects RX1 yX1_comeTo yX1_comeTo ∈ lw_g := tins 49 (by rfl) rfl
abbrev mu_R_countLeaps : MU := (cX6_countLeaps, RX6, 1, 14, "countLeaps")
set_option maxRecDepth 10000 in
theorem mw_R_countLeaps : MW yX6_countLeaps cX6_countLeaps 1 (Option.some Jvm.ClassFile.FieldType.int) 0 := ⟨tin4 153 (by rfl) rfl, ⟨nh_6.1, nh_6.2, pd_16⟩, ini_6, by decide, pn_6⟩
set_option maxRecDepth 10000 in
theorem im_R_countLeaps : Cond.instanceMethod yX6_countLeaps ∈ lw_g := tin4 151 (by rfl) rfl
set_option maxRecDepth 10000 in
theorem se_R_countLeaps : Cond.selects RX6 yX6_countLeaps yX6_countLeaps ∈ lw_g := tin4 152 (by rfl) rfl
abbrev mu_R_leapFrom : MU := (cX6_leapFrom, RX6, 5, 1, "leapFrom")
set_option maxRecDepth 10000 in
theorem mw_R_leapFrom : MW yX6_leapFrom cX6_leapFrom 5 (Option.some Jvm.ClassFile.FieldType.int) 2 := ⟨tin4 164 (by rfl) rfl, ⟨nh_6.1, nh_6.2, pd_4⟩, ini_6, by decide, pn_6⟩
set_option maxRecDepth 10000 in
theorem im_R_leapFrom : Cond.instanceMethod yX6_leapFrom ∈ lw_g := tin4 162 (by rfl) rfl
set_option maxRecDepth 10000 in
theorem se_R_leapFrom : Cond.selects RX6 yX6_leapFrom yX6_leapFrom ∈ lw_g := tin4 163 (by rfl) rfl
abbrev mu_F_goOnFrom : MU := (cX1_goOnFrom, RX1, 7, 15, "goOnFrom")
set_option maxRecDepth 10000 in
theorem mw_F_goOnFrom : MW yX1_goOnFrom cX1_goOnFrom 7 (Option.none : Option Jvm.ClassFile.FieldType) 3 := ⟨tin5 117 (by rfl) rfl, ⟨nh_1.1, nh_1.2, pd_22⟩, ini_1, by decide, pn_1⟩
set_option maxRecDepth 10000 in
theorem im_F_goOnFrom : Cond.instanceMethod yX1_goOnFrom ∈ lw_g := tin5 116 (by rfl) rfl
set_option maxRecDepth 10000 in
theorem se_F_goOnFrom : Cond.selects RX1 yX1_goOnFrom yX1_goOnFrom ∈ lw_g := tins 50 (by rfl) rfl
abbrev mu_R_isFarEnough : MU := (cX6_isFarEnough, RX6, 2, 0, "isFarEnough")
set_option maxRecDepth 10000 in
theorem mw_R_isFarEnough : MW yX6_isFarEnough cX6_isFarEnough 2 (Option.some Jvm.ClassFile.FieldType.boolean) 1 := ⟨tin4 148 (by rfl) rfl, ⟨nh_6.1, nh_6.2, pd_23⟩, ini_6, by decide, pn_6⟩
set_option maxRecDepth 10000 in
theorem im_R_isFarEnough : Cond.instanceMethod yX6_isFarEnough ∈ lw_g := tin4 146 (by rfl) rfl
set_option maxRecDepth 10000 in
theorem se_R_isFarEnough : Cond.selects RX6 yX6_isFarEnough yX6_isFarEnough ∈ lw_g := tin4 147 (by rfl) rfl
abbrev mu_R_isNearEnough : MU := (cX6_isNearEnough, RX6, 2, 0, "isNearEnough")
set_option maxRecDepth 10000 in
theorem mw_R_isNearEnough : MW yX6_isNearEnough cX6_isNearEnough 2 (Option.some Jvm.ClassFile.FieldType.boolean) 1 := ⟨tin4 177 (by rfl) rfl, ⟨nh_6.1, nh_6.2, pd_23⟩, ini_6, by decide, pn_6⟩
set_option maxRecDepth 10000 in
theorem im_R_isNearEnough : Cond.instanceMethod yX6_isNearEnough ∈ lw_g := tin4 175 (by rfl) rfl
set_option maxRecDepth 10000 in
theorem se_R_isNearEnough : Cond.selects RX6 yX6_isNearEnough yX6_isNearEnough ∈ lw_g := tin4 176 (by rfl) rfl
abbrev mu_F_seek : MU := (cX1_seek, RX1, 6, 16, "seek")
set_option maxRecDepth 10000 in
theorem mw_F_seek : MW yX1_seek cX1_seek 6 (Option.some Jvm.ClassFile.FieldType.int) 2 := ⟨tin5 103 (by rfl) rfl, ⟨nh_1.1, nh_1.2, pd_24⟩, ini_1, by decide, pn_1⟩
set_option maxRecDepth 10000 in
theorem im_F_seek : Cond.instanceMethod yX1_seek ∈ lw_g := tin5 102 (by rfl) rfl
set_option maxRecDepth 10000 in
theorem se_F_seek : Cond.selects RX1 yX1_seek yX1_seek ∈ lw_g := tins 47 (by rfl) rfl
abbrev mu_F_most : MU := (cX1_most, RX1, 6, 17, "most")
set_option maxRecDepth 10000 in
theorem mw_F_most : MW yX1_most cX1_most 6 (Option.some Jvm.ClassFile.FieldType.int) 2 := ⟨tin5 98 (by rfl) rfl, ⟨nh_1.1, nh_1.2, pd_24⟩, ini_1, by decide, pn_1⟩
set_option maxRecDepth 10000 in
theorem im_F_most : Cond.instanceMethod yX1_most ∈ lw_g := tin5 96 (by rfl) rfl
set_option maxRecDepth 10000 in
theorem se_F_most : Cond.selects RX1 yX1_most yX1_most ∈ lw_g := tin5 97 (by rfl) rfl
abbrev mu_V_canGive : MU := (cX2_canGive, RX2, 4, 0, "canGive")
set_option maxRecDepth 10000 in
theorem mw_V_canGive : MW yX2_canGive cX2_canGive 4 (Option.some Jvm.ClassFile.FieldType.boolean) 2 := ⟨tin5 9 (by rfl) rfl, ⟨nh_2.1, nh_2.2, pd_6⟩, ini_2, by decide, pn_2⟩
set_option maxRecDepth 10000 in
theorem im_V_canGive : Cond.instanceMethod yX2_canGive ∈ lw_g := tin5 8 (by rfl) rfl
set_option maxRecDepth 10000 in
theorem se_V_canGive : Cond.selects RX2 yX2_canGive yX2_canGive ∈ lw_g := tins 36 (by rfl) rfl
abbrev mu_V_isFree : MU := (cX2_isFree, RX2, 2, 0, "isFree")
set_option maxRecDepth 10000 in
theorem mw_V_isFree : MW yX2_isFree cX2_isFree 2 (Option.some Jvm.ClassFile.FieldType.boolean) 1 := ⟨tin5 21 (by rfl) rfl, ⟨nh_2.1, nh_2.2, pd_23⟩, ini_2, by decide, pn_2⟩
set_option maxRecDepth 10000 in
theorem im_V_isFree : Cond.instanceMethod yX2_isFree ∈ lw_g := tin5 20 (by rfl) rfl
set_option maxRecDepth 10000 in
theorem se_V_isFree : Cond.selects RX2 yX2_isFree yX2_isFree ∈ lw_g := tins 39 (by rfl) rfl
abbrev mu_V_leastFree : MU := (cX2_leastFree, RX2, 3, 1, "leastFree")
set_option maxRecDepth 10000 in
theorem mw_V_leastFree : MW yX2_leastFree cX2_leastFree 3 (Option.some Jvm.ClassFile.FieldType.int) 0 := ⟨tin5 17 (by rfl) rfl, ⟨nh_2.1, nh_2.2, pd_16⟩, ini_2, by decide, pn_2⟩
set_option maxRecDepth 10000 in
theorem im_V_leastFree : Cond.instanceMethod yX2_leastFree ∈ lw_g := tin5 16 (by rfl) rfl
set_option maxRecDepth 10000 in
theorem se_V_leastFree : Cond.selects RX2 yX2_leastFree yX2_leastFree ∈ lw_g := tins 38 (by rfl) rfl
abbrev mu_V_passOn : MU := (cX2_passOn, RX2, 4, 0, "passOn")
set_option maxRecDepth 10000 in
theorem mw_V_passOn : MW yX2_passOn cX2_passOn 4 (Option.some Jvm.ClassFile.FieldType.int) 1 := ⟨tin5 25 (by rfl) rfl, ⟨nh_2.1, nh_2.2, pd_11⟩, ini_2, by decide, pn_2⟩
set_option maxRecDepth 10000 in
theorem im_V_passOn : Cond.instanceMethod yX2_passOn ∈ lw_g := tin5 24 (by rfl) rfl
set_option maxRecDepth 10000 in
theorem se_V_passOn : Cond.selects RX2 yX2_passOn yX2_passOn ∈ lw_g := tins 40 (by rfl) rfl
abbrev mu_V_spread : MU := (cX2_spread, RX2, 8, 1, "spread")
set_option maxRecDepth 10000 in
theorem mw_V_spread : MW yX2_spread cX2_spread 8 (Option.none : Option Jvm.ClassFile.FieldType) 3 := ⟨tin5 13 (by rfl) rfl, ⟨nh_2.1, nh_2.2, pd_9⟩, ini_2, by decide, pn_2⟩
set_option maxRecDepth 10000 in
theorem im_V_spread : Cond.instanceMethod yX2_spread ∈ lw_g := tin5 12 (by rfl) rfl
set_option maxRecDepth 10000 in
theorem se_V_spread : Cond.selects RX2 yX2_spread yX2_spread ∈ lw_g := tins 37 (by rfl) rfl
abbrev mu_V_give : MU := (cX2_give, RX2, 4, 14, "give")
set_option maxRecDepth 10000 in
theorem mw_V_give : MW yX2_give cX2_give 4 (Option.some Jvm.ClassFile.FieldType.boolean) 1 := ⟨tin5 4 (by rfl) rfl, ⟨nh_2.1, nh_2.2, pd_23⟩, ini_2, by decide, pn_2⟩
set_option maxRecDepth 10000 in
theorem im_V_give : Cond.instanceMethod yX2_give ∈ lw_g := tin5 3 (by rfl) rfl
set_option maxRecDepth 10000 in
theorem se_V_give : Cond.selects RX2 yX2_give yX2_give ∈ lw_g := tins 35 (by rfl) rfl
abbrev mu_V_handOn : MU := (cX2_handOn, RX2, 4, 0, "handOn")
set_option maxRecDepth 10000 in
theorem mw_V_handOn : MW yX2_handOn cX2_handOn 4 (Option.none : Option Jvm.ClassFile.FieldType) 1 := ⟨tin5 41 (by rfl) rfl, ⟨nh_2.1, nh_2.2, pd_21⟩, ini_2, by decide, pn_2⟩
set_option maxRecDepth 10000 in
theorem im_V_handOn : Cond.instanceMethod yX2_handOn ∈ lw_g := tin5 40 (by rfl) rfl
set_option maxRecDepth 10000 in
theorem se_V_handOn : Cond.selects RX2 yX2_handOn yX2_handOn ∈ lw_g := tins 44 (by rfl) rfl
abbrev mu_V_spreadBack : MU := (cX2_spreadBack, RX2, 8, 14, "spreadBack")
set_option maxRecDepth 10000 in
theorem mw_V_spreadBack : MW yX2_spreadBack cX2_spreadBack 8 (Option.none : Option Jvm.ClassFile.FieldType) 3 := ⟨tin5 37 (by rfl) rfl, ⟨nh_2.1, nh_2.2, pd_9⟩, ini_2, by decide, pn_2⟩
set_option maxRecDepth 10000 in
theorem im_V_spreadBack : Cond.instanceMethod yX2_spreadBack ∈ lw_g := tin5 36 (by rfl) rfl
set_option maxRecDepth 10000 in
theorem se_V_spreadBack : Cond.selects RX2 yX2_spreadBack yX2_spreadBack ∈ lw_g := tins 43 (by rfl) rfl
abbrev mu_V_giveInstead : MU := (cX2_giveInstead, RX2, 6, 15, "giveInstead")
set_option maxRecDepth 10000 in
theorem mw_V_giveInstead : MW yX2_giveInstead cX2_giveInstead 6 (Option.some Jvm.ClassFile.FieldType.boolean) 3 := ⟨tin5 33 (by rfl) rfl, ⟨nh_2.1, nh_2.2, pd_25⟩, ini_2, by decide, pn_2⟩
set_option maxRecDepth 10000 in
theorem im_V_giveInstead : Cond.instanceMethod yX2_giveInstead ∈ lw_g := tin5 32 (by rfl) rfl
set_option maxRecDepth 10000 in
theorem se_V_giveInstead : Cond.selects RX2 yX2_giveInstead yX2_giveInstead ∈ lw_g := tins 42 (by rfl) rfl
abbrev mu_V_giveByFirst : MU := (cX2_giveByFirst, RX2, 4, 16, "giveByFirst")
set_option maxRecDepth 10000 in
theorem mw_V_giveByFirst : MW yX2_giveByFirst cX2_giveByFirst 4 (Option.none : Option Jvm.ClassFile.FieldType) 1 := ⟨tin5 29 (by rfl) rfl, ⟨nh_2.1, nh_2.2, pd_21⟩, ini_2, by decide, pn_2⟩
set_option maxRecDepth 10000 in
theorem im_V_giveByFirst : Cond.instanceMethod yX2_giveByFirst ∈ lw_g := tin5 28 (by rfl) rfl
set_option maxRecDepth 10000 in
theorem se_V_giveByFirst : Cond.selects RX2 yX2_giveByFirst yX2_giveByFirst ∈ lw_g := tins 41 (by rfl) rfl
abbrev mu_V_listNeeds : MU := (cX2_listNeeds, RX2, 5, 0, "listNeeds")
set_option maxRecDepth 10000 in
theorem mw_V_listNeeds : MW yX2_listNeeds cX2_listNeeds 5 (Option.none : Option Jvm.ClassFile.FieldType) 1 := ⟨tin5 0 (by rfl) rfl, ⟨nh_2.1, nh_2.2, pd_26⟩, ini_2, by decide, pn_2⟩
set_option maxRecDepth 10000 in
theorem im_V_listNeeds : Cond.instanceMethod yX2_listNeeds ∈ lw_g := tin4 239 (by rfl) rfl
set_option maxRecDepth 10000 in
theorem se_V_listNeeds : Cond.selects RX2 yX2_listNeeds yX2_listNeeds ∈ lw_g := tins 34 (by rfl) rfl
abbrev mu_Y_sum : MU := (cX9_sum, RX9, 3, 0, "sum")
set_option maxRecDepth 10000 in
theorem mw_Y_sum : MW yX9_sum cX9_sum 3 (Option.some Jvm.ClassFile.FieldType.int) 0 := ⟨tin4 200 (by rfl) rfl, ⟨nh_9.1, nh_9.2, pd_16⟩, ini_9, by decide, pn_9⟩
set_option maxRecDepth 10000 in
theorem im_Y_sum : Cond.instanceMethod yX9_sum ∈ lw_g := tin4 198 (by rfl) rfl
set_option maxRecDepth 10000 in
theorem se_Y_sum : Cond.selects RX9 yX9_sum yX9_sum ∈ lw_g := tin4 199 (by rfl) rfl
abbrev mu_V_settle : MU := (cX2_settle, RX2, 6, 17, "settle")
set_option maxRecDepth 10000 in
theorem mw_V_settle : MW yX2_settle cX2_settle 6 (Option.some Jvm.ClassFile.FieldType.boolean) 3 := ⟨tin4 232 (by rfl) rfl, ⟨nh_2.1, nh_2.2, pd_27⟩, ini_2, by decide, pn_2⟩
set_option maxRecDepth 10000 in
theorem im_V_settle : Cond.instanceMethod yX2_settle ∈ lw_g := tin4 230 (by rfl) rfl
set_option maxRecDepth 10000 in
theorem se_V_settle : Cond.selects RX2 yX2_settle yX2_settle ∈ lw_g := tin4 231 (by rfl) rfl
abbrev mu_V_sum : MU := (cX2_sum, RX2, 3, 0, "sum")
set_option maxRecDepth 10000 in
theorem mw_V_sum : MW yX2_sum cX2_sum 3 (Option.some Jvm.ClassFile.FieldType.int) 0 := ⟨tin5 45 (by rfl) rfl, ⟨nh_2.1, nh_2.2, pd_16⟩, ini_2, by decide, pn_2⟩
set_option maxRecDepth 10000 in
theorem im_V_sum : Cond.instanceMethod yX2_sum ∈ lw_g := tin5 43 (by rfl) rfl
set_option maxRecDepth 10000 in
theorem se_V_sum : Cond.selects RX2 yX2_sum yX2_sum ∈ lw_g := tin5 44 (by rfl) rfl
abbrev mu_W_clear : MU := (cX3_clear, RX3, 1, 0, "clear")
set_option maxRecDepth 10000 in
theorem mw_W_clear : MW yX3_clear cX3_clear 1 (Option.none : Option Jvm.ClassFile.FieldType) 0 := ⟨tin2 132 (by rfl) rfl, ⟨nh_3.1, nh_3.2, pd_0⟩, ini_3, by decide, pn_3⟩
set_option maxRecDepth 10000 in
theorem im_W_clear : Cond.instanceMethod yX3_clear ∈ lw_g := tin2 130 (by rfl) rfl
set_option maxRecDepth 10000 in
theorem se_W_clear : Cond.selects RX3 yX3_clear yX3_clear ∈ lw_g := tin2 131 (by rfl) rfl
abbrev mu_W_put : MU := (cX3_put, RX3, 3, 0, "put")
set_option maxRecDepth 10000 in
theorem mw_W_put : MW yX3_put cX3_put 3 (Option.some Jvm.ClassFile.FieldType.int) 2 := ⟨tin3 189 (by rfl) rfl, ⟨nh_3.1, nh_3.2, pd_4⟩, ini_3, by decide, pn_3⟩
set_option maxRecDepth 10000 in
theorem im_W_put : Cond.instanceMethod yX3_put ∈ lw_g := tin3 187 (by rfl) rfl
set_option maxRecDepth 10000 in
theorem se_W_put : Cond.selects RX3 yX3_put yX3_put ∈ lw_g := tin3 188 (by rfl) rfl
abbrev mu_W_aimAtEnd : MU := (cX3_aimAtEnd, RX3, 2, 0, "aimAtEnd")
set_option maxRecDepth 10000 in
theorem mw_W_aimAtEnd : MW yX3_aimAtEnd cX3_aimAtEnd 2 (Option.none : Option Jvm.ClassFile.FieldType) 1 := ⟨tin3 197 (by rfl) rfl, ⟨nh_3.1, nh_3.2, pd_21⟩, ini_3, by decide, pn_3⟩
set_option maxRecDepth 10000 in
theorem im_W_aimAtEnd : Cond.instanceMethod yX3_aimAtEnd ∈ lw_g := tin3 195 (by rfl) rfl
set_option maxRecDepth 10000 in
theorem se_W_aimAtEnd : Cond.selects RX3 yX3_aimAtEnd yX3_aimAtEnd ∈ lw_g := tin3 196 (by rfl) rfl
abbrev mu_P_clear : MU := (cX4_clear, RX4, 1, 0, "clear")
set_option maxRecDepth 10000 in
theorem mw_P_clear : MW yX4_clear cX4_clear 1 (Option.none : Option Jvm.ClassFile.FieldType) 0 := ⟨tin2 145 (by rfl) rfl, ⟨nh_4.1, nh_4.2, pd_0⟩, ini_4, by decide, pn_4⟩
set_option maxRecDepth 10000 in
theorem im_P_clear : Cond.instanceMethod yX4_clear ∈ lw_g := tin2 143 (by rfl) rfl
set_option maxRecDepth 10000 in
theorem se_P_clear : Cond.selects RX4 yX4_clear yX4_clear ∈ lw_g := tin2 144 (by rfl) rfl
abbrev mu_P_keep : MU := (cX4_keep, RX4, 2, 15, "keep")
set_option maxRecDepth 10000 in
theorem mw_P_keep : MW yX4_keep cX4_keep 2 (Option.none : Option Jvm.ClassFile.FieldType) 1 := ⟨tin4 59 (by rfl) rfl, ⟨nh_4.1, nh_4.2, pd_1⟩, ini_4, by decide, pn_4⟩
set_option maxRecDepth 10000 in
theorem im_P_keep : Cond.instanceMethod yX4_keep ∈ lw_g := tin4 57 (by rfl) rfl
set_option maxRecDepth 10000 in
theorem se_P_keep : Cond.selects RX4 yX4_keep yX4_keep ∈ lw_g := tin4 58 (by rfl) rfl
abbrev mu_P_bringBack : MU := (cX4_bringBack, RX4, 2, 15, "bringBack")
set_option maxRecDepth 10000 in
theorem mw_P_bringBack : MW yX4_bringBack cX4_bringBack 2 (Option.some Jvm.ClassFile.FieldType.boolean) 1 := ⟨tin4 114 (by rfl) rfl, ⟨nh_4.1, nh_4.2, pd_28⟩, ini_4, by decide, pn_4⟩
set_option maxRecDepth 10000 in
theorem im_P_bringBack : Cond.instanceMethod yX4_bringBack ∈ lw_g := tin4 112 (by rfl) rfl
set_option maxRecDepth 10000 in
theorem se_P_bringBack : Cond.selects RX4 yX4_bringBack yX4_bringBack ∈ lw_g := tin4 113 (by rfl) rfl
abbrev mu_E_fail : MU := (cX5_fail, RX5, 2, 0, "fail")
set_option maxRecDepth 10000 in
theorem mw_E_fail : MW yX5_fail cX5_fail 2 (Option.none : Option Jvm.ClassFile.FieldType) 1 := ⟨tin3 128 (by rfl) rfl, ⟨nh_5.1, nh_5.2, pd_21⟩, ini_5, by decide, pn_5⟩
set_option maxRecDepth 10000 in
theorem im_E_fail : Cond.instanceMethod yX5_fail ∈ lw_g := tin3 127 (by rfl) rfl
set_option maxRecDepth 10000 in
theorem se_E_fail : Cond.selects RX5 yX5_fail yX5_fail ∈ lw_g := tins 4 (by rfl) rfl
abbrev mu_E_take : MU := (cX5_take, RX5, 2, 1, "take")
set_option maxRecDepth 10000 in
theorem mw_E_take : MW yX5_take cX5_take 2 (Option.none : Option Jvm.ClassFile.FieldType) 1 := ⟨tin3 124 (by rfl) rfl, ⟨nh_5.1, nh_5.2, pd_21⟩, ini_5, by decide, pn_5⟩
set_option maxRecDepth 10000 in
theorem im_E_take : Cond.instanceMethod yX5_take ∈ lw_g := tin3 123 (by rfl) rfl
set_option maxRecDepth 10000 in
theorem se_E_take : Cond.selects RX5 yX5_take yX5_take ∈ lw_g := tins 3 (by rfl) rfl
abbrev mu_E_failLater : MU := (cX5_failLater, RX5, 3, 0, "failLater")
set_option maxRecDepth 10000 in
theorem mw_E_failLater : MW yX5_failLater cX5_failLater 3 (Option.none : Option Jvm.ClassFile.FieldType) 2 := ⟨tin3 136 (by rfl) rfl, ⟨nh_5.1, nh_5.2, pd_8⟩, ini_5, by decide, pn_5⟩
set_option maxRecDepth 10000 in
theorem im_E_failLater : Cond.instanceMethod yX5_failLater ∈ lw_g := tin3 135 (by rfl) rfl
set_option maxRecDepth 10000 in
theorem se_E_failLater : Cond.selects RX5 yX5_failLater yX5_failLater ∈ lw_g := tins 6 (by rfl) rfl
abbrev mu_E_takeInt : MU := (cX5_takeInt, RX5, 5, 2, "takeInt")
set_option maxRecDepth 10000 in
theorem mw_E_takeInt : MW yX5_takeInt cX5_takeInt 5 (Option.some Jvm.ClassFile.FieldType.int) 2 := ⟨tin3 132 (by rfl) rfl, ⟨nh_5.1, nh_5.2, pd_4⟩, ini_5, by decide, pn_5⟩
set_option maxRecDepth 10000 in
theorem im_E_takeInt : Cond.instanceMethod yX5_takeInt ∈ lw_g := tin3 131 (by rfl) rfl
set_option maxRecDepth 10000 in
theorem se_E_takeInt : Cond.selects RX5 yX5_takeInt yX5_takeInt ∈ lw_g := tins 5 (by rfl) rfl
abbrev mu_E_readDepth : MU := (cX5_readDepth, RX5, 4, 3, "readDepth")
set_option maxRecDepth 10000 in
theorem mw_E_readDepth : MW yX5_readDepth cX5_readDepth 4 (Option.none : Option Jvm.ClassFile.FieldType) 1 := ⟨tin3 140 (by rfl) rfl, ⟨nh_5.1, nh_5.2, pd_29⟩, ini_5, by decide, pn_5⟩
set_option maxRecDepth 10000 in
theorem im_E_readDepth : Cond.instanceMethod yX5_readDepth ∈ lw_g := tin3 139 (by rfl) rfl
set_option maxRecDepth 10000 in
theorem se_E_readDepth : Cond.selects RX5 yX5_readDepth yX5_readDepth ∈ lw_g := tins 7 (by rfl) rfl
abbrev mu_E_readFlood : MU := (cX5_readFlood, RX5, 3, 3, "readFlood")
set_option maxRecDepth 10000 in
theorem mw_E_readFlood : MW yX5_readFlood cX5_readFlood 3 (Option.none : Option Jvm.ClassFile.FieldType) 1 := ⟨tin3 168 (by rfl) rfl, ⟨nh_5.1, nh_5.2, pd_29⟩, ini_5, by decide, pn_5⟩
set_option maxRecDepth 10000 in
theorem im_E_readFlood : Cond.instanceMethod yX5_readFlood ∈ lw_g := tin3 167 (by rfl) rfl
set_option maxRecDepth 10000 in
theorem se_E_readFlood : Cond.selects RX5 yX5_readFlood yX5_readFlood ∈ lw_g := tins 13 (by rfl) rfl
abbrev mu_E_readFlow : MU := (cX5_readFlow, RX5, 3, 3, "readFlow")
set_option maxRecDepth 10000 in
theorem mw_E_readFlow : MW yX5_readFlow cX5_readFlow 3 (Option.none : Option Jvm.ClassFile.FieldType) 1 := ⟨tin3 147 (by rfl) rfl, ⟨nh_5.1, nh_5.2, pd_29⟩, ini_5, by decide, pn_5⟩
set_option maxRecDepth 10000 in
theorem im_E_readFlow : Cond.instanceMethod yX5_readFlow ∈ lw_g := tin3 146 (by rfl) rfl
set_option maxRecDepth 10000 in
theorem se_E_readFlow : Cond.selects RX5 yX5_readFlow yX5_readFlow ∈ lw_g := tins 8 (by rfl) rfl
abbrev mu_E_isEither : MU := (cX5_isEither, RX5, 3, 0, "isEither")
set_option maxRecDepth 10000 in
theorem mw_E_isEither : MW yX5_isEither cX5_isEither 3 (Option.some Jvm.ClassFile.FieldType.boolean) 2 := ⟨tin3 193 (by rfl) rfl, ⟨nh_5.1, nh_5.2, pd_6⟩, ini_5, by decide, pn_5⟩
set_option maxRecDepth 10000 in
theorem im_E_isEither : Cond.instanceMethod yX5_isEither ∈ lw_g := tin3 192 (by rfl) rfl
set_option maxRecDepth 10000 in
theorem se_E_isEither : Cond.selects RX5 yX5_isEither yX5_isEither ∈ lw_g := tins 18 (by rfl) rfl
abbrev mu_E_readUnit (ds : Nat) : MU := (cX5_readUnit, RX5, 4, ds + 1, "readUnit")
set_option maxRecDepth 10000 in
theorem mw_E_readUnit : MW yX5_readUnit cX5_readUnit 4 (Option.none : Option Jvm.ClassFile.FieldType) 2 := ⟨tin3 185 (by rfl) rfl, ⟨nh_5.1, nh_5.2, pd_30⟩, ini_5, by decide, pn_5⟩
set_option maxRecDepth 10000 in
theorem im_E_readUnit : Cond.instanceMethod yX5_readUnit ∈ lw_g := tin3 184 (by rfl) rfl
set_option maxRecDepth 10000 in
theorem se_E_readUnit : Cond.selects RX5 yX5_readUnit yX5_readUnit ∈ lw_g := tins 17 (by rfl) rfl
abbrev mu_E_readProduct (ds : Nat) : MU := (cX5_readProduct, RX5, 5, ds + 2, "readProduct")
set_option maxRecDepth 10000 in
theorem mw_E_readProduct : MW yX5_readProduct cX5_readProduct 5 (Option.none : Option Jvm.ClassFile.FieldType) 2 := ⟨tin3 181 (by rfl) rfl, ⟨nh_5.1, nh_5.2, pd_30⟩, ini_5, by decide, pn_5⟩
set_option maxRecDepth 10000 in
theorem im_E_readProduct : Cond.instanceMethod yX5_readProduct ∈ lw_g := tin3 180 (by rfl) rfl
set_option maxRecDepth 10000 in
theorem se_E_readProduct : Cond.selects RX5 yX5_readProduct yX5_readProduct ∈ lw_g := tins 16 (by rfl) rfl
abbrev mu_E_readSum (ds : Nat) : MU := (cX5_readSum, RX5, 5, ds + 3, "readSum")
set_option maxRecDepth 10000 in
theorem mw_E_readSum : MW yX5_readSum cX5_readSum 5 (Option.none : Option Jvm.ClassFile.FieldType) 2 := ⟨tin3 177 (by rfl) rfl, ⟨nh_5.1, nh_5.2, pd_30⟩, ini_5, by decide, pn_5⟩
set_option maxRecDepth 10000 in
theorem im_E_readSum : Cond.instanceMethod yX5_readSum ∈ lw_g := tin3 176 (by rfl) rfl
set_option maxRecDepth 10000 in
theorem se_E_readSum : Cond.selects RX5 yX5_readSum yX5_readSum ∈ lw_g := tins 15 (by rfl) rfl
abbrev mu_E_readLaw : MU := (cX5_readLaw, RX5, 4, 60, "readLaw")
set_option maxRecDepth 10000 in
theorem mw_E_readLaw : MW yX5_readLaw cX5_readLaw 4 (Option.none : Option Jvm.ClassFile.FieldType) 1 := ⟨tin3 172 (by rfl) rfl, ⟨nh_5.1, nh_5.2, pd_31⟩, ini_5, by decide, pn_5⟩
set_option maxRecDepth 10000 in
theorem im_E_readLaw : Cond.instanceMethod yX5_readLaw ∈ lw_g := tin3 171 (by rfl) rfl
set_option maxRecDepth 10000 in
theorem se_E_readLaw : Cond.selects RX5 yX5_readLaw yX5_readLaw ∈ lw_g := tins 14 (by rfl) rfl
abbrev mu_E_readLeap : MU := (cX5_readLeap, RX5, 2, 3, "readLeap")
set_option maxRecDepth 10000 in
theorem mw_E_readLeap : MW yX5_readLeap cX5_readLeap 2 (Option.none : Option Jvm.ClassFile.FieldType) 1 := ⟨tin3 151 (by rfl) rfl, ⟨nh_5.1, nh_5.2, pd_29⟩, ini_5, by decide, pn_5⟩
set_option maxRecDepth 10000 in
theorem im_E_readLeap : Cond.instanceMethod yX5_readLeap ∈ lw_g := tin3 150 (by rfl) rfl
set_option maxRecDepth 10000 in
theorem se_E_readLeap : Cond.selects RX5 yX5_readLeap yX5_readLeap ∈ lw_g := tins 9 (by rfl) rfl
abbrev mu_T_byteAt : MU := (cX7_byteAt, RX7, 2, 0, "byteAt")
set_option maxRecDepth 10000 in
theorem mw_T_byteAt : MW yX7_byteAt cX7_byteAt 2 (Option.some Jvm.ClassFile.FieldType.int) 1 := ⟨tin2 225 (by rfl) rfl, ⟨nh_7.1, nh_7.2, pd_11⟩, ini_7, by decide, pn_7⟩
set_option maxRecDepth 10000 in
theorem im_T_byteAt : Cond.instanceMethod yX7_byteAt ∈ lw_g := tin2 223 (by rfl) rfl
set_option maxRecDepth 10000 in
theorem se_T_byteAt : Cond.selects RX7 yX7_byteAt yX7_byteAt ∈ lw_g := tin2 224 (by rfl) rfl
abbrev mu_E_isSameName : MU := (cX5_isSameName, RX5, 5, 1, "isSameName")
set_option maxRecDepth 10000 in
theorem mw_E_isSameName : MW yX5_isSameName cX5_isSameName 5 (Option.some Jvm.ClassFile.FieldType.boolean) 3 := ⟨tin3 163 (by rfl) rfl, ⟨nh_5.1, nh_5.2, pd_32⟩, ini_5, by decide, pn_5⟩
set_option maxRecDepth 10000 in
theorem im_E_isSameName : Cond.instanceMethod yX5_isSameName ∈ lw_g := tin3 162 (by rfl) rfl
set_option maxRecDepth 10000 in
theorem se_E_isSameName : Cond.selects RX5 yX5_isSameName yX5_isSameName ∈ lw_g := tins 12 (by rfl) rfl
abbrev mu_E_takeName : MU := (cX5_takeName, RX5, 5, 2, "takeName")
set_option maxRecDepth 10000 in
theorem mw_E_takeName : MW yX5_takeName cX5_takeName 5 (Option.none : Option Jvm.ClassFile.FieldType) 2 := ⟨tin3 159 (by rfl) rfl, ⟨nh_5.1, nh_5.2, pd_33⟩, ini_5, by decide, pn_5⟩
set_option maxRecDepth 10000 in
theorem im_E_takeName : Cond.instanceMethod yX5_takeName ∈ lw_g := tin3 158 (by rfl) rfl
set_option maxRecDepth 10000 in
theorem se_E_takeName : Cond.selects RX5 yX5_takeName yX5_takeName ∈ lw_g := tins 11 (by rfl) rfl
abbrev mu_E_readLeaver : MU := (cX5_readLeaver, RX5, 4, 3, "readLeaver")
set_option maxRecDepth 10000 in
theorem mw_E_readLeaver : MW yX5_readLeaver cX5_readLeaver 4 (Option.none : Option Jvm.ClassFile.FieldType) 2 := ⟨tin3 155 (by rfl) rfl, ⟨nh_5.1, nh_5.2, pd_34⟩, ini_5, by decide, pn_5⟩
set_option maxRecDepth 10000 in
theorem im_E_readLeaver : Cond.instanceMethod yX5_readLeaver ∈ lw_g := tin3 154 (by rfl) rfl
set_option maxRecDepth 10000 in
theorem se_E_readLeaver : Cond.selects RX5 yX5_readLeaver yX5_readLeaver ∈ lw_g := tins 10 (by rfl) rfl
abbrev mu_E_readRiver : MU := (cX5_readRiver, RX5, 2, 3, "readRiver")
set_option maxRecDepth 10000 in
theorem mw_E_readRiver : MW yX5_readRiver cX5_readRiver 2 (Option.none : Option Jvm.ClassFile.FieldType) 1 := ⟨tin3 120 (by rfl) rfl, ⟨nh_5.1, nh_5.2, pd_29⟩, ini_5, by decide, pn_5⟩
set_option maxRecDepth 10000 in
theorem im_E_readRiver : Cond.instanceMethod yX5_readRiver ∈ lw_g := tin3 119 (by rfl) rfl
set_option maxRecDepth 10000 in
theorem se_E_readRiver : Cond.selects RX5 yX5_readRiver yX5_readRiver ∈ lw_g := tins 2 (by rfl) rfl
abbrev mu_R_clear : MU := (cX6_clear, RX6, 1, 14, "clear")
set_option maxRecDepth 10000 in
theorem mw_R_clear : MW yX6_clear cX6_clear 1 (Option.none : Option Jvm.ClassFile.FieldType) 0 := ⟨tin2 125 (by rfl) rfl, ⟨nh_6.1, nh_6.2, pd_0⟩, ini_6, by decide, pn_6⟩
set_option maxRecDepth 10000 in
theorem im_R_clear : Cond.instanceMethod yX6_clear ∈ lw_g := tin2 123 (by rfl) rfl
set_option maxRecDepth 10000 in
theorem se_R_clear : Cond.selects RX6 yX6_clear yX6_clear ∈ lw_g := tin2 124 (by rfl) rfl
abbrev mu_K_sortOf : MU := (cX8_sortOf, RX8, 1, 0, "sortOf")
set_option maxRecDepth 10000 in
theorem mw_K_sortOf : MW yX8_sortOf cX8_sortOf 1 (Option.some Jvm.ClassFile.FieldType.int) 1 := ⟨tin2 228 (by rfl) rfl, ⟨nh_8.1, nh_8.2, pd_11⟩, ini_8, by decide, pn_8⟩
set_option maxRecDepth 10000 in
theorem st_K_sortOf : Cond.static yX8_sortOf ∈ lw_g := tin2 227 (by rfl) rfl
abbrev mu_K_skip : MU := (cX8_skip, RX8, 4, 1, "skip")
set_option maxRecDepth 10000 in
theorem mw_K_skip : MW yX8_skip cX8_skip 4 (Option.some Jvm.ClassFile.FieldType.int) 3 := ⟨tin2 221 (by rfl) rfl, ⟨nh_8.1, nh_8.2, pd_35⟩, ini_8, by decide, pn_8⟩
set_option maxRecDepth 10000 in
theorem st_K_skip : Cond.static yX8_skip ∈ lw_g := tin2 220 (by rfl) rfl
abbrev mu_K_endOfToken : MU := (cX8_endOfToken, RX8, 3, 2, "endOfToken")
set_option maxRecDepth 10000 in
theorem mw_K_endOfToken : MW yX8_endOfToken cX8_endOfToken 3 (Option.some Jvm.ClassFile.FieldType.int) 2 := ⟨tin2 231 (by rfl) rfl, ⟨nh_8.1, nh_8.2, pd_36⟩, ini_8, by decide, pn_8⟩
set_option maxRecDepth 10000 in
theorem st_K_endOfToken : Cond.static yX8_endOfToken ∈ lw_g := tin2 230 (by rfl) rfl
abbrev mu_K_spells : MU := (cX8_spells, RX8, 6, 14, "spells")
set_option maxRecDepth 10000 in
theorem mw_K_spells : MW yX8_spells cX8_spells 6 (Option.some Jvm.ClassFile.FieldType.boolean) 4 := ⟨tin3 0 (by rfl) rfl, ⟨nh_8.1, nh_8.2, pd_37⟩, ini_8, by decide, pn_8⟩
set_option maxRecDepth 10000 in
theorem st_K_spells : Cond.static yX8_spells ∈ lw_g := tin2 239 (by rfl) rfl
abbrev mu_K_wordKind : MU := (cX8_wordKind, RX8, 4, 15, "wordKind")
set_option maxRecDepth 10000 in
theorem mw_K_wordKind : MW yX8_wordKind cX8_wordKind 4 (Option.some Jvm.ClassFile.FieldType.int) 3 := ⟨tin2 237 (by rfl) rfl, ⟨nh_8.1, nh_8.2, pd_35⟩, ini_8, by decide, pn_8⟩
set_option maxRecDepth 10000 in
theorem st_K_wordKind : Cond.static yX8_wordKind ∈ lw_g := tin2 236 (by rfl) rfl
abbrev mu_K_kindOf : MU := (cX8_kindOf, RX8, 4, 16, "kindOf")
set_option maxRecDepth 10000 in
theorem mw_K_kindOf : MW yX8_kindOf cX8_kindOf 4 (Option.some Jvm.ClassFile.FieldType.int) 3 := ⟨tin2 234 (by rfl) rfl, ⟨nh_8.1, nh_8.2, pd_35⟩, ini_8, by decide, pn_8⟩
set_option maxRecDepth 10000 in
theorem st_K_kindOf : Cond.static yX8_kindOf ∈ lw_g := tin2 233 (by rfl) rfl
abbrev mu_K_number : MU := (cX8_number, RX8, 5, 1, "number")
set_option maxRecDepth 10000 in
theorem mw_K_number : MW yX8_number cX8_number 5 (Option.some Jvm.ClassFile.FieldType.int) 3 := ⟨tin3 115 (by rfl) rfl, ⟨nh_8.1, nh_8.2, pd_35⟩, ini_8, by decide, pn_8⟩
set_option maxRecDepth 10000 in
theorem st_K_number : Cond.static yX8_number ∈ lw_g := tin3 114 (by rfl) rfl
abbrev mu_K_put : MU := (cX8_put, RX8, 5, 0, "put")
set_option maxRecDepth 10000 in
theorem mw_K_put : MW yX8_put cX8_put 5 (Option.none : Option Jvm.ClassFile.FieldType) 4 := ⟨tin3 112 (by rfl) rfl, ⟨nh_8.1, nh_8.2, pd_38⟩, ini_8, by decide, pn_8⟩
set_option maxRecDepth 10000 in
theorem im_K_put : Cond.instanceMethod yX8_put ∈ lw_g := tin3 111 (by rfl) rfl
set_option maxRecDepth 10000 in
theorem se_K_put : Cond.selects RX8 yX8_put yX8_put ∈ lw_g := tins 1 (by rfl) rfl
abbrev mu_K_scan : MU := (cX8_scan, RX8, 5, 17, "scan")
set_option maxRecDepth 10000 in
theorem mw_K_scan : MW yX8_scan cX8_scan 5 (Option.none : Option Jvm.ClassFile.FieldType) 1 := ⟨tin2 218 (by rfl) rfl, ⟨nh_8.1, nh_8.2, pd_39⟩, ini_8, by decide, pn_8⟩
set_option maxRecDepth 10000 in
theorem im_K_scan : Cond.instanceMethod yX8_scan ∈ lw_g := tin2 216 (by rfl) rfl
set_option maxRecDepth 10000 in
theorem se_K_scan : Cond.selects RX8 yX8_scan yX8_scan ∈ lw_g := tin2 217 (by rfl) rfl
abbrev mu_E_readText : MU := (cX5_readText, RX5, 4, 61, "readText")
set_option maxRecDepth 10000 in
theorem mw_E_readText : MW yX5_readText cX5_readText 4 (Option.some Jvm.ClassFile.FieldType.int) 2 := ⟨tin2 214 (by rfl) rfl, ⟨nh_5.1, nh_5.2, pd_40⟩, ini_5, by decide, pn_5⟩
set_option maxRecDepth 10000 in
theorem im_E_readText : Cond.instanceMethod yX5_readText ∈ lw_g := tin2 212 (by rfl) rfl
set_option maxRecDepth 10000 in
theorem se_E_readText : Cond.selects RX5 yX5_readText yX5_readText ∈ lw_g := tin2 213 (by rfl) rfl
abbrev mu_E_faultPlace : MU := (cX5_faultPlace, RX5, 1, 0, "faultPlace")
set_option maxRecDepth 10000 in
theorem mw_E_faultPlace : MW yX5_faultPlace cX5_faultPlace 1 (Option.some Jvm.ClassFile.FieldType.int) 0 := ⟨tin3 201 (by rfl) rfl, ⟨nh_5.1, nh_5.2, pd_16⟩, ini_5, by decide, pn_5⟩
set_option maxRecDepth 10000 in
theorem im_E_faultPlace : Cond.instanceMethod yX5_faultPlace ∈ lw_g := tin3 199 (by rfl) rfl
set_option maxRecDepth 10000 in
theorem se_E_faultPlace : Cond.selects RX5 yX5_faultPlace yX5_faultPlace ∈ lw_g := tin3 200 (by rfl) rfl
abbrev mu_R_isLeptAtOnce : MU := (cX6_isLeptAtOnce, RX6, 1, 0, "isLeptAtOnce")
set_option maxRecDepth 10000 in
theorem mw_R_isLeptAtOnce : MW yX6_isLeptAtOnce cX6_isLeptAtOnce 1 (Option.some Jvm.ClassFile.FieldType.boolean) 0 := ⟨tin4 173 (by rfl) rfl, ⟨nh_6.1, nh_6.2, pd_41⟩, ini_6, by decide, pn_6⟩
set_option maxRecDepth 10000 in
theorem im_R_isLeptAtOnce : Cond.instanceMethod yX6_isLeptAtOnce ∈ lw_g := tin4 171 (by rfl) rfl
set_option maxRecDepth 10000 in
theorem se_R_isLeptAtOnce : Cond.selects RX6 yX6_isLeptAtOnce yX6_isLeptAtOnce ∈ lw_g := tin4 172 (by rfl) rfl
abbrev mu_R_isWithinLeap : MU := (cX6_isWithinLeap, RX6, 5, 14, "isWithinLeap")
set_option maxRecDepth 10000 in
theorem mw_R_isWithinLeap : MW yX6_isWithinLeap cX6_isWithinLeap 5 (Option.some Jvm.ClassFile.FieldType.boolean) 2 := ⟨tin4 189 (by rfl) rfl, ⟨nh_6.1, nh_6.2, pd_6⟩, ini_6, by decide, pn_6⟩
set_option maxRecDepth 10000 in
theorem im_R_isWithinLeap : Cond.instanceMethod yX6_isWithinLeap ∈ lw_g := tin4 187 (by rfl) rfl
set_option maxRecDepth 10000 in
theorem se_R_isWithinLeap : Cond.selects RX6 yX6_isWithinLeap yX6_isWithinLeap ∈ lw_g := tin4 188 (by rfl) rfl
abbrev mu_T_put : MU := (cX7_put, RX7, 3, 0, "put")
set_option maxRecDepth 10000 in
theorem mw_T_put : MW yX7_put cX7_put 3 (Option.none : Option Jvm.ClassFile.FieldType) 1 := ⟨tin2 202 (by rfl) rfl, ⟨nh_7.1, nh_7.2, pd_21⟩, ini_7, by decide, pn_7⟩
set_option maxRecDepth 10000 in
theorem im_T_put : Cond.instanceMethod yX7_put ∈ lw_g := tin2 200 (by rfl) rfl
set_option maxRecDepth 10000 in
theorem se_T_put : Cond.selects RX7 yX7_put yX7_put ∈ lw_g := tin2 201 (by rfl) rfl
abbrev mu_Y_firstWithCost : MU := (cX9_firstWithCost, RX9, 5, 15, "firstWithCost")
set_option maxRecDepth 10000 in
theorem mw_Y_firstWithCost : MW yX9_firstWithCost cX9_firstWithCost 5 (Option.some Jvm.ClassFile.FieldType.int) 3 := ⟨tin4 185 (by rfl) rfl, ⟨nh_9.1, nh_9.2, pd_42⟩, ini_9, by decide, pn_9⟩
set_option maxRecDepth 10000 in
theorem im_Y_firstWithCost : Cond.instanceMethod yX9_firstWithCost ∈ lw_g := tin4 184 (by rfl) rfl
set_option maxRecDepth 10000 in
theorem se_Y_firstWithCost : Cond.selects RX9 yX9_firstWithCost yX9_firstWithCost ∈ lw_g := tins 31 (by rfl) rfl
abbrev mu_Y_drawLine : MU := (cX9_drawLine, RX9, 9, 16, "drawLine")
set_option maxRecDepth 10000 in
theorem mw_Y_drawLine : MW yX9_drawLine cX9_drawLine 9 (Option.none : Option Jvm.ClassFile.FieldType) 4 := ⟨tin4 181 (by rfl) rfl, ⟨nh_9.1, nh_9.2, pd_15⟩, ini_9, by decide, pn_9⟩
set_option maxRecDepth 10000 in
theorem im_Y_drawLine : Cond.instanceMethod yX9_drawLine ∈ lw_g := tin4 180 (by rfl) rfl
set_option maxRecDepth 10000 in
theorem se_Y_drawLine : Cond.selects RX9 yX9_drawLine yX9_drawLine ∈ lw_g := tins 30 (by rfl) rfl
abbrev mu_Y_cheapest : MU := (cX9_cheapest, RX9, 4, 0, "cheapest")
set_option maxRecDepth 10000 in
theorem mw_Y_cheapest : MW yX9_cheapest cX9_cheapest 4 (Option.some Jvm.ClassFile.FieldType.int) 0 := ⟨tin4 160 (by rfl) rfl, ⟨nh_9.1, nh_9.2, pd_16⟩, ini_9, by decide, pn_9⟩
set_option maxRecDepth 10000 in
theorem im_Y_cheapest : Cond.instanceMethod yX9_cheapest ∈ lw_g := tin4 159 (by rfl) rfl
set_option maxRecDepth 10000 in
theorem se_Y_cheapest : Cond.selects RX9 yX9_cheapest yX9_cheapest ∈ lw_g := tins 29 (by rfl) rfl
abbrev mu_Y_weighCosts : MU := (cX9_weighCosts, RX9, 9, 15, "weighCosts")
set_option maxRecDepth 10000 in
theorem mw_Y_weighCosts : MW yX9_weighCosts cX9_weighCosts 9 (Option.none : Option Jvm.ClassFile.FieldType) 3 := ⟨tin4 144 (by rfl) rfl, ⟨nh_9.1, nh_9.2, pd_13⟩, ini_9, by decide, pn_9⟩
set_option maxRecDepth 10000 in
theorem im_Y_weighCosts : Cond.instanceMethod yX9_weighCosts ∈ lw_g := tin4 143 (by rfl) rfl
set_option maxRecDepth 10000 in
theorem se_Y_weighCosts : Cond.selects RX9 yX9_weighCosts yX9_weighCosts ∈ lw_g := tins 28 (by rfl) rfl
abbrev mu_Y_find : MU := (cX9_find, RX9, 6, 17, "find")
set_option maxRecDepth 10000 in
theorem mw_Y_find : MW yX9_find cX9_find 6 (Option.some Jvm.ClassFile.FieldType.boolean) 3 := ⟨tin4 140 (by rfl) rfl, ⟨nh_9.1, nh_9.2, pd_14⟩, ini_9, by decide, pn_9⟩
set_option maxRecDepth 10000 in
theorem im_Y_find : Cond.instanceMethod yX9_find ∈ lw_g := tin4 138 (by rfl) rfl
set_option maxRecDepth 10000 in
theorem se_Y_find : Cond.selects RX9 yX9_find yX9_find ∈ lw_g := tin4 139 (by rfl) rfl
abbrev mu_Y_leaps : MU := (cX9_leaps, RX9, 1, 0, "leaps")
set_option maxRecDepth 10000 in
theorem mw_Y_leaps : MW yX9_leaps cX9_leaps 1 (Option.some Jvm.ClassFile.FieldType.int) 0 := ⟨tin4 196 (by rfl) rfl, ⟨nh_9.1, nh_9.2, pd_16⟩, ini_9, by decide, pn_9⟩
set_option maxRecDepth 10000 in
theorem im_Y_leaps : Cond.instanceMethod yX9_leaps ∈ lw_g := tin4 194 (by rfl) rfl
set_option maxRecDepth 10000 in
theorem se_Y_leaps : Cond.selects RX9 yX9_leaps yX9_leaps ∈ lw_g := tin4 195 (by rfl) rfl
abbrev mu_Y_leadOver : MU := (cX9_leadOver, RX9, 8, 15, "leadOver")
set_option maxRecDepth 10000 in
theorem mw_Y_leadOver : MW yX9_leadOver cX9_leadOver 8 (Option.some Jvm.ClassFile.FieldType.boolean) 1 := ⟨tin5 68 (by rfl) rfl, ⟨nh_9.1, nh_9.2, pd_43⟩, ini_9, by decide, pn_9⟩
set_option maxRecDepth 10000 in
theorem im_Y_leadOver : Cond.instanceMethod yX9_leadOver ∈ lw_g := tin5 66 (by rfl) rfl
set_option maxRecDepth 10000 in
theorem se_Y_leadOver : Cond.selects RX9 yX9_leadOver yX9_leadOver ∈ lw_g := tin5 67 (by rfl) rfl
abbrev mu_X_feed : MU := (cX10_feed, RX10, 6, 1, "feed")
set_option maxRecDepth 10000 in
theorem mw_X_feed : MW yX10_feed cX10_feed 6 (Option.some Jvm.ClassFile.FieldType.int) 5 := ⟨tin2 198 (by rfl) rfl, ⟨nh_10.1, nh_10.2, pd_44⟩, ini_10, by decide, pn_10⟩
set_option maxRecDepth 10000 in
theorem im_X_feed : Cond.instanceMethod yX10_feed ∈ lw_g := tin2 196 (by rfl) rfl
set_option maxRecDepth 10000 in
theorem se_X_feed : Cond.selects RX10 yX10_feed yX10_feed ∈ lw_g := tin2 197 (by rfl) rfl
abbrev mu_X_back : MU := (cX10_back, RX10, 2, 0, "back")
set_option maxRecDepth 10000 in
theorem mw_X_back : MW yX10_back cX10_back 2 (Option.some Jvm.ClassFile.FieldType.int) 1 := ⟨tin2 206 (by rfl) rfl, ⟨nh_10.1, nh_10.2, pd_11⟩, ini_10, by decide, pn_10⟩
set_option maxRecDepth 10000 in
theorem im_X_back : Cond.instanceMethod yX10_back ∈ lw_g := tin2 204 (by rfl) rfl
set_option maxRecDepth 10000 in
theorem se_X_back : Cond.selects RX10 yX10_back yX10_back ∈ lw_g := tin2 205 (by rfl) rfl
abbrev mu_X_beginAnew : MU := (cX10_beginAnew, RX10, 2, 15, "beginAnew")
set_option maxRecDepth 10000 in
theorem mw_X_beginAnew : MW yX10_beginAnew cX10_beginAnew 2 (Option.none : Option Jvm.ClassFile.FieldType) 0 := ⟨tin2 136 (by rfl) rfl, ⟨nh_10.1, nh_10.2, pd_0⟩, ini_10, by decide, pn_10⟩
set_option maxRecDepth 10000 in
theorem im_X_beginAnew : Cond.instanceMethod yX10_beginAnew ∈ lw_g := tin2 135 (by rfl) rfl
set_option maxRecDepth 10000 in
theorem se_X_beginAnew : Cond.selects RX10 yX10_beginAnew yX10_beginAnew ∈ lw_g := tins 0 (by rfl) rfl
abbrev mu_X_read : MU := (cX10_read, RX10, 3, 62, "read")
set_option maxRecDepth 10000 in
theorem mw_X_read : MW yX10_read cX10_read 3 (Option.some Jvm.ClassFile.FieldType.int) 0 := ⟨tin2 210 (by rfl) rfl, ⟨nh_10.1, nh_10.2, pd_16⟩, ini_10, by decide, pn_10⟩
set_option maxRecDepth 10000 in
theorem im_X_read : Cond.instanceMethod yX10_read ∈ lw_g := tin2 208 (by rfl) rfl
set_option maxRecDepth 10000 in
theorem se_X_read : Cond.selects RX10 yX10_read yX10_read ∈ lw_g := tin2 209 (by rfl) rfl
abbrev mu_X_place : MU := (cX10_place, RX10, 1, 0, "place")
set_option maxRecDepth 10000 in
theorem mw_X_place : MW yX10_place cX10_place 1 (Option.some Jvm.ClassFile.FieldType.int) 0 := ⟨tin3 205 (by rfl) rfl, ⟨nh_10.1, nh_10.2, pd_16⟩, ini_10, by decide, pn_10⟩
set_option maxRecDepth 10000 in
theorem im_X_place : Cond.instanceMethod yX10_place ∈ lw_g := tin3 203 (by rfl) rfl
set_option maxRecDepth 10000 in
theorem se_X_place : Cond.selects RX10 yX10_place yX10_place ∈ lw_g := tin3 204 (by rfl) rfl
abbrev mu_X_cell : MU := (cX10_cell, RX10, 5, 17, "cell")
set_option maxRecDepth 10000 in
theorem mw_X_cell : MW yX10_cell cX10_cell 5 (Option.some Jvm.ClassFile.FieldType.int) 3 := ⟨tin3 209 (by rfl) rfl, ⟨nh_10.1, nh_10.2, pd_10⟩, ini_10, by decide, pn_10⟩
set_option maxRecDepth 10000 in
theorem im_X_cell : Cond.instanceMethod yX10_cell ∈ lw_g := tin3 207 (by rfl) rfl
set_option maxRecDepth 10000 in
theorem se_X_cell : Cond.selects RX10 yX10_cell yX10_cell ∈ lw_g := tin3 208 (by rfl) rfl
abbrev mu_X_stone : MU := (cX10_stone, RX10, 5, 1, "stone")
set_option maxRecDepth 10000 in
theorem mw_X_stone : MW yX10_stone cX10_stone 5 (Option.some Jvm.ClassFile.FieldType.int) 3 := ⟨tin4 12 (by rfl) rfl, ⟨nh_10.1, nh_10.2, pd_10⟩, ini_10, by decide, pn_10⟩
set_option maxRecDepth 10000 in
theorem im_X_stone : Cond.instanceMethod yX10_stone ∈ lw_g := tin4 10 (by rfl) rfl
set_option maxRecDepth 10000 in
theorem se_X_stone : Cond.selects RX10 yX10_stone yX10_stone ∈ lw_g := tin4 11 (by rfl) rfl
abbrev mu_X_isLeaver : MU := (cX10_isLeaver, RX10, 2, 0, "isLeaver")
set_option maxRecDepth 10000 in
theorem mw_X_isLeaver : MW yX10_isLeaver cX10_isLeaver 2 (Option.some Jvm.ClassFile.FieldType.boolean) 1 := ⟨tin4 20 (by rfl) rfl, ⟨nh_10.1, nh_10.2, pd_23⟩, ini_10, by decide, pn_10⟩
set_option maxRecDepth 10000 in
theorem im_X_isLeaver : Cond.instanceMethod yX10_isLeaver ∈ lw_g := tin4 19 (by rfl) rfl
set_option maxRecDepth 10000 in
theorem se_X_isLeaver : Cond.selects RX10 yX10_isLeaver yX10_isLeaver ∈ lw_g := tins 21 (by rfl) rfl
abbrev mu_X_leaver : MU := (cX10_leaver, RX10, 3, 2, "leaver")
set_option maxRecDepth 10000 in
theorem mw_X_leaver : MW yX10_leaver cX10_leaver 3 (Option.some Jvm.ClassFile.FieldType.int) 2 := ⟨tin4 16 (by rfl) rfl, ⟨nh_10.1, nh_10.2, pd_4⟩, ini_10, by decide, pn_10⟩
set_option maxRecDepth 10000 in
theorem im_X_leaver : Cond.instanceMethod yX10_leaver ∈ lw_g := tin4 14 (by rfl) rfl
set_option maxRecDepth 10000 in
theorem se_X_leaver : Cond.selects RX10 yX10_leaver yX10_leaver ∈ lw_g := tin4 15 (by rfl) rfl
abbrev mu_X_countHeld : MU := (cX10_countHeld, RX10, 3, 0, "countHeld")
set_option maxRecDepth 10000 in
theorem mw_X_countHeld : MW yX10_countHeld cX10_countHeld 3 (Option.some Jvm.ClassFile.FieldType.int) 0 := ⟨tin4 51 (by rfl) rfl, ⟨nh_10.1, nh_10.2, pd_16⟩, ini_10, by decide, pn_10⟩
set_option maxRecDepth 10000 in
theorem im_X_countHeld : Cond.instanceMethod yX10_countHeld ∈ lw_g := tin4 50 (by rfl) rfl
set_option maxRecDepth 10000 in
theorem se_X_countHeld : Cond.selects RX10 yX10_countHeld yX10_countHeld ∈ lw_g := tins 22 (by rfl) rfl
abbrev mu_X_count : MU := (cX10_count, RX10, 2, 2, "count")
set_option maxRecDepth 10000 in
theorem mw_X_count : MW yX10_count cX10_count 2 (Option.some Jvm.ClassFile.FieldType.int) 1 := ⟨tin4 33 (by rfl) rfl, ⟨nh_10.1, nh_10.2, pd_11⟩, ini_10, by decide, pn_10⟩
set_option maxRecDepth 10000 in
theorem im_X_count : Cond.instanceMethod yX10_count ∈ lw_g := tin4 31 (by rfl) rfl
set_option maxRecDepth 10000 in
theorem se_X_count : Cond.selects RX10 yX10_count yX10_count ∈ lw_g := tin4 32 (by rfl) rfl
abbrev mu_X_cellName : MU := (cX10_cellName, RX10, 1, 0, "cellName")
set_option maxRecDepth 10000 in
theorem mw_X_cellName : MW yX10_cellName cX10_cellName 1 (Option.some Jvm.ClassFile.FieldType.int) 1 := ⟨tin4 82 (by rfl) rfl, ⟨nh_10.1, nh_10.2, pd_11⟩, ini_10, by decide, pn_10⟩
set_option maxRecDepth 10000 in
theorem st_X_cellName : Cond.static yX10_cellName ∈ lw_g := tin4 81 (by rfl) rfl
abbrev mu_X_hurl : MU := (cX10_hurl, RX10, 5, 16, "hurl")
set_option maxRecDepth 10000 in
theorem mw_X_hurl : MW yX10_hurl cX10_hurl 5 (Option.some Jvm.ClassFile.FieldType.int) 3 := ⟨tin4 55 (by rfl) rfl, ⟨nh_10.1, nh_10.2, pd_10⟩, ini_10, by decide, pn_10⟩
set_option maxRecDepth 10000 in
theorem im_X_hurl : Cond.instanceMethod yX10_hurl ∈ lw_g := tin4 53 (by rfl) rfl
set_option maxRecDepth 10000 in
theorem se_X_hurl : Cond.selects RX10 yX10_hurl yX10_hurl ∈ lw_g := tin4 54 (by rfl) rfl
abbrev mu_X_days : MU := (cX10_days, RX10, 2, 18, "days")
set_option maxRecDepth 10000 in
theorem mw_X_days : MW yX10_days cX10_days 2 (Option.some Jvm.ClassFile.FieldType.int) 1 := ⟨tin4 86 (by rfl) rfl, ⟨nh_10.1, nh_10.2, pd_11⟩, ini_10, by decide, pn_10⟩
set_option maxRecDepth 10000 in
theorem im_X_days : Cond.instanceMethod yX10_days ∈ lw_g := tin4 84 (by rfl) rfl
set_option maxRecDepth 10000 in
theorem se_X_days : Cond.selects RX10 yX10_days yX10_days ∈ lw_g := tin4 85 (by rfl) rfl
abbrev mu_X_undo : MU := (cX10_undo, RX10, 1, 16, "undo")
set_option maxRecDepth 10000 in
theorem mw_X_undo : MW yX10_undo cX10_undo 1 (Option.some Jvm.ClassFile.FieldType.boolean) 0 := ⟨tin4 110 (by rfl) rfl, ⟨nh_10.1, nh_10.2, pd_41⟩, ini_10, by decide, pn_10⟩
set_option maxRecDepth 10000 in
theorem im_X_undo : Cond.instanceMethod yX10_undo ∈ lw_g := tin4 108 (by rfl) rfl
set_option maxRecDepth 10000 in
theorem se_X_undo : Cond.selects RX10 yX10_undo yX10_undo ∈ lw_g := tin4 109 (by rfl) rfl
abbrev mu_X_hold : MU := (cX10_hold, RX10, 2, 15, "hold")
set_option maxRecDepth 10000 in
theorem mw_X_hold : MW yX10_hold cX10_hold 2 (Option.some Jvm.ClassFile.FieldType.boolean) 1 := ⟨tin4 118 (by rfl) rfl, ⟨nh_10.1, nh_10.2, pd_23⟩, ini_10, by decide, pn_10⟩
set_option maxRecDepth 10000 in
theorem im_X_hold : Cond.instanceMethod yX10_hold ∈ lw_g := tin4 116 (by rfl) rfl
set_option maxRecDepth 10000 in
theorem se_X_hold : Cond.selects RX10 yX10_hold yX10_hold ∈ lw_g := tin4 117 (by rfl) rfl
abbrev mu_X_restore : MU := (cX10_restore, RX10, 2, 15, "restore")
set_option maxRecDepth 10000 in
theorem mw_X_restore : MW yX10_restore cX10_restore 2 (Option.some Jvm.ClassFile.FieldType.boolean) 1 := ⟨tin4 123 (by rfl) rfl, ⟨nh_10.1, nh_10.2, pd_23⟩, ini_10, by decide, pn_10⟩
set_option maxRecDepth 10000 in
theorem im_X_restore : Cond.instanceMethod yX10_restore ∈ lw_g := tin4 121 (by rfl) rfl
set_option maxRecDepth 10000 in
theorem se_X_restore : Cond.selects RX10 yX10_restore yX10_restore ∈ lw_g := tin4 122 (by rfl) rfl
abbrev mu_X_findWayOver : MU := (cX10_findWayOver, RX10, 2, 18, "findWayOver")
set_option maxRecDepth 10000 in
theorem mw_X_findWayOver : MW yX10_findWayOver cX10_findWayOver 2 (Option.some Jvm.ClassFile.FieldType.boolean) 1 := ⟨tin4 131 (by rfl) rfl, ⟨nh_10.1, nh_10.2, pd_23⟩, ini_10, by decide, pn_10⟩
set_option maxRecDepth 10000 in
theorem im_X_findWayOver : Cond.instanceMethod yX10_findWayOver ∈ lw_g := tin4 130 (by rfl) rfl
set_option maxRecDepth 10000 in
theorem se_X_findWayOver : Cond.selects RX10 yX10_findWayOver yX10_findWayOver ∈ lw_g := tins 27 (by rfl) rfl
abbrev mu_X_over : MU := (cX10_over, RX10, 3, 19, "over")
set_option maxRecDepth 10000 in
theorem mw_X_over : MW yX10_over cX10_over 3 (Option.some Jvm.ClassFile.FieldType.int) 2 := ⟨tin4 127 (by rfl) rfl, ⟨nh_10.1, nh_10.2, pd_4⟩, ini_10, by decide, pn_10⟩
set_option maxRecDepth 10000 in
theorem im_X_over : Cond.instanceMethod yX10_over ∈ lw_g := tin4 125 (by rfl) rfl
set_option maxRecDepth 10000 in
theorem se_X_over : Cond.selects RX10 yX10_over yX10_over ∈ lw_g := tin4 126 (by rfl) rfl
abbrev mu_X_overAt : MU := (cX10_overAt, RX10, 3, 19, "overAt")
set_option maxRecDepth 10000 in
theorem mw_X_overAt : MW yX10_overAt cX10_overAt 3 (Option.some Jvm.ClassFile.FieldType.int) 2 := ⟨tin4 204 (by rfl) rfl, ⟨nh_10.1, nh_10.2, pd_4⟩, ini_10, by decide, pn_10⟩
set_option maxRecDepth 10000 in
theorem im_X_overAt : Cond.instanceMethod yX10_overAt ∈ lw_g := tin4 202 (by rfl) rfl
set_option maxRecDepth 10000 in
theorem se_X_overAt : Cond.selects RX10 yX10_overAt yX10_overAt ∈ lw_g := tin4 203 (by rfl) rfl
abbrev mu_X_findLack : MU := (cX10_findLack, RX10, 1, 18, "findLack")
set_option maxRecDepth 10000 in
theorem mw_X_findLack : MW yX10_findLack cX10_findLack 1 (Option.none : Option Jvm.ClassFile.FieldType) 0 := ⟨tin4 212 (by rfl) rfl, ⟨nh_10.1, nh_10.2, pd_0⟩, ini_10, by decide, pn_10⟩
set_option maxRecDepth 10000 in
theorem im_X_findLack : Cond.instanceMethod yX10_findLack ∈ lw_g := tin4 211 (by rfl) rfl
set_option maxRecDepth 10000 in
theorem se_X_findLack : Cond.selects RX10 yX10_findLack yX10_findLack ∈ lw_g := tins 32 (by rfl) rfl
abbrev mu_X_lack : MU := (cX10_lack, RX10, 2, 19, "lack")
set_option maxRecDepth 10000 in
theorem mw_X_lack : MW yX10_lack cX10_lack 2 (Option.some Jvm.ClassFile.FieldType.int) 1 := ⟨tin4 208 (by rfl) rfl, ⟨nh_10.1, nh_10.2, pd_11⟩, ini_10, by decide, pn_10⟩
set_option maxRecDepth 10000 in
theorem im_X_lack : Cond.instanceMethod yX10_lack ∈ lw_g := tin4 206 (by rfl) rfl
set_option maxRecDepth 10000 in
theorem se_X_lack : Cond.selects RX10 yX10_lack yX10_lack ∈ lw_g := tin4 207 (by rfl) rfl
abbrev mu_X_lackAt : MU := (cX10_lackAt, RX10, 2, 19, "lackAt")
set_option maxRecDepth 10000 in
theorem mw_X_lackAt : MW yX10_lackAt cX10_lackAt 2 (Option.some Jvm.ClassFile.FieldType.int) 1 := ⟨tin4 220 (by rfl) rfl, ⟨nh_10.1, nh_10.2, pd_11⟩, ini_10, by decide, pn_10⟩
set_option maxRecDepth 10000 in
theorem im_X_lackAt : Cond.instanceMethod yX10_lackAt ∈ lw_g := tin4 218 (by rfl) rfl
set_option maxRecDepth 10000 in
theorem se_X_lackAt : Cond.selects RX10 yX10_lackAt yX10_lackAt ∈ lw_g := tin4 219 (by rfl) rfl
abbrev mu_X_findGivers : MU := (cX10_findGivers, RX10, 1, 19, "findGivers")
set_option maxRecDepth 10000 in
theorem mw_X_findGivers : MW yX10_findGivers cX10_findGivers 1 (Option.some Jvm.ClassFile.FieldType.boolean) 0 := ⟨tin4 228 (by rfl) rfl, ⟨nh_10.1, nh_10.2, pd_41⟩, ini_10, by decide, pn_10⟩
set_option maxRecDepth 10000 in
theorem im_X_findGivers : Cond.instanceMethod yX10_findGivers ∈ lw_g := tin4 227 (by rfl) rfl
set_option maxRecDepth 10000 in
theorem se_X_findGivers : Cond.selects RX10 yX10_findGivers yX10_findGivers ∈ lw_g := tins 33 (by rfl) rfl
abbrev mu_X_grief : MU := (cX10_grief, RX10, 1, 20, "grief")
set_option maxRecDepth 10000 in
theorem mw_X_grief : MW yX10_grief cX10_grief 1 (Option.some Jvm.ClassFile.FieldType.int) 0 := ⟨tin4 224 (by rfl) rfl, ⟨nh_10.1, nh_10.2, pd_16⟩, ini_10, by decide, pn_10⟩
set_option maxRecDepth 10000 in
theorem im_X_grief : Cond.instanceMethod yX10_grief ∈ lw_g := tin4 222 (by rfl) rfl
set_option maxRecDepth 10000 in
theorem se_X_grief : Cond.selects RX10 yX10_grief yX10_grief ∈ lw_g := tin4 223 (by rfl) rfl
abbrev mu_X_gives : MU := (cX10_gives, RX10, 2, 20, "gives")
set_option maxRecDepth 10000 in
theorem mw_X_gives : MW yX10_gives cX10_gives 2 (Option.some Jvm.ClassFile.FieldType.int) 1 := ⟨tin5 49 (by rfl) rfl, ⟨nh_10.1, nh_10.2, pd_11⟩, ini_10, by decide, pn_10⟩
set_option maxRecDepth 10000 in
theorem im_X_gives : Cond.instanceMethod yX10_gives ∈ lw_g := tin5 47 (by rfl) rfl
set_option maxRecDepth 10000 in
theorem se_X_gives : Cond.selects RX10 yX10_gives yX10_gives ∈ lw_g := tin5 48 (by rfl) rfl
abbrev mu_X_isWayOver : MU := (cX10_isWayOver, RX10, 2, 16, "isWayOver")
set_option maxRecDepth 10000 in
theorem mw_X_isWayOver : MW yX10_isWayOver cX10_isWayOver 2 (Option.some Jvm.ClassFile.FieldType.boolean) 1 := ⟨tin5 57 (by rfl) rfl, ⟨nh_10.1, nh_10.2, pd_28⟩, ini_10, by decide, pn_10⟩
set_option maxRecDepth 10000 in
theorem im_X_isWayOver : Cond.instanceMethod yX10_isWayOver ∈ lw_g := tin5 56 (by rfl) rfl
set_option maxRecDepth 10000 in
theorem se_X_isWayOver : Cond.selects RX10 yX10_isWayOver yX10_isWayOver ∈ lw_g := tins 45 (by rfl) rfl
abbrev mu_X_needed : MU := (cX10_needed, RX10, 3, 17, "needed")
set_option maxRecDepth 10000 in
theorem mw_X_needed : MW yX10_needed cX10_needed 3 (Option.some Jvm.ClassFile.FieldType.int) 0 := ⟨tin5 53 (by rfl) rfl, ⟨nh_10.1, nh_10.2, pd_16⟩, ini_10, by decide, pn_10⟩
set_option maxRecDepth 10000 in
theorem im_X_needed : Cond.instanceMethod yX10_needed ∈ lw_g := tin5 51 (by rfl) rfl
set_option maxRecDepth 10000 in
theorem se_X_needed : Cond.selects RX10 yX10_needed yX10_needed ∈ lw_g := tin5 52 (by rfl) rfl
abbrev mu_X_alone : MU := (cX10_alone, RX10, 3, 16, "alone")
set_option maxRecDepth 10000 in
theorem mw_X_alone : MW yX10_alone cX10_alone 3 (Option.some Jvm.ClassFile.FieldType.int) 0 := ⟨tin5 80 (by rfl) rfl, ⟨nh_10.1, nh_10.2, pd_16⟩, ini_10, by decide, pn_10⟩
set_option maxRecDepth 10000 in
theorem im_X_alone : Cond.instanceMethod yX10_alone ∈ lw_g := tin5 78 (by rfl) rfl
set_option maxRecDepth 10000 in
theorem se_X_alone : Cond.selects RX10 yX10_alone yX10_alone ∈ lw_g := tin5 79 (by rfl) rfl
abbrev mu_X_breaks : MU := (cX10_breaks, RX10, 3, 17, "breaks")
set_option maxRecDepth 10000 in
theorem mw_X_breaks : MW yX10_breaks cX10_breaks 3 (Option.some Jvm.ClassFile.FieldType.int) 0 := ⟨tin5 88 (by rfl) rfl, ⟨nh_10.1, nh_10.2, pd_16⟩, ini_10, by decide, pn_10⟩
set_option maxRecDepth 10000 in
theorem im_X_breaks : Cond.instanceMethod yX10_breaks ∈ lw_g := tin5 86 (by rfl) rfl
set_option maxRecDepth 10000 in
theorem se_X_breaks : Cond.selects RX10 yX10_breaks yX10_breaks ∈ lw_g := tin5 87 (by rfl) rfl
abbrev mu_X_fords : MU := (cX10_fords, RX10, 1, 18, "fords")
set_option maxRecDepth 10000 in
theorem mw_X_fords : MW yX10_fords cX10_fords 1 (Option.some Jvm.ClassFile.FieldType.int) 0 := ⟨tin5 93 (by rfl) rfl, ⟨nh_10.1, nh_10.2, pd_16⟩, ini_10, by decide, pn_10⟩
set_option maxRecDepth 10000 in
theorem im_X_fords : Cond.instanceMethod yX10_fords ∈ lw_g := tin5 91 (by rfl) rfl
set_option maxRecDepth 10000 in
theorem se_X_fords : Cond.selects RX10 yX10_fords yX10_fords ∈ lw_g := tin5 92 (by rfl) rfl
abbrev mu_X_tell : MU := (cX10_tell, RX10, 4, 1, "tell")
set_option maxRecDepth 10000 in
theorem mw_X_tell : MW yX10_tell cX10_tell 4 (Option.some Jvm.ClassFile.FieldType.int) 3 := ⟨tin5 131 (by rfl) rfl, ⟨nh_10.1, nh_10.2, pd_10⟩, ini_10, by decide, pn_10⟩
set_option maxRecDepth 10000 in
theorem im_X_tell : Cond.instanceMethod yX10_tell ∈ lw_g := tin5 129 (by rfl) rfl
set_option maxRecDepth 10000 in
theorem se_X_tell : Cond.selects RX10 yX10_tell yX10_tell ∈ lw_g := tin5 130 (by rfl) rfl
abbrev mu_X_forget : MU := (cX10_forget, RX10, 2, 0, "forget")
set_option maxRecDepth 10000 in
theorem mw_X_forget : MW yX10_forget cX10_forget 2 (Option.some Jvm.ClassFile.FieldType.int) 0 := ⟨tin5 135 (by rfl) rfl, ⟨nh_10.1, nh_10.2, pd_16⟩, ini_10, by decide, pn_10⟩
set_option maxRecDepth 10000 in
theorem im_X_forget : Cond.instanceMethod yX10_forget ∈ lw_g := tin5 133 (by rfl) rfl
set_option maxRecDepth 10000 in
theorem se_X_forget : Cond.selects RX10 yX10_forget yX10_forget ∈ lw_g := tin5 134 (by rfl) rfl
abbrev mu_X_isKnownOf : MU := (cX10_isKnownOf, RX10, 4, 0, "isKnownOf")
set_option maxRecDepth 10000 in
theorem mw_X_isKnownOf : MW yX10_isKnownOf cX10_isKnownOf 4 (Option.some Jvm.ClassFile.FieldType.boolean) 2 := ⟨tin5 155 (by rfl) rfl, ⟨nh_10.1, nh_10.2, pd_6⟩, ini_10, by decide, pn_10⟩
set_option maxRecDepth 10000 in
theorem im_X_isKnownOf : Cond.instanceMethod yX10_isKnownOf ∈ lw_g := tin5 154 (by rfl) rfl
set_option maxRecDepth 10000 in
theorem se_X_isKnownOf : Cond.selects RX10 yX10_isKnownOf yX10_isKnownOf ∈ lw_g := tins 56 (by rfl) rfl
abbrev mu_X_isKnownSo : MU := (cX10_isKnownSo, RX10, 4, 0, "isKnownSo")
set_option maxRecDepth 10000 in
theorem mw_X_isKnownSo : MW yX10_isKnownSo cX10_isKnownSo 4 (Option.some Jvm.ClassFile.FieldType.boolean) 2 := ⟨tin5 147 (by rfl) rfl, ⟨nh_10.1, nh_10.2, pd_6⟩, ini_10, by decide, pn_10⟩
set_option maxRecDepth 10000 in
theorem im_X_isKnownSo : Cond.instanceMethod yX10_isKnownSo ∈ lw_g := tin5 146 (by rfl) rfl
set_option maxRecDepth 10000 in
theorem se_X_isKnownSo : Cond.selects RX10 yX10_isKnownSo yX10_isKnownSo ∈ lw_g := tins 54 (by rfl) rfl
abbrev mu_X_fitsAt : MU := (cX10_fitsAt, RX10, 6, 18, "fitsAt")
set_option maxRecDepth 10000 in
theorem mw_X_fitsAt : MW yX10_fitsAt cX10_fitsAt 6 (Option.some Jvm.ClassFile.FieldType.boolean) 5 := ⟨tin5 151 (by rfl) rfl, ⟨nh_10.1, nh_10.2, pd_45⟩, ini_10, by decide, pn_10⟩
set_option maxRecDepth 10000 in
theorem im_X_fitsAt : Cond.instanceMethod yX10_fitsAt ∈ lw_g := tin5 150 (by rfl) rfl
set_option maxRecDepth 10000 in
theorem se_X_fitsAt : Cond.selects RX10 yX10_fitsAt yX10_fitsAt ∈ lw_g := tins 55 (by rfl) rfl
abbrev mu_X_rowsWrongWithout : MU := (cX10_rowsWrongWithout, RX10, 5, 18, "rowsWrongWithout")
set_option maxRecDepth 10000 in
theorem mw_X_rowsWrongWithout : MW yX10_rowsWrongWithout cX10_rowsWrongWithout 5 (Option.some Jvm.ClassFile.FieldType.int) 2 := ⟨tin5 143 (by rfl) rfl, ⟨nh_10.1, nh_10.2, pd_4⟩, ini_10, by decide, pn_10⟩
set_option maxRecDepth 10000 in
theorem im_X_rowsWrongWithout : Cond.instanceMethod yX10_rowsWrongWithout ∈ lw_g := tin5 142 (by rfl) rfl
set_option maxRecDepth 10000 in
theorem se_X_rowsWrongWithout : Cond.selects RX10 yX10_rowsWrongWithout yX10_rowsWrongWithout ∈ lw_g := tins 53 (by rfl) rfl
abbrev mu_X_fits : MU := (cX10_fits, RX10, 9, 19, "fits")
set_option maxRecDepth 10000 in
theorem mw_X_fits : MW yX10_fits cX10_fits 9 (Option.some Jvm.ClassFile.FieldType.int) 4 := ⟨tin5 139 (by rfl) rfl, ⟨nh_10.1, nh_10.2, pd_46⟩, ini_10, by decide, pn_10⟩
set_option maxRecDepth 10000 in
theorem im_X_fits : Cond.instanceMethod yX10_fits ∈ lw_g := tin5 137 (by rfl) rfl
set_option maxRecDepth 10000 in
theorem se_X_fits : Cond.selects RX10 yX10_fits yX10_fits ∈ lw_g := tin5 138 (by rfl) rfl
abbrev mu_M_put : MU := (cX11_put, RX11, 3, 0, "put")
set_option maxRecDepth 10000 in
theorem mw_M_put : MW yX11_put cX11_put 3 (Option.none : Option Jvm.ClassFile.FieldType) 1 := ⟨tin6 188 (by rfl) rfl, ⟨nh_11.1, nh_11.2, pd_21⟩, ini_11, by decide, pn_11⟩
set_option maxRecDepth 10000 in
theorem im_M_put : Cond.instanceMethod yX11_put ∈ lw_g := tin6 187 (by rfl) rfl
set_option maxRecDepth 10000 in
theorem se_M_put : Cond.selects RX11 yX11_put yX11_put ∈ lw_g := tins 59 (by rfl) rfl
abbrev mu_M_feed : MU := (cX11_feed, RX11, 6, 1, "feed")
set_option maxRecDepth 10000 in
theorem mw_M_feed : MW yX11_feed cX11_feed 6 (Option.some Jvm.ClassFile.FieldType.int) 5 := ⟨tin6 184 (by rfl) rfl, ⟨nh_11.1, nh_11.2, pd_44⟩, ini_11, by decide, pn_11⟩
set_option maxRecDepth 10000 in
theorem im_M_feed : Cond.instanceMethod yX11_feed ∈ lw_g := tin6 182 (by rfl) rfl
set_option maxRecDepth 10000 in
theorem se_M_feed : Cond.selects RX11 yX11_feed yX11_feed ∈ lw_g := tin6 183 (by rfl) rfl
abbrev mu_M_back : MU := (cX11_back, RX11, 2, 0, "back")
set_option maxRecDepth 10000 in
theorem mw_M_back : MW yX11_back cX11_back 2 (Option.some Jvm.ClassFile.FieldType.int) 1 := ⟨tin6 192 (by rfl) rfl, ⟨nh_11.1, nh_11.2, pd_11⟩, ini_11, by decide, pn_11⟩
set_option maxRecDepth 10000 in
theorem im_M_back : Cond.instanceMethod yX11_back ∈ lw_g := tin6 190 (by rfl) rfl
set_option maxRecDepth 10000 in
theorem se_M_back : Cond.selects RX11 yX11_back yX11_back ∈ lw_g := tin6 191 (by rfl) rfl
abbrev mu_M_byteAt : MU := (cX11_byteAt, RX11, 2, 0, "byteAt")
set_option maxRecDepth 10000 in
theorem mw_M_byteAt : MW yX11_byteAt cX11_byteAt 2 (Option.some Jvm.ClassFile.FieldType.int) 1 := ⟨tin6 204 (by rfl) rfl, ⟨nh_11.1, nh_11.2, pd_11⟩, ini_11, by decide, pn_11⟩
set_option maxRecDepth 10000 in
theorem im_M_byteAt : Cond.instanceMethod yX11_byteAt ∈ lw_g := tin6 203 (by rfl) rfl
set_option maxRecDepth 10000 in
theorem se_M_byteAt : Cond.selects RX11 yX11_byteAt yX11_byteAt ∈ lw_g := tins 61 (by rfl) rfl
abbrev mu_M_isDigit : MU := (cX11_isDigit, RX11, 1, 0, "isDigit")
set_option maxRecDepth 10000 in
theorem mw_M_isDigit : MW yX11_isDigit cX11_isDigit 1 (Option.some Jvm.ClassFile.FieldType.boolean) 1 := ⟨tin6 214 (by rfl) rfl, ⟨nh_11.1, nh_11.2, pd_23⟩, ini_11, by decide, pn_11⟩
set_option maxRecDepth 10000 in
theorem st_M_isDigit : Cond.static yX11_isDigit ∈ lw_g := tin6 213 (by rfl) rfl
abbrev mu_M_isLetter : MU := (cX11_isLetter, RX11, 1, 0, "isLetter")
set_option maxRecDepth 10000 in
theorem mw_M_isLetter : MW yX11_isLetter cX11_isLetter 1 (Option.some Jvm.ClassFile.FieldType.boolean) 1 := ⟨tin6 211 (by rfl) rfl, ⟨nh_11.1, nh_11.2, pd_23⟩, ini_11, by decide, pn_11⟩
set_option maxRecDepth 10000 in
theorem st_M_isLetter : Cond.static yX11_isLetter ∈ lw_g := tin6 210 (by rfl) rfl
abbrev mu_M_appends : MU := (cX11_appends, RX11, 3, 0, "appends")
set_option maxRecDepth 10000 in
theorem mw_M_appends : MW yX11_appends cX11_appends 3 (Option.some Jvm.ClassFile.FieldType.long) 2 := ⟨tin5 171 (by rfl) rfl, ⟨nh_11.1, nh_11.2, pd_47⟩, ini_11, by decide, pn_11⟩
set_option maxRecDepth 10000 in
theorem st_M_appends : Cond.static yX11_appends ∈ lw_g := tin5 170 (by rfl) rfl
abbrev mu_M_word : MU := (cX11_word, RX11, 7, 1, "word")
set_option maxRecDepth 10000 in
theorem mw_M_word : MW yX11_word cX11_word 7 (Option.some Jvm.ClassFile.FieldType.long) 7 := ⟨tin5 168 (by rfl) rfl, ⟨nh_11.1, nh_11.2, pd_48⟩, ini_11, by decide, pn_11⟩
set_option maxRecDepth 10000 in
theorem st_M_word : Cond.static yX11_word ∈ lw_g := tin5 167 (by rfl) rfl
abbrev mu_M_token : MU := (cX11_token, RX11, 6, 0, "token")
set_option maxRecDepth 10000 in
theorem mw_M_token : MW yX11_token cX11_token 6 (Option.none : Option Jvm.ClassFile.FieldType) 4 := ⟨tin6 208 (by rfl) rfl, ⟨nh_11.1, nh_11.2, pd_49⟩, ini_11, by decide, pn_11⟩
set_option maxRecDepth 10000 in
theorem im_M_token : Cond.instanceMethod yX11_token ∈ lw_g := tin6 207 (by rfl) rfl
set_option maxRecDepth 10000 in
theorem se_M_token : Cond.selects RX11 yX11_token yX11_token ∈ lw_g := tins 62 (by rfl) rfl
abbrev mu_M_sign : MU := (cX11_sign, RX11, 5, 1, "sign")
set_option maxRecDepth 10000 in
theorem mw_M_sign : MW yX11_sign cX11_sign 5 (Option.some Jvm.ClassFile.FieldType.int) 3 := ⟨tin6 218 (by rfl) rfl, ⟨nh_11.1, nh_11.2, pd_10⟩, ini_11, by decide, pn_11⟩
set_option maxRecDepth 10000 in
theorem im_M_sign : Cond.instanceMethod yX11_sign ∈ lw_g := tin6 217 (by rfl) rfl
set_option maxRecDepth 10000 in
theorem se_M_sign : Cond.selects RX11 yX11_sign yX11_sign ∈ lw_g := tins 63 (by rfl) rfl
abbrev mu_M_cut : MU := (cX11_cut, RX11, 8, 2, "cut")
set_option maxRecDepth 10000 in
theorem mw_M_cut : MW yX11_cut cX11_cut 8 (Option.none : Option Jvm.ClassFile.FieldType) 0 := ⟨tin6 200 (by rfl) rfl, ⟨nh_11.1, nh_11.2, pd_0⟩, ini_11, by decide, pn_11⟩
set_option maxRecDepth 10000 in
theorem im_M_cut : Cond.instanceMethod yX11_cut ∈ lw_g := tin6 199 (by rfl) rfl
set_option maxRecDepth 10000 in
theorem se_M_cut : Cond.selects RX11 yX11_cut yX11_cut ∈ lw_g := tins 60 (by rfl) rfl
abbrev mu_M_is : MU := (cX11_is, RX11, 2, 0, "is")
set_option maxRecDepth 10000 in
theorem mw_M_is : MW yX11_is cX11_is 2 (Option.some Jvm.ClassFile.FieldType.boolean) 1 := ⟨tin6 222 (by rfl) rfl, ⟨nh_11.1, nh_11.2, pd_23⟩, ini_11, by decide, pn_11⟩
set_option maxRecDepth 10000 in
theorem im_M_is : Cond.instanceMethod yX11_is ∈ lw_g := tin6 221 (by rfl) rfl
set_option maxRecDepth 10000 in
theorem se_M_is : Cond.selects RX11 yX11_is yX11_is ∈ lw_g := tins 64 (by rfl) rfl
abbrev mu_M_fail : MU := (cX11_fail, RX11, 2, 0, "fail")
set_option maxRecDepth 10000 in
theorem mw_M_fail : MW yX11_fail cX11_fail 2 (Option.none : Option Jvm.ClassFile.FieldType) 1 := ⟨tin6 234 (by rfl) rfl, ⟨nh_11.1, nh_11.2, pd_21⟩, ini_11, by decide, pn_11⟩
set_option maxRecDepth 10000 in
theorem im_M_fail : Cond.instanceMethod yX11_fail ∈ lw_g := tin6 233 (by rfl) rfl
set_option maxRecDepth 10000 in
theorem se_M_fail : Cond.selects RX11 yX11_fail yX11_fail ∈ lw_g := tins 67 (by rfl) rfl
abbrev mu_M_wrong : MU := (cX11_wrong, RX11, 4, 0, "wrong")
set_option maxRecDepth 10000 in
theorem mw_M_wrong : MW yX11_wrong cX11_wrong 4 (Option.none : Option Jvm.ClassFile.FieldType) 2 := ⟨tin7 2 (by rfl) rfl, ⟨nh_11.1, nh_11.2, pd_8⟩, ini_11, by decide, pn_11⟩
set_option maxRecDepth 10000 in
theorem im_M_wrong : Cond.instanceMethod yX11_wrong ∈ lw_g := tin7 1 (by rfl) rfl
set_option maxRecDepth 10000 in
theorem se_M_wrong : Cond.selects RX11 yX11_wrong yX11_wrong ∈ lw_g := tins 69 (by rfl) rfl
abbrev mu_M_goesOn : MU := (cX11_goesOn, RX11, 1, 1, "goesOn")
set_option maxRecDepth 10000 in
theorem mw_M_goesOn : MW yX11_goesOn cX11_goesOn 1 (Option.none : Option Jvm.ClassFile.FieldType) 0 := ⟨tin6 230 (by rfl) rfl, ⟨nh_11.1, nh_11.2, pd_0⟩, ini_11, by decide, pn_11⟩
set_option maxRecDepth 10000 in
theorem im_M_goesOn : Cond.instanceMethod yX11_goesOn ∈ lw_g := tin6 229 (by rfl) rfl
set_option maxRecDepth 10000 in
theorem se_M_goesOn : Cond.selects RX11 yX11_goesOn yX11_goesOn ∈ lw_g := tins 66 (by rfl) rfl
abbrev mu_M_must : MU := (cX11_must, RX11, 2, 2, "must")
set_option maxRecDepth 10000 in
theorem mw_M_must : MW yX11_must cX11_must 2 (Option.none : Option Jvm.ClassFile.FieldType) 1 := ⟨tin7 6 (by rfl) rfl, ⟨nh_11.1, nh_11.2, pd_21⟩, ini_11, by decide, pn_11⟩
set_option maxRecDepth 10000 in
theorem im_M_must : Cond.instanceMethod yX11_must ∈ lw_g := tin7 5 (by rfl) rfl
set_option maxRecDepth 10000 in
theorem se_M_must : Cond.selects RX11 yX11_must yX11_must ∈ lw_g := tins 70 (by rfl) rfl
abbrev mu_M_plain : MU := (cX11_plain, RX11, 3, 0, "plain")
set_option maxRecDepth 10000 in
theorem mw_M_plain : MW yX11_plain cX11_plain 3 (Option.none : Option Jvm.ClassFile.FieldType) 1 := ⟨tin5 165 (by rfl) rfl, ⟨nh_11.1, nh_11.2, pd_21⟩, ini_11, by decide, pn_11⟩
set_option maxRecDepth 10000 in
theorem im_M_plain : Cond.instanceMethod yX11_plain ∈ lw_g := tin5 164 (by rfl) rfl
set_option maxRecDepth 10000 in
theorem se_M_plain : Cond.selects RX11 yX11_plain yX11_plain ∈ lw_g := tins 57 (by rfl) rfl
abbrev mu_M_begins : MU := (cX11_begins, RX11, 2, 0, "begins")
set_option maxRecDepth 10000 in
theorem mw_M_begins : MW yX11_begins cX11_begins 2 (Option.none : Option Jvm.ClassFile.FieldType) 0 := ⟨tin5 176 (by rfl) rfl, ⟨nh_11.1, nh_11.2, pd_0⟩, ini_11, by decide, pn_11⟩
set_option maxRecDepth 10000 in
theorem im_M_begins : Cond.instanceMethod yX11_begins ∈ lw_g := tin5 175 (by rfl) rfl
set_option maxRecDepth 10000 in
theorem se_M_begins : Cond.selects RX11 yX11_begins yX11_begins ∈ lw_g := tins 58 (by rfl) rfl
abbrev mu_M_bounded : MU := (cX11_bounded, RX11, 4, 2, "bounded")
set_option maxRecDepth 10000 in
theorem mw_M_bounded : MW yX11_bounded cX11_bounded 4 (Option.some Jvm.ClassFile.FieldType.int) 2 := ⟨tin6 238 (by rfl) rfl, ⟨nh_11.1, nh_11.2, pd_4⟩, ini_11, by decide, pn_11⟩
set_option maxRecDepth 10000 in
theorem im_M_bounded : Cond.instanceMethod yX11_bounded ∈ lw_g := tin6 237 (by rfl) rfl
set_option maxRecDepth 10000 in
theorem se_M_bounded : Cond.selects RX11 yX11_bounded yX11_bounded ∈ lw_g := tins 68 (by rfl) rfl
abbrev mu_M_roomFor : MU := (cX11_roomFor, RX11, 3, 2, "roomFor")
set_option maxRecDepth 10000 in
theorem mw_M_roomFor : MW yX11_roomFor cX11_roomFor 3 (Option.none : Option Jvm.ClassFile.FieldType) 2 := ⟨tin7 10 (by rfl) rfl, ⟨nh_11.1, nh_11.2, pd_8⟩, ini_11, by decide, pn_11⟩
set_option maxRecDepth 10000 in
theorem im_M_roomFor : Cond.instanceMethod yX11_roomFor ∈ lw_g := tin7 9 (by rfl) rfl
set_option maxRecDepth 10000 in
theorem se_M_roomFor : Cond.selects RX11 yX11_roomFor yX11_roomFor ∈ lw_g := tins 71 (by rfl) rfl
abbrev mu_M_tellDepth : MU := (cX11_tellDepth, RX11, 4, 3, "tellDepth")
set_option maxRecDepth 10000 in
theorem mw_M_tellDepth : MW yX11_tellDepth cX11_tellDepth 4 (Option.none : Option Jvm.ClassFile.FieldType) 0 := ⟨tin7 14 (by rfl) rfl, ⟨nh_11.1, nh_11.2, pd_0⟩, ini_11, by decide, pn_11⟩
set_option maxRecDepth 10000 in
theorem im_M_tellDepth : Cond.instanceMethod yX11_tellDepth ∈ lw_g := tin7 13 (by rfl) rfl
set_option maxRecDepth 10000 in
theorem se_M_tellDepth : Cond.selects RX11 yX11_tellDepth yX11_tellDepth ∈ lw_g := tins 72 (by rfl) rfl
abbrev mu_M_tellFlood : MU := (cX11_tellFlood, RX11, 2, 3, "tellFlood")
set_option maxRecDepth 10000 in
theorem mw_M_tellFlood : MW yX11_tellFlood cX11_tellFlood 2 (Option.none : Option Jvm.ClassFile.FieldType) 0 := ⟨tin7 22 (by rfl) rfl, ⟨nh_11.1, nh_11.2, pd_0⟩, ini_11, by decide, pn_11⟩
set_option maxRecDepth 10000 in
theorem im_M_tellFlood : Cond.instanceMethod yX11_tellFlood ∈ lw_g := tin7 21 (by rfl) rfl
set_option maxRecDepth 10000 in
theorem se_M_tellFlood : Cond.selects RX11 yX11_tellFlood yX11_tellFlood ∈ lw_g := tins 74 (by rfl) rfl
abbrev mu_M_emit : MU := (cX11_emit, RX11, 3, 0, "emit")
set_option maxRecDepth 10000 in
theorem mw_M_emit : MW yX11_emit cX11_emit 3 (Option.none : Option Jvm.ClassFile.FieldType) 2 := ⟨tin7 38 (by rfl) rfl, ⟨nh_11.1, nh_11.2, pd_8⟩, ini_11, by decide, pn_11⟩
set_option maxRecDepth 10000 in
theorem im_M_emit : Cond.instanceMethod yX11_emit ∈ lw_g := tin7 37 (by rfl) rfl
set_option maxRecDepth 10000 in
theorem se_M_emit : Cond.selects RX11 yX11_emit yX11_emit ∈ lw_g := tins 78 (by rfl) rfl
abbrev mu_M_comesOut : MU := (cX11_comesOut, RX11, 3, 1, "comesOut")
set_option maxRecDepth 10000 in
theorem mw_M_comesOut : MW yX11_comesOut cX11_comesOut 3 (Option.none : Option Jvm.ClassFile.FieldType) 1 := ⟨tin7 42 (by rfl) rfl, ⟨nh_11.1, nh_11.2, pd_50⟩, ini_11, by decide, pn_11⟩
set_option maxRecDepth 10000 in
theorem im_M_comesOut : Cond.instanceMethod yX11_comesOut ∈ lw_g := tin7 41 (by rfl) rfl
set_option maxRecDepth 10000 in
theorem se_M_comesOut : Cond.selects RX11 yX11_comesOut yX11_comesOut ∈ lw_g := tins 79 (by rfl) rfl
abbrev mu_M_unit : MU := (cX11_unit, RX11, 1, 2, "unit")
set_option maxRecDepth 10000 in
theorem mw_M_unit : MW yX11_unit cX11_unit 1 (Option.none : Option Jvm.ClassFile.FieldType) 0 := ⟨tin7 34 (by rfl) rfl, ⟨nh_11.1, nh_11.2, pd_0⟩, ini_11, by decide, pn_11⟩
set_option maxRecDepth 10000 in
theorem im_M_unit : Cond.instanceMethod yX11_unit ∈ lw_g := tin7 33 (by rfl) rfl
set_option maxRecDepth 10000 in
theorem se_M_unit : Cond.selects RX11 yX11_unit yX11_unit ∈ lw_g := tins 77 (by rfl) rfl
abbrev mu_M_expression : MU := (cX11_expression, RX11, 3, 3, "expression")
set_option maxRecDepth 10000 in
theorem mw_M_expression : MW yX11_expression cX11_expression 3 (Option.none : Option Jvm.ClassFile.FieldType) 0 := ⟨tin7 30 (by rfl) rfl, ⟨nh_11.1, nh_11.2, pd_0⟩, ini_11, by decide, pn_11⟩
set_option maxRecDepth 10000 in
theorem im_M_expression : Cond.instanceMethod yX11_expression ∈ lw_g := tin7 29 (by rfl) rfl
set_option maxRecDepth 10000 in
theorem se_M_expression : Cond.selects RX11 yX11_expression yX11_expression ∈ lw_g := tins 76 (by rfl) rfl
abbrev mu_M_term : MU := (cX11_term, RX11, 1, 4, "term")
set_option maxRecDepth 10000 in
theorem mw_M_term : MW yX11_term cX11_term 1 (Option.none : Option Jvm.ClassFile.FieldType) 0 := ⟨tin7 46 (by rfl) rfl, ⟨nh_11.1, nh_11.2, pd_0⟩, ini_11, by decide, pn_11⟩
set_option maxRecDepth 10000 in
theorem im_M_term : Cond.instanceMethod yX11_term ∈ lw_g := tin7 45 (by rfl) rfl
set_option maxRecDepth 10000 in
theorem se_M_term : Cond.selects RX11 yX11_term yX11_term ∈ lw_g := tins 80 (by rfl) rfl
abbrev mu_M_tellLaw : MU := (cX11_tellLaw, RX11, 4, 5, "tellLaw")
set_option maxRecDepth 10000 in
theorem mw_M_tellLaw : MW yX11_tellLaw cX11_tellLaw 4 (Option.none : Option Jvm.ClassFile.FieldType) 1 := ⟨tin7 26 (by rfl) rfl, ⟨nh_11.1, nh_11.2, pd_21⟩, ini_11, by decide, pn_11⟩
set_option maxRecDepth 10000 in
theorem im_M_tellLaw : Cond.instanceMethod yX11_tellLaw ∈ lw_g := tin7 25 (by rfl) rfl
set_option maxRecDepth 10000 in
theorem se_M_tellLaw : Cond.selects RX11 yX11_tellLaw yX11_tellLaw ∈ lw_g := tins 75 (by rfl) rfl
abbrev mu_M_tellLeaver : MU := (cX11_tellLeaver, RX11, 4, 3, "tellLeaver")
set_option maxRecDepth 10000 in
theorem mw_M_tellLeaver : MW yX11_tellLeaver cX11_tellLeaver 4 (Option.none : Option Jvm.ClassFile.FieldType) 0 := ⟨tin7 18 (by rfl) rfl, ⟨nh_11.1, nh_11.2, pd_0⟩, ini_11, by decide, pn_11⟩
set_option maxRecDepth 10000 in
theorem im_M_tellLeaver : Cond.instanceMethod yX11_tellLeaver ∈ lw_g := tin7 17 (by rfl) rfl
set_option maxRecDepth 10000 in
theorem se_M_tellLeaver : Cond.selects RX11 yX11_tellLeaver yX11_tellLeaver ∈ lw_g := tins 73 (by rfl) rfl
abbrev mu_M_tell : MU := (cX11_tell, RX11, 3, 6, "tell")
set_option maxRecDepth 10000 in
theorem mw_M_tell : MW yX11_tell cX11_tell 3 (Option.none : Option Jvm.ClassFile.FieldType) 0 := ⟨tin6 226 (by rfl) rfl, ⟨nh_11.1, nh_11.2, pd_0⟩, ini_11, by decide, pn_11⟩
set_option maxRecDepth 10000 in
theorem im_M_tell : Cond.instanceMethod yX11_tell ∈ lw_g := tin6 225 (by rfl) rfl
set_option maxRecDepth 10000 in
theorem se_M_tell : Cond.selects RX11 yX11_tell yX11_tell ∈ lw_g := tins 65 (by rfl) rfl
abbrev mu_M_read : MU := (cX11_read, RX11, 2, 7, "read")
set_option maxRecDepth 10000 in
theorem mw_M_read : MW yX11_read cX11_read 2 (Option.some Jvm.ClassFile.FieldType.int) 0 := ⟨tin6 196 (by rfl) rfl, ⟨nh_11.1, nh_11.2, pd_16⟩, ini_11, by decide, pn_11⟩
set_option maxRecDepth 10000 in
theorem im_M_read : Cond.instanceMethod yX11_read ∈ lw_g := tin6 194 (by rfl) rfl
set_option maxRecDepth 10000 in
theorem se_M_read : Cond.selects RX11 yX11_read yX11_read ∈ lw_g := tin6 195 (by rfl) rfl
abbrev mu_M_place : MU := (cX11_place, RX11, 1, 0, "place")
set_option maxRecDepth 10000 in
theorem mw_M_place : MW yX11_place cX11_place 1 (Option.some Jvm.ClassFile.FieldType.int) 0 := ⟨tin7 50 (by rfl) rfl, ⟨nh_11.1, nh_11.2, pd_16⟩, ini_11, by decide, pn_11⟩
set_option maxRecDepth 10000 in
theorem im_M_place : Cond.instanceMethod yX11_place ∈ lw_g := tin7 48 (by rfl) rfl
set_option maxRecDepth 10000 in
theorem se_M_place : Cond.selects RX11 yX11_place yX11_place ∈ lw_g := tin7 49 (by rfl) rfl
abbrev mu_M_termOf : MU := (cX11_termOf, RX11, 8, 0, "termOf")
set_option maxRecDepth 10000 in
theorem mw_M_termOf : MW yX11_termOf cX11_termOf 8 (Option.some Jvm.ClassFile.FieldType.int) 2 := ⟨tin7 85 (by rfl) rfl, ⟨nh_11.1, nh_11.2, pd_4⟩, ini_11, by decide, pn_11⟩
set_option maxRecDepth 10000 in
theorem im_M_termOf : Cond.instanceMethod yX11_termOf ∈ lw_g := tin7 84 (by rfl) rfl
set_option maxRecDepth 10000 in
theorem se_M_termOf : Cond.selects RX11 yX11_termOf yX11_termOf ∈ lw_g := tins 87 (by rfl) rfl
abbrev mu_M_in : MU := (cX11_in, RX11, 3, 0, "in")
set_option maxRecDepth 10000 in
theorem mw_M_in : MW yX11_in cX11_in 3 (Option.some Jvm.ClassFile.FieldType.boolean) 3 := ⟨tin7 61 (by rfl) rfl, ⟨nh_11.1, nh_11.2, pd_25⟩, ini_11, by decide, pn_11⟩
set_option maxRecDepth 10000 in
theorem st_M_in : Cond.static yX11_in ∈ lw_g := tin7 60 (by rfl) rfl
abbrev mu_M_counts : MU := (cX11_counts, RX11, 2, 0, "counts")
set_option maxRecDepth 10000 in
theorem mw_M_counts : MW yX11_counts cX11_counts 2 (Option.none : Option Jvm.ClassFile.FieldType) 0 := ⟨tin7 69 (by rfl) rfl, ⟨nh_11.1, nh_11.2, pd_0⟩, ini_11, by decide, pn_11⟩
set_option maxRecDepth 10000 in
theorem im_M_counts : Cond.instanceMethod yX11_counts ∈ lw_g := tin7 68 (by rfl) rfl
set_option maxRecDepth 10000 in
theorem se_M_counts : Cond.selects RX11 yX11_counts yX11_counts ∈ lw_g := tins 83 (by rfl) rfl
abbrev mu_M_copies : MU := (cX11_copies, RX11, 2, 1, "copies")
set_option maxRecDepth 10000 in
theorem mw_M_copies : MW yX11_copies cX11_copies 2 (Option.none : Option Jvm.ClassFile.FieldType) 0 := ⟨tin7 65 (by rfl) rfl, ⟨nh_11.1, nh_11.2, pd_0⟩, ini_11, by decide, pn_11⟩
set_option maxRecDepth 10000 in
theorem im_M_copies : Cond.instanceMethod yX11_copies ∈ lw_g := tin7 64 (by rfl) rfl
set_option maxRecDepth 10000 in
theorem se_M_copies : Cond.selects RX11 yX11_copies yX11_copies ∈ lw_g := tins 82 (by rfl) rfl
abbrev mu_M_isCell : MU := (cX11_isCell, RX11, 3, 1, "isCell")
set_option maxRecDepth 10000 in
theorem mw_M_isCell : MW yX11_isCell cX11_isCell 3 (Option.some Jvm.ClassFile.FieldType.boolean) 2 := ⟨tin7 58 (by rfl) rfl, ⟨nh_11.1, nh_11.2, pd_6⟩, ini_11, by decide, pn_11⟩
set_option maxRecDepth 10000 in
theorem im_M_isCell : Cond.instanceMethod yX11_isCell ∈ lw_g := tin7 57 (by rfl) rfl
set_option maxRecDepth 10000 in
theorem se_M_isCell : Cond.selects RX11 yX11_isCell yX11_isCell ∈ lw_g := tins 81 (by rfl) rfl
abbrev mu_M_isLeaver : MU := (cX11_isLeaver, RX11, 2, 1, "isLeaver")
set_option maxRecDepth 10000 in
theorem mw_M_isLeaver : MW yX11_isLeaver cX11_isLeaver 2 (Option.some Jvm.ClassFile.FieldType.boolean) 1 := ⟨tin7 101 (by rfl) rfl, ⟨nh_11.1, nh_11.2, pd_23⟩, ini_11, by decide, pn_11⟩
set_option maxRecDepth 10000 in
theorem im_M_isLeaver : Cond.instanceMethod yX11_isLeaver ∈ lw_g := tin7 100 (by rfl) rfl
set_option maxRecDepth 10000 in
theorem se_M_isLeaver : Cond.selects RX11 yX11_isLeaver yX11_isLeaver ∈ lw_g := tins 89 (by rfl) rfl
abbrev mu_M_deep : MU := (cX11_deep, RX11, 2, 0, "deep")
set_option maxRecDepth 10000 in
theorem mw_M_deep : MW yX11_deep cX11_deep 2 (Option.some Jvm.ClassFile.FieldType.int) 1 := ⟨tin7 73 (by rfl) rfl, ⟨nh_11.1, nh_11.2, pd_11⟩, ini_11, by decide, pn_11⟩
set_option maxRecDepth 10000 in
theorem im_M_deep : Cond.instanceMethod yX11_deep ∈ lw_g := tin7 72 (by rfl) rfl
set_option maxRecDepth 10000 in
theorem se_M_deep : Cond.selects RX11 yX11_deep yX11_deep ∈ lw_g := tins 84 (by rfl) rfl
abbrev mu_M_isStep : MU := (cX11_isStep, RX11, 2, 1, "isStep")
set_option maxRecDepth 10000 in
theorem mw_M_isStep : MW yX11_isStep cX11_isStep 2 (Option.some Jvm.ClassFile.FieldType.boolean) 1 := ⟨tin7 77 (by rfl) rfl, ⟨nh_11.1, nh_11.2, pd_23⟩, ini_11, by decide, pn_11⟩
set_option maxRecDepth 10000 in
theorem im_M_isStep : Cond.instanceMethod yX11_isStep ∈ lw_g := tin7 76 (by rfl) rfl
set_option maxRecDepth 10000 in
theorem se_M_isStep : Cond.selects RX11 yX11_isStep yX11_isStep ∈ lw_g := tins 85 (by rfl) rfl
abbrev mu_M_tellsBy : MU := (cX11_tellsBy, RX11, 10, 1, "tellsBy")
set_option maxRecDepth 10000 in
theorem mw_M_tellsBy : MW yX11_tellsBy cX11_tellsBy 10 (Option.some Jvm.ClassFile.FieldType.int) 4 := ⟨tin7 81 (by rfl) rfl, ⟨nh_11.1, nh_11.2, pd_46⟩, ini_11, by decide, pn_11⟩
set_option maxRecDepth 10000 in
theorem im_M_tellsBy : Cond.instanceMethod yX11_tellsBy ∈ lw_g := tin7 80 (by rfl) rfl
set_option maxRecDepth 10000 in
theorem se_M_tellsBy : Cond.selects RX11 yX11_tellsBy yX11_tellsBy ∈ lw_g := tins 86 (by rfl) rfl
abbrev mu_M_leftOf : MU := (cX11_leftOf, RX11, 4, 0, "leftOf")
set_option maxRecDepth 10000 in
theorem mw_M_leftOf : MW yX11_leftOf cX11_leftOf 4 (Option.some Jvm.ClassFile.FieldType.int) 1 := ⟨tin7 105 (by rfl) rfl, ⟨nh_11.1, nh_11.2, pd_11⟩, ini_11, by decide, pn_11⟩
set_option maxRecDepth 10000 in
theorem im_M_leftOf : Cond.instanceMethod yX11_leftOf ∈ lw_g := tin7 104 (by rfl) rfl
set_option maxRecDepth 10000 in
theorem se_M_leftOf : Cond.selects RX11 yX11_leftOf yX11_leftOf ∈ lw_g := tins 90 (by rfl) rfl
abbrev mu_M_mayThrow : MU := (cX11_mayThrow, RX11, 2, 1, "mayThrow")
set_option maxRecDepth 10000 in
theorem mw_M_mayThrow : MW yX11_mayThrow cX11_mayThrow 2 (Option.some Jvm.ClassFile.FieldType.boolean) 1 := ⟨tin7 109 (by rfl) rfl, ⟨nh_11.1, nh_11.2, pd_23⟩, ini_11, by decide, pn_11⟩
set_option maxRecDepth 10000 in
theorem im_M_mayThrow : Cond.instanceMethod yX11_mayThrow ∈ lw_g := tin7 108 (by rfl) rfl
set_option maxRecDepth 10000 in
theorem se_M_mayThrow : Cond.selects RX11 yX11_mayThrow yX11_mayThrow ∈ lw_g := tins 91 (by rfl) rfl
abbrev mu_M_driftOf : MU := (cX11_driftOf, RX11, 3, 0, "driftOf")
set_option maxRecDepth 10000 in
theorem mw_M_driftOf : MW yX11_driftOf cX11_driftOf 3 (Option.some Jvm.ClassFile.FieldType.int) 2 := ⟨tin7 125 (by rfl) rfl, ⟨nh_11.1, nh_11.2, pd_4⟩, ini_11, by decide, pn_11⟩
set_option maxRecDepth 10000 in
theorem im_M_driftOf : Cond.instanceMethod yX11_driftOf ∈ lw_g := tin7 124 (by rfl) rfl
set_option maxRecDepth 10000 in
theorem se_M_driftOf : Cond.selects RX11 yX11_driftOf yX11_driftOf ∈ lw_g := tins 94 (by rfl) rfl
abbrev mu_M_throwsAt : MU := (cX11_throwsAt, RX11, 7, 1, "throwsAt")
set_option maxRecDepth 10000 in
theorem mw_M_throwsAt : MW yX11_throwsAt cX11_throwsAt 7 (Option.some Jvm.ClassFile.FieldType.int) 3 := ⟨tin7 121 (by rfl) rfl, ⟨nh_11.1, nh_11.2, pd_10⟩, ini_11, by decide, pn_11⟩
set_option maxRecDepth 10000 in
theorem im_M_throwsAt : Cond.instanceMethod yX11_throwsAt ∈ lw_g := tin7 120 (by rfl) rfl
set_option maxRecDepth 10000 in
theorem se_M_throwsAt : Cond.selects RX11 yX11_throwsAt yX11_throwsAt ∈ lw_g := tins 93 (by rfl) rfl
abbrev mu_M_carries : MU := (cX11_carries, RX11, 8, 0, "carries")
set_option maxRecDepth 10000 in
theorem mw_M_carries : MW yX11_carries cX11_carries 8 (Option.none : Option Jvm.ClassFile.FieldType) 3 := ⟨tin7 141 (by rfl) rfl, ⟨nh_11.1, nh_11.2, pd_9⟩, ini_11, by decide, pn_11⟩
set_option maxRecDepth 10000 in
theorem im_M_carries : Cond.instanceMethod yX11_carries ∈ lw_g := tin7 140 (by rfl) rfl
set_option maxRecDepth 10000 in
theorem se_M_carries : Cond.selects RX11 yX11_carries yX11_carries ∈ lw_g := tins 97 (by rfl) rfl
abbrev mu_M_dayGoes : MU := (cX11_dayGoes, RX11, 7, 2, "dayGoes")
set_option maxRecDepth 10000 in
theorem mw_M_dayGoes : MW yX11_dayGoes cX11_dayGoes 7 (Option.none : Option Jvm.ClassFile.FieldType) 0 := ⟨tin7 137 (by rfl) rfl, ⟨nh_11.1, nh_11.2, pd_0⟩, ini_11, by decide, pn_11⟩
set_option maxRecDepth 10000 in
theorem im_M_dayGoes : Cond.instanceMethod yX11_dayGoes ∈ lw_g := tin7 136 (by rfl) rfl
set_option maxRecDepth 10000 in
theorem se_M_dayGoes : Cond.selects RX11 yX11_dayGoes yX11_dayGoes ∈ lw_g := tins 96 (by rfl) rfl
abbrev mu_M_ownerAt : MU := (cX11_ownerAt, RX11, 4, 0, "ownerAt")
set_option maxRecDepth 10000 in
theorem mw_M_ownerAt : MW yX11_ownerAt cX11_ownerAt 4 (Option.some Jvm.ClassFile.FieldType.int) 2 := ⟨tin7 89 (by rfl) rfl, ⟨nh_11.1, nh_11.2, pd_4⟩, ini_11, by decide, pn_11⟩
set_option maxRecDepth 10000 in
theorem im_M_ownerAt : Cond.instanceMethod yX11_ownerAt ∈ lw_g := tin7 88 (by rfl) rfl
set_option maxRecDepth 10000 in
theorem se_M_ownerAt : Cond.selects RX11 yX11_ownerAt yX11_ownerAt ∈ lw_g := tins 88 (by rfl) rfl
abbrev mu_M_cell : MU := (cX11_cell, RX11, 5, 2, "cell")
set_option maxRecDepth 10000 in
theorem mw_M_cell : MW yX11_cell cX11_cell 5 (Option.some Jvm.ClassFile.FieldType.int) 3 := ⟨tin7 54 (by rfl) rfl, ⟨nh_11.1, nh_11.2, pd_10⟩, ini_11, by decide, pn_11⟩
set_option maxRecDepth 10000 in
theorem im_M_cell : Cond.instanceMethod yX11_cell ∈ lw_g := tin7 52 (by rfl) rfl
set_option maxRecDepth 10000 in
theorem se_M_cell : Cond.selects RX11 yX11_cell yX11_cell ∈ lw_g := tin7 53 (by rfl) rfl
abbrev mu_M_stone : MU := (cX11_stone, RX11, 4, 2, "stone")
set_option maxRecDepth 10000 in
theorem mw_M_stone : MW yX11_stone cX11_stone 4 (Option.some Jvm.ClassFile.FieldType.int) 3 := ⟨tin7 93 (by rfl) rfl, ⟨nh_11.1, nh_11.2, pd_10⟩, ini_11, by decide, pn_11⟩
set_option maxRecDepth 10000 in
theorem im_M_stone : Cond.instanceMethod yX11_stone ∈ lw_g := tin7 91 (by rfl) rfl
set_option maxRecDepth 10000 in
theorem se_M_stone : Cond.selects RX11 yX11_stone yX11_stone ∈ lw_g := tin7 92 (by rfl) rfl
abbrev mu_M_leaver : MU := (cX11_leaver, RX11, 6, 2, "leaver")
set_option maxRecDepth 10000 in
theorem mw_M_leaver : MW yX11_leaver cX11_leaver 6 (Option.some Jvm.ClassFile.FieldType.int) 2 := ⟨tin7 97 (by rfl) rfl, ⟨nh_11.1, nh_11.2, pd_4⟩, ini_11, by decide, pn_11⟩
set_option maxRecDepth 10000 in
theorem im_M_leaver : Cond.instanceMethod yX11_leaver ∈ lw_g := tin7 95 (by rfl) rfl
set_option maxRecDepth 10000 in
theorem se_M_leaver : Cond.selects RX11 yX11_leaver yX11_leaver ∈ lw_g := tin7 96 (by rfl) rfl
abbrev mu_M_keeps : MU := (cX11_keeps, RX11, 2, 0, "keeps")
set_option maxRecDepth 10000 in
theorem mw_M_keeps : MW yX11_keeps cX11_keeps 2 (Option.none : Option Jvm.ClassFile.FieldType) 0 := ⟨tin7 129 (by rfl) rfl, ⟨nh_11.1, nh_11.2, pd_0⟩, ini_11, by decide, pn_11⟩
set_option maxRecDepth 10000 in
theorem im_M_keeps : Cond.instanceMethod yX11_keeps ∈ lw_g := tin7 128 (by rfl) rfl
set_option maxRecDepth 10000 in
theorem se_M_keeps : Cond.selects RX11 yX11_keeps yX11_keeps ∈ lw_g := tins 95 (by rfl) rfl
abbrev mu_M_canThrow : MU := (cX11_canThrow, RX11, 2, 2, "canThrow")
set_option maxRecDepth 10000 in
theorem mw_M_canThrow : MW yX11_canThrow cX11_canThrow 2 (Option.some Jvm.ClassFile.FieldType.boolean) 1 := ⟨tin7 117 (by rfl) rfl, ⟨nh_11.1, nh_11.2, pd_23⟩, ini_11, by decide, pn_11⟩
set_option maxRecDepth 10000 in
theorem im_M_canThrow : Cond.instanceMethod yX11_canThrow ∈ lw_g := tin7 116 (by rfl) rfl
set_option maxRecDepth 10000 in
theorem se_M_canThrow : Cond.selects RX11 yX11_canThrow yX11_canThrow ∈ lw_g := tins 92 (by rfl) rfl
abbrev mu_M_hurl : MU := (cX11_hurl, RX11, 5, 3, "hurl")
set_option maxRecDepth 10000 in
theorem mw_M_hurl : MW yX11_hurl cX11_hurl 5 (Option.some Jvm.ClassFile.FieldType.int) 3 := ⟨tin7 113 (by rfl) rfl, ⟨nh_11.1, nh_11.2, pd_10⟩, ini_11, by decide, pn_11⟩
set_option maxRecDepth 10000 in
theorem im_M_hurl : Cond.instanceMethod yX11_hurl ∈ lw_g := tin7 111 (by rfl) rfl
set_option maxRecDepth 10000 in
theorem se_M_hurl : Cond.selects RX11 yX11_hurl yX11_hurl ∈ lw_g := tin7 112 (by rfl) rfl
abbrev mu_M_days : MU := (cX11_days, RX11, 3, 3, "days")
set_option maxRecDepth 10000 in
theorem mw_M_days : MW yX11_days cX11_days 3 (Option.some Jvm.ClassFile.FieldType.int) 1 := ⟨tin7 133 (by rfl) rfl, ⟨nh_11.1, nh_11.2, pd_11⟩, ini_11, by decide, pn_11⟩
set_option maxRecDepth 10000 in
theorem im_M_days : Cond.instanceMethod yX11_days ∈ lw_g := tin7 131 (by rfl) rfl
set_option maxRecDepth 10000 in
theorem se_M_days : Cond.selects RX11 yX11_days yX11_days ∈ lw_g := tin7 132 (by rfl) rfl
abbrev mu_M_undo : MU := (cX11_undo, RX11, 2, 0, "undo")
set_option maxRecDepth 10000 in
theorem mw_M_undo : MW yX11_undo cX11_undo 2 (Option.some Jvm.ClassFile.FieldType.boolean) 0 := ⟨tin7 145 (by rfl) rfl, ⟨nh_11.1, nh_11.2, pd_41⟩, ini_11, by decide, pn_11⟩
set_option maxRecDepth 10000 in
theorem im_M_undo : Cond.instanceMethod yX11_undo ∈ lw_g := tin7 143 (by rfl) rfl
set_option maxRecDepth 10000 in
theorem se_M_undo : Cond.selects RX11 yX11_undo yX11_undo ∈ lw_g := tin7 144 (by rfl) rfl
abbrev mu_M_leaps : MU := (cX11_leaps, RX11, 5, 0, "leaps")
set_option maxRecDepth 10000 in
theorem mw_M_leaps : MW yX11_leaps cX11_leaps 5 (Option.some Jvm.ClassFile.FieldType.boolean) 2 := ⟨tin7 167 (by rfl) rfl, ⟨nh_11.1, nh_11.2, pd_6⟩, ini_11, by decide, pn_11⟩
set_option maxRecDepth 10000 in
theorem im_M_leaps : Cond.instanceMethod yX11_leaps ∈ lw_g := tin7 166 (by rfl) rfl
set_option maxRecDepth 10000 in
theorem se_M_leaps : Cond.selects RX11 yX11_leaps yX11_leaps ∈ lw_g := tins 101 (by rfl) rfl
abbrev mu_M_ends : MU := (cX11_ends, RX11, 3, 0, "ends")
set_option maxRecDepth 10000 in
theorem mw_M_ends : MW yX11_ends cX11_ends 3 (Option.some Jvm.ClassFile.FieldType.boolean) 1 := ⟨tin7 163 (by rfl) rfl, ⟨nh_11.1, nh_11.2, pd_23⟩, ini_11, by decide, pn_11⟩
set_option maxRecDepth 10000 in
theorem im_M_ends : Cond.instanceMethod yX11_ends ∈ lw_g := tin7 162 (by rfl) rfl
set_option maxRecDepth 10000 in
theorem se_M_ends : Cond.selects RX11 yX11_ends yX11_ends ∈ lw_g := tins 100 (by rfl) rfl
abbrev mu_M_fillsWays : MU := (cX11_fillsWays, RX11, 6, 1, "fillsWays")
set_option maxRecDepth 10000 in
theorem mw_M_fillsWays : MW yX11_fillsWays cX11_fillsWays 6 (Option.none : Option Jvm.ClassFile.FieldType) 1 := ⟨tin7 158 (by rfl) rfl, ⟨nh_11.1, nh_11.2, pd_21⟩, ini_11, by decide, pn_11⟩
set_option maxRecDepth 10000 in
theorem im_M_fillsWays : Cond.instanceMethod yX11_fillsWays ∈ lw_g := tin7 157 (by rfl) rfl
set_option maxRecDepth 10000 in
theorem se_M_fillsWays : Cond.selects RX11 yX11_fillsWays yX11_fillsWays ∈ lw_g := tins 99 (by rfl) rfl
abbrev mu_M_fillsLine : MU := (cX11_fillsLine, RX11, 4, 1, "fillsLine")
set_option maxRecDepth 10000 in
theorem mw_M_fillsLine : MW yX11_fillsLine cX11_fillsLine 4 (Option.none : Option Jvm.ClassFile.FieldType) 1 := ⟨tin7 171 (by rfl) rfl, ⟨nh_11.1, nh_11.2, pd_21⟩, ini_11, by decide, pn_11⟩
set_option maxRecDepth 10000 in
theorem im_M_fillsLine : Cond.instanceMethod yX11_fillsLine ∈ lw_g := tin7 170 (by rfl) rfl
set_option maxRecDepth 10000 in
theorem se_M_fillsLine : Cond.selects RX11 yX11_fillsLine yX11_fillsLine ∈ lw_g := tins 102 (by rfl) rfl
abbrev mu_M_findsOver : MU := (cX11_findsOver, RX11, 3, 2, "findsOver")
set_option maxRecDepth 10000 in
theorem mw_M_findsOver : MW yX11_findsOver cX11_findsOver 3 (Option.some Jvm.ClassFile.FieldType.boolean) 1 := ⟨tin7 153 (by rfl) rfl, ⟨nh_11.1, nh_11.2, pd_23⟩, ini_11, by decide, pn_11⟩
set_option maxRecDepth 10000 in
theorem im_M_findsOver : Cond.instanceMethod yX11_findsOver ∈ lw_g := tin7 152 (by rfl) rfl
set_option maxRecDepth 10000 in
theorem se_M_findsOver : Cond.selects RX11 yX11_findsOver yX11_findsOver ∈ lw_g := tins 98 (by rfl) rfl
abbrev mu_M_over : MU := (cX11_over, RX11, 3, 3, "over")
set_option maxRecDepth 10000 in
theorem mw_M_over : MW yX11_over cX11_over 3 (Option.some Jvm.ClassFile.FieldType.int) 2 := ⟨tin7 149 (by rfl) rfl, ⟨nh_11.1, nh_11.2, pd_4⟩, ini_11, by decide, pn_11⟩
set_option maxRecDepth 10000 in
theorem im_M_over : Cond.instanceMethod yX11_over ∈ lw_g := tin7 147 (by rfl) rfl
set_option maxRecDepth 10000 in
theorem se_M_over : Cond.selects RX11 yX11_over yX11_over ∈ lw_g := tin7 148 (by rfl) rfl
abbrev mu_M_overAt : MU := (cX11_overAt, RX11, 3, 3, "overAt")
set_option maxRecDepth 10000 in
theorem mw_M_overAt : MW yX11_overAt cX11_overAt 3 (Option.some Jvm.ClassFile.FieldType.int) 2 := ⟨tin7 175 (by rfl) rfl, ⟨nh_11.1, nh_11.2, pd_4⟩, ini_11, by decide, pn_11⟩
set_option maxRecDepth 10000 in
theorem im_M_overAt : Cond.instanceMethod yX11_overAt ∈ lw_g := tin7 173 (by rfl) rfl
set_option maxRecDepth 10000 in
theorem se_M_overAt : Cond.selects RX11 yX11_overAt yX11_overAt ∈ lw_g := tin7 174 (by rfl) rfl
abbrev mu_M_findsLack : MU := (cX11_findsLack, RX11, 2, 2, "findsLack")
set_option maxRecDepth 10000 in
theorem mw_M_findsLack : MW yX11_findsLack cX11_findsLack 2 (Option.none : Option Jvm.ClassFile.FieldType) 0 := ⟨tin7 183 (by rfl) rfl, ⟨nh_11.1, nh_11.2, pd_0⟩, ini_11, by decide, pn_11⟩
set_option maxRecDepth 10000 in
theorem im_M_findsLack : Cond.instanceMethod yX11_findsLack ∈ lw_g := tin7 182 (by rfl) rfl
set_option maxRecDepth 10000 in
theorem se_M_findsLack : Cond.selects RX11 yX11_findsLack yX11_findsLack ∈ lw_g := tins 103 (by rfl) rfl
abbrev mu_M_lack : MU := (cX11_lack, RX11, 2, 3, "lack")
set_option maxRecDepth 10000 in
theorem mw_M_lack : MW yX11_lack cX11_lack 2 (Option.some Jvm.ClassFile.FieldType.int) 1 := ⟨tin7 179 (by rfl) rfl, ⟨nh_11.1, nh_11.2, pd_11⟩, ini_11, by decide, pn_11⟩
set_option maxRecDepth 10000 in
theorem im_M_lack : Cond.instanceMethod yX11_lack ∈ lw_g := tin7 177 (by rfl) rfl
set_option maxRecDepth 10000 in
theorem se_M_lack : Cond.selects RX11 yX11_lack yX11_lack ∈ lw_g := tin7 178 (by rfl) rfl
abbrev mu_M_lackAt : MU := (cX11_lackAt, RX11, 2, 3, "lackAt")
set_option maxRecDepth 10000 in
theorem mw_M_lackAt : MW yX11_lackAt cX11_lackAt 2 (Option.some Jvm.ClassFile.FieldType.int) 1 := ⟨tin7 187 (by rfl) rfl, ⟨nh_11.1, nh_11.2, pd_11⟩, ini_11, by decide, pn_11⟩
set_option maxRecDepth 10000 in
theorem im_M_lackAt : Cond.instanceMethod yX11_lackAt ∈ lw_g := tin7 185 (by rfl) rfl
set_option maxRecDepth 10000 in
theorem se_M_lackAt : Cond.selects RX11 yX11_lackAt yX11_lackAt ∈ lw_g := tin7 186 (by rfl) rfl
abbrev mu_M_leastSize : MU := (cX11_leastSize, RX11, 3, 0, "leastSize")
set_option maxRecDepth 10000 in
theorem mw_M_leastSize : MW yX11_leastSize cX11_leastSize 3 (Option.some Jvm.ClassFile.FieldType.int) 1 := ⟨tin7 203 (by rfl) rfl, ⟨nh_11.1, nh_11.2, pd_11⟩, ini_11, by decide, pn_11⟩
set_option maxRecDepth 10000 in
theorem im_M_leastSize : Cond.instanceMethod yX11_leastSize ∈ lw_g := tin7 202 (by rfl) rfl
set_option maxRecDepth 10000 in
theorem se_M_leastSize : Cond.selects RX11 yX11_leastSize yX11_leastSize ∈ lw_g := tins 106 (by rfl) rfl
abbrev mu_M_fillsWants : MU := (cX11_fillsWants, RX11, 3, 3, "fillsWants")
set_option maxRecDepth 10000 in
theorem mw_M_fillsWants : MW yX11_fillsWants cX11_fillsWants 3 (Option.none : Option Jvm.ClassFile.FieldType) 0 := ⟨tin7 199 (by rfl) rfl, ⟨nh_11.1, nh_11.2, pd_0⟩, ini_11, by decide, pn_11⟩
set_option maxRecDepth 10000 in
theorem im_M_fillsWants : Cond.instanceMethod yX11_fillsWants ∈ lw_g := tin7 198 (by rfl) rfl
set_option maxRecDepth 10000 in
theorem se_M_fillsWants : Cond.selects RX11 yX11_fillsWants yX11_fillsWants ∈ lw_g := tins 105 (by rfl) rfl
abbrev mu_M_isFit : MU := (cX11_isFit, RX11, 5, 0, "isFit")
set_option maxRecDepth 10000 in
theorem mw_M_isFit : MW yX11_isFit cX11_isFit 5 (Option.some Jvm.ClassFile.FieldType.boolean) 1 := ⟨tin7 211 (by rfl) rfl, ⟨nh_11.1, nh_11.2, pd_23⟩, ini_11, by decide, pn_11⟩
set_option maxRecDepth 10000 in
theorem im_M_isFit : Cond.instanceMethod yX11_isFit ∈ lw_g := tin7 210 (by rfl) rfl
set_option maxRecDepth 10000 in
theorem se_M_isFit : Cond.selects RX11 yX11_isFit yX11_isFit ∈ lw_g := tins 108 (by rfl) rfl
abbrev mu_M_leastGrief : MU := (cX11_leastGrief, RX11, 6, 1, "leastGrief")
set_option maxRecDepth 10000 in
theorem mw_M_leastGrief : MW yX11_leastGrief cX11_leastGrief 6 (Option.some Jvm.ClassFile.FieldType.int) 1 := ⟨tin7 207 (by rfl) rfl, ⟨nh_11.1, nh_11.2, pd_11⟩, ini_11, by decide, pn_11⟩
set_option maxRecDepth 10000 in
theorem im_M_leastGrief : Cond.instanceMethod yX11_leastGrief ∈ lw_g := tin7 206 (by rfl) rfl
set_option maxRecDepth 10000 in
theorem se_M_leastGrief : Cond.selects RX11 yX11_leastGrief yX11_leastGrief ∈ lw_g := tins 107 (by rfl) rfl
abbrev mu_M_findsGivers : MU := (cX11_findsGivers, RX11, 5, 4, "findsGivers")
set_option maxRecDepth 10000 in
theorem mw_M_findsGivers : MW yX11_findsGivers cX11_findsGivers 5 (Option.some Jvm.ClassFile.FieldType.boolean) 0 := ⟨tin7 195 (by rfl) rfl, ⟨nh_11.1, nh_11.2, pd_41⟩, ini_11, by decide, pn_11⟩
set_option maxRecDepth 10000 in
theorem im_M_findsGivers : Cond.instanceMethod yX11_findsGivers ∈ lw_g := tin7 194 (by rfl) rfl
set_option maxRecDepth 10000 in
theorem se_M_findsGivers : Cond.selects RX11 yX11_findsGivers yX11_findsGivers ∈ lw_g := tins 104 (by rfl) rfl
abbrev mu_M_grief : MU := (cX11_grief, RX11, 1, 5, "grief")
set_option maxRecDepth 10000 in
theorem mw_M_grief : MW yX11_grief cX11_grief 1 (Option.some Jvm.ClassFile.FieldType.int) 0 := ⟨tin7 191 (by rfl) rfl, ⟨nh_11.1, nh_11.2, pd_16⟩, ini_11, by decide, pn_11⟩
set_option maxRecDepth 10000 in
theorem im_M_grief : Cond.instanceMethod yX11_grief ∈ lw_g := tin7 189 (by rfl) rfl
set_option maxRecDepth 10000 in
theorem se_M_grief : Cond.selects RX11 yX11_grief yX11_grief ∈ lw_g := tin7 190 (by rfl) rfl
abbrev mu_M_gives : MU := (cX11_gives, RX11, 2, 5, "gives")
set_option maxRecDepth 10000 in
theorem mw_M_gives : MW yX11_gives cX11_gives 2 (Option.some Jvm.ClassFile.FieldType.int) 1 := ⟨tin7 215 (by rfl) rfl, ⟨nh_11.1, nh_11.2, pd_11⟩, ini_11, by decide, pn_11⟩
set_option maxRecDepth 10000 in
theorem im_M_gives : Cond.instanceMethod yX11_gives ∈ lw_g := tin7 213 (by rfl) rfl
set_option maxRecDepth 10000 in
theorem se_M_gives : Cond.selects RX11 yX11_gives yX11_gives ∈ lw_g := tin7 214 (by rfl) rfl
abbrev mu_M_isOver : MU := (cX11_isOver, RX11, 2, 2, "isOver")
set_option maxRecDepth 10000 in
theorem mw_M_isOver : MW yX11_isOver cX11_isOver 2 (Option.some Jvm.ClassFile.FieldType.boolean) 0 := ⟨tin7 227 (by rfl) rfl, ⟨nh_11.1, nh_11.2, pd_41⟩, ini_11, by decide, pn_11⟩
set_option maxRecDepth 10000 in
theorem im_M_isOver : Cond.instanceMethod yX11_isOver ∈ lw_g := tin7 226 (by rfl) rfl
set_option maxRecDepth 10000 in
theorem se_M_isOver : Cond.selects RX11 yX11_isOver yX11_isOver ∈ lw_g := tins 110 (by rfl) rfl
abbrev mu_M_isOverBy : MU := (cX11_isOverBy, RX11, 3, 3, "isOverBy")
set_option maxRecDepth 10000 in
theorem mw_M_isOverBy : MW yX11_isOverBy cX11_isOverBy 3 (Option.some Jvm.ClassFile.FieldType.boolean) 1 := ⟨tin7 223 (by rfl) rfl, ⟨nh_11.1, nh_11.2, pd_23⟩, ini_11, by decide, pn_11⟩
set_option maxRecDepth 10000 in
theorem im_M_isOverBy : Cond.instanceMethod yX11_isOverBy ∈ lw_g := tin7 222 (by rfl) rfl
set_option maxRecDepth 10000 in
theorem se_M_isOverBy : Cond.selects RX11 yX11_isOverBy yX11_isOverBy ∈ lw_g := tins 109 (by rfl) rfl
abbrev mu_M_needed : MU := (cX11_needed, RX11, 3, 4, "needed")
set_option maxRecDepth 10000 in
theorem mw_M_needed : MW yX11_needed cX11_needed 3 (Option.some Jvm.ClassFile.FieldType.int) 0 := ⟨tin7 219 (by rfl) rfl, ⟨nh_11.1, nh_11.2, pd_16⟩, ini_11, by decide, pn_11⟩
set_option maxRecDepth 10000 in
theorem im_M_needed : Cond.instanceMethod yX11_needed ∈ lw_g := tin7 217 (by rfl) rfl
set_option maxRecDepth 10000 in
theorem se_M_needed : Cond.selects RX11 yX11_needed yX11_needed ∈ lw_g := tin7 218 (by rfl) rfl
abbrev mu_M_alone : MU := (cX11_alone, RX11, 3, 4, "alone")
set_option maxRecDepth 10000 in
theorem mw_M_alone : MW yX11_alone cX11_alone 3 (Option.some Jvm.ClassFile.FieldType.int) 0 := ⟨tin7 231 (by rfl) rfl, ⟨nh_11.1, nh_11.2, pd_16⟩, ini_11, by decide, pn_11⟩
set_option maxRecDepth 10000 in
theorem im_M_alone : Cond.instanceMethod yX11_alone ∈ lw_g := tin7 229 (by rfl) rfl
set_option maxRecDepth 10000 in
theorem se_M_alone : Cond.selects RX11 yX11_alone yX11_alone ∈ lw_g := tin7 230 (by rfl) rfl
abbrev mu_M_breaks : MU := (cX11_breaks, RX11, 2, 4, "breaks")
set_option maxRecDepth 10000 in
theorem mw_M_breaks : MW yX11_breaks cX11_breaks 2 (Option.some Jvm.ClassFile.FieldType.int) 0 := ⟨tin7 235 (by rfl) rfl, ⟨nh_11.1, nh_11.2, pd_16⟩, ini_11, by decide, pn_11⟩
set_option maxRecDepth 10000 in
theorem im_M_breaks : Cond.instanceMethod yX11_breaks ∈ lw_g := tin7 233 (by rfl) rfl
set_option maxRecDepth 10000 in
theorem se_M_breaks : Cond.selects RX11 yX11_breaks yX11_breaks ∈ lw_g := tin7 234 (by rfl) rfl
abbrev mu_M_finds : MU := (cX11_finds, RX11, 3, 0, "finds")
set_option maxRecDepth 10000 in
theorem mw_M_finds : MW yX11_finds cX11_finds 3 (Option.none : Option Jvm.ClassFile.FieldType) 2 := ⟨tin8 7 (by rfl) rfl, ⟨nh_11.1, nh_11.2, pd_8⟩, ini_11, by decide, pn_11⟩
set_option maxRecDepth 10000 in
theorem im_M_finds : Cond.instanceMethod yX11_finds ∈ lw_g := tin8 6 (by rfl) rfl
set_option maxRecDepth 10000 in
theorem se_M_finds : Cond.selects RX11 yX11_finds yX11_finds ∈ lw_g := tins 112 (by rfl) rfl
abbrev mu_M_findsIn : MU := (cX11_findsIn, RX11, 3, 1, "findsIn")
set_option maxRecDepth 10000 in
theorem mw_M_findsIn : MW yX11_findsIn cX11_findsIn 3 (Option.none : Option Jvm.ClassFile.FieldType) 1 := ⟨tin8 11 (by rfl) rfl, ⟨nh_11.1, nh_11.2, pd_21⟩, ini_11, by decide, pn_11⟩
set_option maxRecDepth 10000 in
theorem im_M_findsIn : Cond.instanceMethod yX11_findsIn ∈ lw_g := tin8 10 (by rfl) rfl
set_option maxRecDepth 10000 in
theorem se_M_findsIn : Cond.selects RX11 yX11_findsIn yX11_findsIn ∈ lw_g := tins 113 (by rfl) rfl
abbrev mu_M_findsOut : MU := (cX11_findsOut, RX11, 3, 1, "findsOut")
set_option maxRecDepth 10000 in
theorem mw_M_findsOut : MW yX11_findsOut cX11_findsOut 3 (Option.none : Option Jvm.ClassFile.FieldType) 1 := ⟨tin8 19 (by rfl) rfl, ⟨nh_11.1, nh_11.2, pd_21⟩, ini_11, by decide, pn_11⟩
set_option maxRecDepth 10000 in
theorem im_M_findsOut : Cond.instanceMethod yX11_findsOut ∈ lw_g := tin8 18 (by rfl) rfl
set_option maxRecDepth 10000 in
theorem se_M_findsOut : Cond.selects RX11 yX11_findsOut yX11_findsOut ∈ lw_g := tins 115 (by rfl) rfl
abbrev mu_M_turns : MU := (cX11_turns, RX11, 4, 0, "turns")
set_option maxRecDepth 10000 in
theorem mw_M_turns : MW yX11_turns cX11_turns 4 (Option.none : Option Jvm.ClassFile.FieldType) 1 := ⟨tin8 15 (by rfl) rfl, ⟨nh_11.1, nh_11.2, pd_21⟩, ini_11, by decide, pn_11⟩
set_option maxRecDepth 10000 in
theorem im_M_turns : Cond.instanceMethod yX11_turns ∈ lw_g := tin8 14 (by rfl) rfl
set_option maxRecDepth 10000 in
theorem se_M_turns : Cond.selects RX11 yX11_turns yX11_turns ∈ lw_g := tins 114 (by rfl) rfl
abbrev mu_M_oneMore : MU := (cX11_oneMore, RX11, 3, 2, "oneMore")
set_option maxRecDepth 10000 in
theorem mw_M_oneMore : MW yX11_oneMore cX11_oneMore 3 (Option.some Jvm.ClassFile.FieldType.boolean) 0 := ⟨tin8 3 (by rfl) rfl, ⟨nh_11.1, nh_11.2, pd_41⟩, ini_11, by decide, pn_11⟩
set_option maxRecDepth 10000 in
theorem im_M_oneMore : Cond.instanceMethod yX11_oneMore ∈ lw_g := tin8 2 (by rfl) rfl
set_option maxRecDepth 10000 in
theorem se_M_oneMore : Cond.selects RX11 yX11_oneMore yX11_oneMore ∈ lw_g := tins 111 (by rfl) rfl
abbrev mu_M_fords : MU := (cX11_fords, RX11, 2, 4, "fords")
set_option maxRecDepth 10000 in
theorem mw_M_fords : MW yX11_fords cX11_fords 2 (Option.some Jvm.ClassFile.FieldType.int) 0 := ⟨tin7 239 (by rfl) rfl, ⟨nh_11.1, nh_11.2, pd_16⟩, ini_11, by decide, pn_11⟩
set_option maxRecDepth 10000 in
theorem im_M_fords : Cond.instanceMethod yX11_fords ∈ lw_g := tin7 237 (by rfl) rfl
set_option maxRecDepth 10000 in
theorem se_M_fords : Cond.selects RX11 yX11_fords yX11_fords ∈ lw_g := tin7 238 (by rfl) rfl
abbrev mu_M_tell_ : MU := (cX11_tell_, RX11, 4, 2, "tell")
set_option maxRecDepth 10000 in
theorem mw_M_tell_ : MW yX11_tell_ cX11_tell_ 4 (Option.some Jvm.ClassFile.FieldType.int) 3 := ⟨tin8 23 (by rfl) rfl, ⟨nh_11.1, nh_11.2, pd_10⟩, ini_11, by decide, pn_11⟩
set_option maxRecDepth 10000 in
theorem im_M_tell_ : Cond.instanceMethod yX11_tell_ ∈ lw_g := tin8 21 (by rfl) rfl
set_option maxRecDepth 10000 in
theorem se_M_tell_ : Cond.selects RX11 yX11_tell_ yX11_tell_ ∈ lw_g := tin8 22 (by rfl) rfl
abbrev mu_M_forget : MU := (cX11_forget, RX11, 2, 0, "forget")
set_option maxRecDepth 10000 in
theorem mw_M_forget : MW yX11_forget cX11_forget 2 (Option.some Jvm.ClassFile.FieldType.int) 0 := ⟨tin8 27 (by rfl) rfl, ⟨nh_11.1, nh_11.2, pd_16⟩, ini_11, by decide, pn_11⟩
set_option maxRecDepth 10000 in
theorem im_M_forget : Cond.instanceMethod yX11_forget ∈ lw_g := tin8 25 (by rfl) rfl
set_option maxRecDepth 10000 in
theorem se_M_forget : Cond.selects RX11 yX11_forget yX11_forget ∈ lw_g := tin8 26 (by rfl) rfl
abbrev mu_M_isSo : MU := (cX11_isSo, RX11, 7, 3, "isSo")
set_option maxRecDepth 10000 in
theorem mw_M_isSo : MW yX11_isSo cX11_isSo 7 (Option.some Jvm.ClassFile.FieldType.boolean) 5 := ⟨tin8 35 (by rfl) rfl, ⟨nh_11.1, nh_11.2, pd_45⟩, ini_11, by decide, pn_11⟩
set_option maxRecDepth 10000 in
theorem im_M_isSo : Cond.instanceMethod yX11_isSo ∈ lw_g := tin8 34 (by rfl) rfl
set_option maxRecDepth 10000 in
theorem se_M_isSo : Cond.selects RX11 yX11_isSo yX11_isSo ∈ lw_g := tins 116 (by rfl) rfl
abbrev mu_M_fits : MU := (cX11_fits, RX11, 8, 4, "fits")
set_option maxRecDepth 10000 in
theorem mw_M_fits : MW yX11_fits cX11_fits 8 (Option.some Jvm.ClassFile.FieldType.int) 4 := ⟨tin8 31 (by rfl) rfl, ⟨nh_11.1, nh_11.2, pd_46⟩, ini_11, by decide, pn_11⟩
set_option maxRecDepth 10000 in
theorem im_M_fits : Cond.instanceMethod yX11_fits ∈ lw_g := tin8 29 (by rfl) rfl
set_option maxRecDepth 10000 in
theorem se_M_fits : Cond.selects RX11 yX11_fits yX11_fits ∈ lw_g := tin8 30 (by rfl) rfl
abbrev mu_M_hold : MU := (cX11_hold, RX11, 3, 1, "hold")
set_option maxRecDepth 10000 in
theorem mw_M_hold : MW yX11_hold cX11_hold 3 (Option.some Jvm.ClassFile.FieldType.boolean) 1 := ⟨tin8 39 (by rfl) rfl, ⟨nh_11.1, nh_11.2, pd_23⟩, ini_11, by decide, pn_11⟩
set_option maxRecDepth 10000 in
theorem im_M_hold : Cond.instanceMethod yX11_hold ∈ lw_g := tin8 37 (by rfl) rfl
set_option maxRecDepth 10000 in
theorem se_M_hold : Cond.selects RX11 yX11_hold yX11_hold ∈ lw_g := tin8 38 (by rfl) rfl
abbrev mu_M_restore : MU := (cX11_restore, RX11, 3, 1, "restore")
set_option maxRecDepth 10000 in
theorem mw_M_restore : MW yX11_restore cX11_restore 3 (Option.some Jvm.ClassFile.FieldType.boolean) 1 := ⟨tin8 43 (by rfl) rfl, ⟨nh_11.1, nh_11.2, pd_23⟩, ini_11, by decide, pn_11⟩
set_option maxRecDepth 10000 in
theorem im_M_restore : Cond.instanceMethod yX11_restore ∈ lw_g := tin8 41 (by rfl) rfl
set_option maxRecDepth 10000 in
theorem se_M_restore : Cond.selects RX11 yX11_restore yX11_restore ∈ lw_g := tin8 42 (by rfl) rfl
abbrev mu_M_count : MU := (cX11_count, RX11, 6, 2, "count")
set_option maxRecDepth 10000 in
theorem mw_M_count : MW yX11_count cX11_count 6 (Option.some Jvm.ClassFile.FieldType.int) 1 := ⟨tin8 47 (by rfl) rfl, ⟨nh_11.1, nh_11.2, pd_11⟩, ini_11, by decide, pn_11⟩
set_option maxRecDepth 10000 in
theorem im_M_count : Cond.instanceMethod yX11_count ∈ lw_g := tin8 45 (by rfl) rfl
set_option maxRecDepth 10000 in
theorem se_M_count : Cond.selects RX11 yX11_count yX11_count ∈ lw_g := tin8 46 (by rfl) rfl
set_option maxRecDepth 10000 in
theorem math_max_s : Cond.static Lib.Math.max.name ∈ lw_g := tin3 66 (by rfl) rfl
set_option maxRecDepth 10000 in
theorem math_max_c : Cond.code Lib.Math.max.name Lib.Math.max.code 2 (some .int) ∈ lw_g := tin3 67 (by rfl) rfl
set_option maxRecDepth 10000 in
theorem math_min_s : Cond.static Lib.Math.min.name ∈ lw_g := tin3 69 (by rfl) rfl
set_option maxRecDepth 10000 in
theorem math_min_c : Cond.code Lib.Math.min.name Lib.Math.min.code 2 (some .int) ∈ lw_g := tin3 70 (by rfl) rfl
set_option maxRecDepth 10000 in
theorem math_abs_s : Cond.static Lib.Math.abs.name ∈ lw_g := tin4 191 (by rfl) rfl
set_option maxRecDepth 10000 in
theorem math_abs_c : Cond.code Lib.Math.abs.name Lib.Math.abs.code 1 (some .int) ∈ lw_g := tin4 192 (by rfl) rfl
set_option maxRecDepth 10000 in
theorem math_i : Cond.initialized "java/lang/Math" ∈ lw_g := tin1 18 (by rfl) rfl
set_option maxRecDepth 10000 in
theorem ac_n : Cond.native arraycopyName ∈ lw_g := tin4 66 (by rfl) rfl
set_option maxRecDepth 10000 in
theorem ac_s : Cond.static arraycopyName ∈ lw_g := tin4 65 (by rfl) rfl
set_option maxRecDepth 10000 in
theorem ac_i : Cond.initialized "java/lang/System" ∈ lw_g := tin1 20 (by rfl) rfl
set_option maxRecDepth 10000 in
theorem mw_fill : MW yJ7_fill_53178 cJ7_fill_53178 4 none 2 := ⟨tin2 128 (by rfl) rfl, ⟨by decide +kernel, by decide +kernel, by decide +kernel⟩, tin1 12 (by rfl) rfl, by decide, by decide +kernel⟩
set_option maxRecDepth 10000 in
theorem st_fill : Cond.static yJ7_fill_53178 ∈ lw_g := tin2 127 (by rfl) rfl
set_option maxRecDepth 10000 in
theorem fl_B_30 : Cond.fieldLink RX0 30 (TX0 0).1 (TX0 0).2.1 (TX0 0).2.2.1 ∈ lw_g := tin1 213 (by rfl) rfl
set_option maxRecDepth 10000 in
theorem fl_B_9 : Cond.fieldLink RX0 9 (TX0 1).1 (TX0 1).2.1 (TX0 1).2.2.1 ∈ lw_g := tin1 215 (by rfl) rfl
set_option maxRecDepth 10000 in
theorem fl_B_15 : Cond.fieldLink RX0 15 (TX0 2).1 (TX0 2).2.1 (TX0 2).2.2.1 ∈ lw_g := tin1 217 (by rfl) rfl
set_option maxRecDepth 10000 in
theorem fl_B_18 : Cond.fieldLink RX0 18 (TX0 3).1 (TX0 3).2.1 (TX0 3).2.2.1 ∈ lw_g := tin1 218 (by rfl) rfl
set_option maxRecDepth 10000 in
theorem fl_B_21 : Cond.fieldLink RX0 21 (TX0 4).1 (TX0 4).2.1 (TX0 4).2.2.1 ∈ lw_g := tin1 219 (by rfl) rfl
set_option maxRecDepth 10000 in
theorem fl_B_24 : Cond.fieldLink RX0 24 (TX0 5).1 (TX0 5).2.1 (TX0 5).2.2.1 ∈ lw_g := tin1 220 (by rfl) rfl
set_option maxRecDepth 10000 in
theorem fl_B_27 : Cond.fieldLink RX0 27 (TX0 6).1 (TX0 6).2.1 (TX0 6).2.2.1 ∈ lw_g := tin1 222 (by rfl) rfl
set_option maxRecDepth 10000 in
theorem flN_B_46 : Cond.fieldLinkNest RX0 46 (TX6 8).1 (TX6 8).2.1 (TX6 8).2.2.1 "FarewellStones" ∈ lw_n := nin1 155 (by rfl) rfl
set_option maxRecDepth 10000 in
theorem flN_B_55 : Cond.fieldLinkNest RX0 55 (TX6 6).1 (TX6 6).2.1 (TX6 6).2.2.1 "FarewellStones" ∈ lw_n := nin1 149 (by rfl) rfl
set_option maxRecDepth 10000 in
theorem fl_R_21 : Cond.fieldLink RX6 21 (TX6 7).1 (TX6 7).2.1 (TX6 7).2.2.1 ∈ lw_g := tin1 151 (by rfl) rfl
set_option maxRecDepth 10000 in
theorem fl_R_15 : Cond.fieldLink RX6 15 (TX6 4).1 (TX6 4).2.1 (TX6 4).2.2.1 ∈ lw_g := tin1 142 (by rfl) rfl
set_option maxRecDepth 10000 in
theorem fl_R_46 : Cond.fieldLink RX6 46 (TX6 0).1 (TX6 0).2.1 (TX6 0).2.2.1 ∈ lw_g := tin1 128 (by rfl) rfl
set_option maxRecDepth 10000 in
theorem fl_R_50 : Cond.fieldLink RX6 50 (TX6 1).1 (TX6 1).2.1 (TX6 1).2.2.1 ∈ lw_g := tin1 132 (by rfl) rfl
set_option maxRecDepth 10000 in
theorem fl_W_21 : Cond.fieldLink RX3 21 (TX3 3).1 (TX3 3).2.1 (TX3 3).2.2.1 ∈ lw_g := tin1 115 (by rfl) rfl
set_option maxRecDepth 10000 in
theorem fl_W_24 : Cond.fieldLink RX3 24 (TX3 4).1 (TX3 4).2.1 (TX3 4).2.2.1 ∈ lw_g := tin1 116 (by rfl) rfl
set_option maxRecDepth 10000 in
theorem fl_W_9 : Cond.fieldLink RX3 9 (TX3 0).1 (TX3 0).2.1 (TX3 0).2.2.1 ∈ lw_g := tin1 112 (by rfl) rfl
set_option maxRecDepth 10000 in
theorem fl_W_15 : Cond.fieldLink RX3 15 (TX3 1).1 (TX3 1).2.1 (TX3 1).2.2.1 ∈ lw_g := tin1 113 (by rfl) rfl
set_option maxRecDepth 10000 in
theorem fl_W_18 : Cond.fieldLink RX3 18 (TX3 2).1 (TX3 2).2.1 (TX3 2).2.2.1 ∈ lw_g := tin1 114 (by rfl) rfl
set_option maxRecDepth 10000 in
theorem flN_B_90 : Cond.fieldLinkNest RX0 90 (TX6 0).1 (TX6 0).2.1 (TX6 0).2.2.1 "FarewellStones" ∈ lw_n := nin1 130 (by rfl) rfl
set_option maxRecDepth 10000 in
theorem flN_B_96 : Cond.fieldLinkNest RX0 96 (TX6 13).1 (TX6 13).2.1 (TX6 13).2.2.1 "FarewellStones" ∈ lw_n := nin1 172 (by rfl) rfl
set_option maxRecDepth 10000 in
theorem flN_B_100 : Cond.fieldLinkNest RX0 100 (TX6 3).1 (TX6 3).2.1 (TX6 3).2.2.1 "FarewellStones" ∈ lw_n := nin1 141 (by rfl) rfl
set_option maxRecDepth 10000 in
theorem flN_B_77 : Cond.fieldLinkNest RX0 77 (TX6 10).1 (TX6 10).2.1 (TX6 10).2.2.1 "FarewellStones" ∈ lw_n := nin1 161 (by rfl) rfl
set_option maxRecDepth 10000 in
theorem flN_B_80 : Cond.fieldLinkNest RX0 80 (TX6 11).1 (TX6 11).2.1 (TX6 11).2.2.1 "FarewellStones" ∈ lw_n := nin1 165 (by rfl) rfl
set_option maxRecDepth 10000 in
theorem flN_B_83 : Cond.fieldLinkNest RX0 83 (TX6 12).1 (TX6 12).2.1 (TX6 12).2.2.1 "FarewellStones" ∈ lw_n := nin1 168 (by rfl) rfl
set_option maxRecDepth 10000 in
theorem flN_B_125 : Cond.fieldLinkNest RX0 125 (TX6 14).1 (TX6 14).2.1 (TX6 14).2.2.1 "FarewellStones" ∈ lw_n := nin1 175 (by rfl) rfl
set_option maxRecDepth 10000 in
theorem fl_F_9 : Cond.fieldLink RX1 9 (TX1 0).1 (TX1 0).2.1 (TX1 0).2.2.1 ∈ lw_g := tin2 57 (by rfl) rfl
set_option maxRecDepth 10000 in
theorem fl_F_15 : Cond.fieldLink RX1 15 (TX1 1).1 (TX1 1).2.1 (TX1 1).2.2.1 ∈ lw_g := tin2 58 (by rfl) rfl
set_option maxRecDepth 10000 in
theorem fl_F_18 : Cond.fieldLink RX1 18 (TX1 2).1 (TX1 2).2.1 (TX1 2).2.2.1 ∈ lw_g := tin2 59 (by rfl) rfl
set_option maxRecDepth 10000 in
theorem fl_F_21 : Cond.fieldLink RX1 21 (TX1 3).1 (TX1 3).2.1 (TX1 3).2.2.1 ∈ lw_g := tin2 60 (by rfl) rfl
set_option maxRecDepth 10000 in
theorem fl_F_38 : Cond.fieldLink RX1 38 (TX1 4).1 (TX1 4).2.1 (TX1 4).2.2.1 ∈ lw_g := tin2 61 (by rfl) rfl
set_option maxRecDepth 10000 in
theorem fl_R_53 : Cond.fieldLink RX6 53 (TX6 2).1 (TX6 2).2.1 (TX6 2).2.2.1 ∈ lw_g := tin1 135 (by rfl) rfl
set_option maxRecDepth 10000 in
theorem fl_V_20 : Cond.fieldLink RX2 20 (TX2 3).1 (TX2 3).2.1 (TX2 3).2.2.1 ∈ lw_g := tin2 84 (by rfl) rfl
set_option maxRecDepth 10000 in
theorem fl_V_26 : Cond.fieldLink RX2 26 (TX2 6).1 (TX2 6).2.1 (TX2 6).2.2.1 ∈ lw_g := tin2 87 (by rfl) rfl
set_option maxRecDepth 10000 in
theorem fl_V_17 : Cond.fieldLink RX2 17 (TX2 2).1 (TX2 2).2.1 (TX2 2).2.2.1 ∈ lw_g := tin2 83 (by rfl) rfl
set_option maxRecDepth 10000 in
theorem fl_V_32 : Cond.fieldLink RX2 32 (TX2 8).1 (TX2 8).2.1 (TX2 8).2.2.1 ∈ lw_g := tin2 90 (by rfl) rfl
set_option maxRecDepth 10000 in
theorem fl_V_29 : Cond.fieldLink RX2 29 (TX2 7).1 (TX2 7).2.1 (TX2 7).2.2.1 ∈ lw_g := tin2 88 (by rfl) rfl
set_option maxRecDepth 10000 in
theorem fl_V_59 : Cond.fieldLink RX2 59 (TX2 0).1 (TX2 0).2.1 (TX2 0).2.2.1 ∈ lw_g := tin2 81 (by rfl) rfl
set_option maxRecDepth 10000 in
theorem fl_V_9 : Cond.fieldLink RX2 9 (TX2 1).1 (TX2 1).2.1 (TX2 1).2.2.1 ∈ lw_g := tin2 82 (by rfl) rfl
set_option maxRecDepth 10000 in
theorem fl_V_23 : Cond.fieldLink RX2 23 (TX2 4).1 (TX2 4).2.1 (TX2 4).2.2.1 ∈ lw_g := tin2 85 (by rfl) rfl
set_option maxRecDepth 10000 in
theorem fl_V_35 : Cond.fieldLink RX2 35 (TX2 9).1 (TX2 9).2.1 (TX2 9).2.2.1 ∈ lw_g := tin2 91 (by rfl) rfl
set_option maxRecDepth 10000 in
theorem fl_V_44 : Cond.fieldLink RX2 44 (TX2 12).1 (TX2 12).2.1 (TX2 12).2.2.1 ∈ lw_g := tin2 94 (by rfl) rfl
set_option maxRecDepth 10000 in
theorem fl_V_38 : Cond.fieldLink RX2 38 (TX2 10).1 (TX2 10).2.1 (TX2 10).2.2.1 ∈ lw_g := tin2 92 (by rfl) rfl
set_option maxRecDepth 10000 in
theorem fl_V_41 : Cond.fieldLink RX2 41 (TX2 11).1 (TX2 11).2.1 (TX2 11).2.2.1 ∈ lw_g := tin2 93 (by rfl) rfl
set_option maxRecDepth 10000 in
theorem fl_V_78 : Cond.fieldLink RX2 78 (TX2 5).1 (TX2 5).2.1 (TX2 5).2.2.1 ∈ lw_g := tin2 86 (by rfl) rfl
set_option maxRecDepth 10000 in
theorem flN_V_89 : Cond.fieldLinkNest RX2 89 (TX9 2).1 (TX9 2).2.1 (TX9 2).2.2.1 "FarewellStones" ∈ lw_n := nin2 32 (by rfl) rfl
set_option maxRecDepth 10000 in
theorem flN_V_92 : Cond.fieldLinkNest RX2 92 (TX9 1).1 (TX9 1).2.1 (TX9 1).2.2.1 "FarewellStones" ∈ lw_n := nin2 29 (by rfl) rfl
set_option maxRecDepth 10000 in
theorem flN_V_95 : Cond.fieldLinkNest RX2 95 (TX9 0).1 (TX9 0).2.1 (TX9 0).2.2.1 "FarewellStones" ∈ lw_n := nin2 26 (by rfl) rfl
set_option maxRecDepth 10000 in
theorem fl_Y_28 : Cond.fieldLink RX9 28 (TX9 2).1 (TX9 2).2.1 (TX9 2).2.2.1 ∈ lw_g := tin2 31 (by rfl) rfl
set_option maxRecDepth 10000 in
theorem fl_Y_9 : Cond.fieldLink RX9 9 (TX9 0).1 (TX9 0).2.1 (TX9 0).2.2.1 ∈ lw_g := tin2 25 (by rfl) rfl
set_option maxRecDepth 10000 in
theorem fl_Y_15 : Cond.fieldLink RX9 15 (TX9 1).1 (TX9 1).2.1 (TX9 1).2.2.1 ∈ lw_g := tin2 28 (by rfl) rfl
set_option maxRecDepth 10000 in
theorem flN_V_53 : Cond.fieldLinkNest RX2 53 (TX6 5).1 (TX6 5).2.1 (TX6 5).2.2.1 "FarewellStones" ∈ lw_n := nin1 144 (by rfl) rfl
set_option maxRecDepth 10000 in
theorem flN_V_69 : Cond.fieldLinkNest RX2 69 (TX6 9).1 (TX6 9).2.1 (TX6 9).2.2.1 "FarewellStones" ∈ lw_n := nin1 158 (by rfl) rfl
set_option maxRecDepth 10000 in
theorem fl_P_18 : Cond.fieldLink RX4 18 (TX4 2).1 (TX4 2).2.1 (TX4 2).2.2.1 ∈ lw_g := tin2 10 (by rfl) rfl
set_option maxRecDepth 10000 in
theorem fl_P_11 : Cond.fieldLink RX4 11 (TX4 0).1 (TX4 0).2.1 (TX4 0).2.2.1 ∈ lw_g := tin2 8 (by rfl) rfl
set_option maxRecDepth 10000 in
theorem fl_P_22 : Cond.fieldLink RX4 22 (TX4 1).1 (TX4 1).2.1 (TX4 1).2.2.1 ∈ lw_g := tin2 9 (by rfl) rfl
set_option maxRecDepth 10000 in
theorem fl_E_35 : Cond.fieldLink RX5 35 (TX5 2).1 (TX5 2).2.1 (TX5 2).2.2.1 ∈ lw_g := tin1 77 (by rfl) rfl
set_option maxRecDepth 10000 in
theorem fl_E_12 : Cond.fieldLink RX5 12 (TX5 0).1 (TX5 0).2.1 (TX5 0).2.2.1 ∈ lw_g := tin1 75 (by rfl) rfl
set_option maxRecDepth 10000 in
theorem flN_E_135 : Cond.fieldLinkNest RX5 135 (TX8 1).1 (TX8 1).2.1 (TX8 1).2.2.1 "FarewellStones" ∈ lw_n := nin1 60 (by rfl) rfl
set_option maxRecDepth 10000 in
theorem fl_E_31 : Cond.fieldLink RX5 31 (TX5 1).1 (TX5 1).2.1 (TX5 1).2.2.1 ∈ lw_g := tin1 76 (by rfl) rfl
set_option maxRecDepth 10000 in
theorem fl_E_82 : Cond.fieldLink RX5 82 (TX5 3).1 (TX5 3).2.1 (TX5 3).2.2.1 ∈ lw_g := tin1 78 (by rfl) rfl
set_option maxRecDepth 10000 in
theorem flN_E_44 : Cond.fieldLinkNest RX5 44 (TX8 0).1 (TX8 0).2.1 (TX8 0).2.2.1 "FarewellStones" ∈ lw_n := nin1 58 (by rfl) rfl
set_option maxRecDepth 10000 in
theorem fl_E_38 : Cond.fieldLink RX5 38 (TX5 4).1 (TX5 4).2.1 (TX5 4).2.2.1 ∈ lw_g := tin1 79 (by rfl) rfl
set_option maxRecDepth 10000 in
theorem fl_E_85 : Cond.fieldLink RX5 85 (TX5 5).1 (TX5 5).2.1 (TX5 5).2.2.1 ∈ lw_g := tin1 80 (by rfl) rfl
set_option maxRecDepth 10000 in
theorem flN_E_181 : Cond.fieldLinkNest RX5 181 (TX8 3).1 (TX8 3).2.1 (TX8 3).2.2.1 "FarewellStones" ∈ lw_n := nin1 64 (by rfl) rfl
set_option maxRecDepth 10000 in
theorem fl_E_41 : Cond.fieldLink RX5 41 (TX5 6).1 (TX5 6).2.1 (TX5 6).2.2.1 ∈ lw_g := tin1 81 (by rfl) rfl
set_option maxRecDepth 10000 in
theorem flN_E_101 : Cond.fieldLinkNest RX5 101 (TX6 3).1 (TX6 3).2.1 (TX6 3).2.2.1 "FarewellStones" ∈ lw_n := nin1 139 (by rfl) rfl
set_option maxRecDepth 10000 in
theorem flN_E_149 : Cond.fieldLinkNest RX5 149 (TX6 10).1 (TX6 10).2.1 (TX6 10).2.2.1 "FarewellStones" ∈ lw_n := nin1 163 (by rfl) rfl
set_option maxRecDepth 10000 in
theorem flN_E_152 : Cond.fieldLinkNest RX5 152 (TX6 11).1 (TX6 11).2.1 (TX6 11).2.2.1 "FarewellStones" ∈ lw_n := nin1 166 (by rfl) rfl
set_option maxRecDepth 10000 in
theorem flN_E_155 : Cond.fieldLinkNest RX5 155 (TX6 12).1 (TX6 12).2.1 (TX6 12).2.2.1 "FarewellStones" ∈ lw_n := nin1 169 (by rfl) rfl
set_option maxRecDepth 10000 in
theorem flN_E_106 : Cond.fieldLinkNest RX5 106 (TX6 4).1 (TX6 4).2.1 (TX6 4).2.2.1 "FarewellStones" ∈ lw_n := nin1 143 (by rfl) rfl
set_option maxRecDepth 10000 in
theorem flN_E_109 : Cond.fieldLinkNest RX5 109 (TX6 2).1 (TX6 2).2.1 (TX6 2).2.2.1 "FarewellStones" ∈ lw_n := nin1 136 (by rfl) rfl
set_option maxRecDepth 10000 in
theorem fl_T_9 : Cond.fieldLink RX7 9 (TX7 0).1 (TX7 0).2.1 (TX7 0).2.2.1 ∈ lw_g := tin1 35 (by rfl) rfl
set_option maxRecDepth 10000 in
theorem flN_E_142 : Cond.fieldLinkNest RX5 142 (TX8 2).1 (TX8 2).2.1 (TX8 2).2.2.1 "FarewellStones" ∈ lw_n := nin1 62 (by rfl) rfl
set_option maxRecDepth 10000 in
theorem fl_E_18 : Cond.fieldLink RX5 18 (TX5 7).1 (TX5 7).2.1 (TX5 7).2.2.1 ∈ lw_g := tin1 82 (by rfl) rfl
set_option maxRecDepth 10000 in
theorem flN_E_112 : Cond.fieldLinkNest RX5 112 (TX6 5).1 (TX6 5).2.1 (TX6 5).2.2.1 "FarewellStones" ∈ lw_n := nin1 146 (by rfl) rfl
set_option maxRecDepth 10000 in
theorem flN_E_119 : Cond.fieldLinkNest RX5 119 (TX6 6).1 (TX6 6).2.1 (TX6 6).2.2.1 "FarewellStones" ∈ lw_n := nin1 150 (by rfl) rfl
set_option maxRecDepth 10000 in
theorem flN_E_122 : Cond.fieldLinkNest RX5 122 (TX6 7).1 (TX6 7).2.1 (TX6 7).2.2.1 "FarewellStones" ∈ lw_n := nin1 152 (by rfl) rfl
set_option maxRecDepth 10000 in
theorem flN_E_125 : Cond.fieldLinkNest RX5 125 (TX6 8).1 (TX6 8).2.1 (TX6 8).2.2.1 "FarewellStones" ∈ lw_n := nin1 156 (by rfl) rfl
set_option maxRecDepth 10000 in
theorem flN_E_128 : Cond.fieldLinkNest RX5 128 (TX6 9).1 (TX6 9).2.1 (TX6 9).2.2.1 "FarewellStones" ∈ lw_n := nin1 159 (by rfl) rfl
set_option maxRecDepth 10000 in
theorem flN_E_95 : Cond.fieldLinkNest RX5 95 (TX6 0).1 (TX6 0).2.1 (TX6 0).2.2.1 "FarewellStones" ∈ lw_n := nin1 129 (by rfl) rfl
set_option maxRecDepth 10000 in
theorem flN_E_98 : Cond.fieldLinkNest RX5 98 (TX6 1).1 (TX6 1).2.1 (TX6 1).2.2.1 "FarewellStones" ∈ lw_n := nin1 133 (by rfl) rfl
set_option maxRecDepth 10000 in
theorem fl_R_9 : Cond.fieldLink RX6 9 (TX6 3).1 (TX6 3).2.1 (TX6 3).2.2.1 ∈ lw_g := tin1 138 (by rfl) rfl
set_option maxRecDepth 10000 in
theorem fl_R_62 : Cond.fieldLink RX6 62 (TX6 5).1 (TX6 5).2.1 (TX6 5).2.2.1 ∈ lw_g := tin1 145 (by rfl) rfl
set_option maxRecDepth 10000 in
theorem fl_R_65 : Cond.fieldLink RX6 65 (TX6 10).1 (TX6 10).2.1 (TX6 10).2.2.1 ∈ lw_g := tin1 160 (by rfl) rfl
set_option maxRecDepth 10000 in
theorem fl_R_39 : Cond.fieldLink RX6 39 (TX6 13).1 (TX6 13).2.1 (TX6 13).2.2.1 ∈ lw_g := tin1 170 (by rfl) rfl
set_option maxRecDepth 10000 in
theorem fl_R_43 : Cond.fieldLink RX6 43 (TX6 14).1 (TX6 14).2.1 (TX6 14).2.2.1 ∈ lw_g := tin1 173 (by rfl) rfl
set_option maxRecDepth 10000 in
theorem flN_K_28 : Cond.fieldLinkNest RX8 28 (TX7 1).1 (TX7 1).2.1 (TX7 1).2.2.1 "FarewellStones" ∈ lw_n := nin1 38 (by rfl) rfl
set_option maxRecDepth 10000 in
theorem fl_K_9 : Cond.fieldLink RX8 9 (TX8 0).1 (TX8 0).2.1 (TX8 0).2.2.1 ∈ lw_g := tin1 57 (by rfl) rfl
set_option maxRecDepth 10000 in
theorem fl_K_15 : Cond.fieldLink RX8 15 (TX8 1).1 (TX8 1).2.1 (TX8 1).2.2.1 ∈ lw_g := tin1 59 (by rfl) rfl
set_option maxRecDepth 10000 in
theorem fl_K_18 : Cond.fieldLink RX8 18 (TX8 2).1 (TX8 2).2.1 (TX8 2).2.2.1 ∈ lw_g := tin1 61 (by rfl) rfl
set_option maxRecDepth 10000 in
theorem fl_K_21 : Cond.fieldLink RX8 21 (TX8 3).1 (TX8 3).2.1 (TX8 3).2.2.1 ∈ lw_g := tin1 63 (by rfl) rfl
set_option maxRecDepth 10000 in
theorem flN_E_67 : Cond.fieldLinkNest RX5 67 (TX6 13).1 (TX6 13).2.1 (TX6 13).2.2.1 "FarewellStones" ∈ lw_n := nin1 171 (by rfl) rfl
set_option maxRecDepth 10000 in
theorem flN_E_75 : Cond.fieldLinkNest RX5 75 (TX6 14).1 (TX6 14).2.1 (TX6 14).2.2.1 "FarewellStones" ∈ lw_n := nin1 174 (by rfl) rfl
set_option maxRecDepth 10000 in
theorem fl_T_15 : Cond.fieldLink RX7 15 (TX7 1).1 (TX7 1).2.1 (TX7 1).2.2.1 ∈ lw_g := tin1 37 (by rfl) rfl
set_option maxRecDepth 10000 in
theorem fl_Y_18 : Cond.fieldLink RX9 18 (TX9 3).1 (TX9 3).2.1 (TX9 3).2.2.1 ∈ lw_g := tin2 34 (by rfl) rfl
set_option maxRecDepth 10000 in
theorem fl_Y_21 : Cond.fieldLink RX9 21 (TX9 4).1 (TX9 4).2.1 (TX9 4).2.2.1 ∈ lw_g := tin2 35 (by rfl) rfl
set_option maxRecDepth 10000 in
theorem fl_Y_25 : Cond.fieldLink RX9 25 (TX9 5).1 (TX9 5).2.1 (TX9 5).2.2.1 ∈ lw_g := tin2 36 (by rfl) rfl
set_option maxRecDepth 10000 in
theorem fl_X_12 : Cond.fieldLink RX10 12 (TX10 0).1 (TX10 0).2.1 (TX10 0).2.2.1 ∈ lw_g := tin2 146 (by rfl) rfl
set_option maxRecDepth 10000 in
theorem flN_X_96 : Cond.fieldLinkNest RX10 96 (TX7 1).1 (TX7 1).2.1 (TX7 1).2.2.1 "FarewellStones" ∈ lw_n := nin1 36 (by rfl) rfl
set_option maxRecDepth 10000 in
theorem fl_X_40 : Cond.fieldLink RX10 40 (TX10 5).1 (TX10 5).2.1 (TX10 5).2.2.1 ∈ lw_g := tin2 151 (by rfl) rfl
set_option maxRecDepth 10000 in
theorem fl_X_50 : Cond.fieldLink RX10 50 (TX10 7).1 (TX10 7).2.1 (TX10 7).2.2.1 ∈ lw_g := tin2 153 (by rfl) rfl
set_option maxRecDepth 10000 in
theorem fl_X_112 : Cond.fieldLink RX10 112 (TX10 12).1 (TX10 12).2.1 (TX10 12).2.2.1 ∈ lw_g := tin2 158 (by rfl) rfl
set_option maxRecDepth 10000 in
theorem fl_X_58 : Cond.fieldLink RX10 58 (TX10 9).1 (TX10 9).2.1 (TX10 9).2.2.1 ∈ lw_g := tin2 155 (by rfl) rfl
set_option maxRecDepth 10000 in
theorem fl_X_19 : Cond.fieldLink RX10 19 (TX10 1).1 (TX10 1).2.1 (TX10 1).2.2.1 ∈ lw_g := tin2 147 (by rfl) rfl
set_option maxRecDepth 10000 in
theorem fl_X_34 : Cond.fieldLink RX10 34 (TX10 4).1 (TX10 4).2.1 (TX10 4).2.2.1 ∈ lw_g := tin2 150 (by rfl) rfl
set_option maxRecDepth 10000 in
theorem fl_X_23 : Cond.fieldLink RX10 23 (TX10 2).1 (TX10 2).2.1 (TX10 2).2.2.1 ∈ lw_g := tin2 148 (by rfl) rfl
set_option maxRecDepth 10000 in
theorem fl_X_30 : Cond.fieldLink RX10 30 (TX10 3).1 (TX10 3).2.1 (TX10 3).2.2.1 ∈ lw_g := tin2 149 (by rfl) rfl
set_option maxRecDepth 10000 in
theorem flN_X_123 : Cond.fieldLinkNest RX10 123 (TX0 1).1 (TX0 1).2.1 (TX0 1).2.2.1 "FarewellStones" ∈ lw_n := nin1 216 (by rfl) rfl
set_option maxRecDepth 10000 in
theorem flN_X_126 : Cond.fieldLinkNest RX10 126 (TX6 3).1 (TX6 3).2.1 (TX6 3).2.2.1 "FarewellStones" ∈ lw_n := nin1 140 (by rfl) rfl
set_option maxRecDepth 10000 in
theorem flN_X_172 : Cond.fieldLinkNest RX10 172 (TX6 5).1 (TX6 5).2.1 (TX6 5).2.2.1 "FarewellStones" ∈ lw_n := nin1 147 (by rfl) rfl
set_option maxRecDepth 10000 in
theorem flN_X_151 : Cond.fieldLinkNest RX10 151 (TX0 5).1 (TX0 5).2.1 (TX0 5).2.2.1 "FarewellStones" ∈ lw_n := nin1 221 (by rfl) rfl
set_option maxRecDepth 10000 in
theorem flN_X_154 : Cond.fieldLinkNest RX10 154 (TX0 6).1 (TX0 6).2.1 (TX0 6).2.2.1 "FarewellStones" ∈ lw_n := nin1 223 (by rfl) rfl
set_option maxRecDepth 10000 in
theorem flN_X_157 : Cond.fieldLinkNest RX10 157 (TX6 7).1 (TX6 7).2.1 (TX6 7).2.2.1 "FarewellStones" ∈ lw_n := nin1 153 (by rfl) rfl
set_option maxRecDepth 10000 in
theorem flN_X_163 : Cond.fieldLinkNest RX10 163 (TX6 0).1 (TX6 0).2.1 (TX6 0).2.2.1 "FarewellStones" ∈ lw_n := nin1 131 (by rfl) rfl
set_option maxRecDepth 10000 in
theorem flN_X_166 : Cond.fieldLinkNest RX10 166 (TX6 1).1 (TX6 1).2.1 (TX6 1).2.2.1 "FarewellStones" ∈ lw_n := nin1 134 (by rfl) rfl
set_option maxRecDepth 10000 in
theorem flN_X_169 : Cond.fieldLinkNest RX10 169 (TX6 2).1 (TX6 2).2.1 (TX6 2).2.2.1 "FarewellStones" ∈ lw_n := nin1 137 (by rfl) rfl
set_option maxRecDepth 10000 in
theorem flN_X_175 : Cond.fieldLinkNest RX10 175 (TX6 10).1 (TX6 10).2.1 (TX6 10).2.2.1 "FarewellStones" ∈ lw_n := nin1 162 (by rfl) rfl
set_option maxRecDepth 10000 in
theorem flN_X_178 : Cond.fieldLinkNest RX10 178 (TX0 0).1 (TX0 0).2.1 (TX0 0).2.2.1 "FarewellStones" ∈ lw_n := nin1 214 (by rfl) rfl
set_option maxRecDepth 10000 in
theorem flN_X_191 : Cond.fieldLinkNest RX10 191 (TX4 2).1 (TX4 2).2.1 (TX4 2).2.2.1 "FarewellStones" ∈ lw_n := nin2 11 (by rfl) rfl
set_option maxRecDepth 10000 in
theorem fl_X_54 : Cond.fieldLink RX10 54 (TX10 8).1 (TX10 8).2.1 (TX10 8).2.2.1 ∈ lw_g := tin2 154 (by rfl) rfl
set_option maxRecDepth 10000 in
theorem fl_X_72 : Cond.fieldLink RX10 72 (TX10 13).1 (TX10 13).2.1 (TX10 13).2.2.1 ∈ lw_g := tin2 159 (by rfl) rfl
set_option maxRecDepth 10000 in
theorem flN_X_232 : Cond.fieldLinkNest RX10 232 (TX9 0).1 (TX9 0).2.1 (TX9 0).2.2.1 "FarewellStones" ∈ lw_n := nin2 27 (by rfl) rfl
set_option maxRecDepth 10000 in
theorem flN_X_228 : Cond.fieldLinkNest RX10 228 (TX9 2).1 (TX9 2).2.1 (TX9 2).2.2.1 "FarewellStones" ∈ lw_n := nin2 33 (by rfl) rfl
set_option maxRecDepth 10000 in
theorem flN_X_229 : Cond.fieldLinkNest RX10 229 (TX9 1).1 (TX9 1).2.1 (TX9 1).2.2.1 "FarewellStones" ∈ lw_n := nin2 30 (by rfl) rfl
set_option maxRecDepth 10000 in
theorem fl_X_86 : Cond.fieldLink RX10 86 (TX10 15).1 (TX10 15).2.1 (TX10 15).2.2.1 ∈ lw_g := tin2 161 (by rfl) rfl
set_option maxRecDepth 10000 in
theorem flN_X_251 : Cond.fieldLinkNest RX10 251 (TX2 7).1 (TX2 7).2.1 (TX2 7).2.2.1 "FarewellStones" ∈ lw_n := nin2 89 (by rfl) rfl
set_option maxRecDepth 10000 in
theorem fl_X_44 : Cond.fieldLink RX10 44 (TX10 6).1 (TX10 6).2.1 (TX10 6).2.2.1 ∈ lw_g := tin2 152 (by rfl) rfl
set_option maxRecDepth 10000 in
theorem fl_X_79 : Cond.fieldLink RX10 79 (TX10 14).1 (TX10 14).2.1 (TX10 14).2.2.1 ∈ lw_g := tin2 160 (by rfl) rfl
set_option maxRecDepth 10000 in
theorem fl_X_62 : Cond.fieldLink RX10 62 (TX10 10).1 (TX10 10).2.1 (TX10 10).2.2.1 ∈ lw_g := tin2 156 (by rfl) rfl
set_option maxRecDepth 10000 in
theorem fl_X_66 : Cond.fieldLink RX10 66 (TX10 11).1 (TX10 11).2.1 (TX10 11).2.2.1 ∈ lw_g := tin2 157 (by rfl) rfl
set_option maxRecDepth 10000 in
theorem fl_M_13 : Cond.fieldLink RX11 13 (TX11 1).1 (TX11 1).2.1 (TX11 1).2.2.1 ∈ lw_g := tin5 177 (by rfl) rfl
set_option maxRecDepth 10000 in
theorem fl_M_202 : Cond.fieldLink RX11 202 (TX11 2).1 (TX11 2).2.1 (TX11 2).2.2.1 ∈ lw_g := tin5 178 (by rfl) rfl
set_option maxRecDepth 10000 in
theorem fl_M_208 : Cond.fieldLink RX11 208 (TX11 4).1 (TX11 4).2.1 (TX11 4).2.2.1 ∈ lw_g := tin5 180 (by rfl) rfl
set_option maxRecDepth 10000 in
theorem fl_M_17 : Cond.fieldLink RX11 17 (TX11 3).1 (TX11 3).2.1 (TX11 3).2.2.1 ∈ lw_g := tin5 179 (by rfl) rfl
set_option maxRecDepth 10000 in
theorem fl_M_20 : Cond.fieldLink RX11 20 (TX11 5).1 (TX11 5).2.1 (TX11 5).2.2.1 ∈ lw_g := tin5 181 (by rfl) rfl
set_option maxRecDepth 10000 in
theorem fl_M_217 : Cond.fieldLink RX11 217 (TX11 10).1 (TX11 10).2.1 (TX11 10).2.2.1 ∈ lw_g := tin5 186 (by rfl) rfl
set_option maxRecDepth 10000 in
theorem fl_M_24 : Cond.fieldLink RX11 24 (TX11 6).1 (TX11 6).2.1 (TX11 6).2.2.1 ∈ lw_g := tin5 182 (by rfl) rfl
set_option maxRecDepth 10000 in
theorem fl_M_27 : Cond.fieldLink RX11 27 (TX11 7).1 (TX11 7).2.1 (TX11 7).2.2.1 ∈ lw_g := tin5 183 (by rfl) rfl
set_option maxRecDepth 10000 in
theorem fl_M_30 : Cond.fieldLink RX11 30 (TX11 8).1 (TX11 8).2.1 (TX11 8).2.2.1 ∈ lw_g := tin5 184 (by rfl) rfl
set_option maxRecDepth 10000 in
theorem fl_M_34 : Cond.fieldLink RX11 34 (TX11 9).1 (TX11 9).2.1 (TX11 9).2.2.1 ∈ lw_g := tin5 185 (by rfl) rfl
set_option maxRecDepth 10000 in
theorem fl_M_239 : Cond.fieldLink RX11 239 (TX11 13).1 (TX11 13).2.1 (TX11 13).2.2.1 ∈ lw_g := tin5 189 (by rfl) rfl
set_option maxRecDepth 10000 in
theorem fl_M_242 : Cond.fieldLink RX11 242 (TX11 11).1 (TX11 11).2.1 (TX11 11).2.2.1 ∈ lw_g := tin5 187 (by rfl) rfl
set_option maxRecDepth 10000 in
theorem fl_M_245 : Cond.fieldLink RX11 245 (TX11 14).1 (TX11 14).2.1 (TX11 14).2.2.1 ∈ lw_g := tin5 190 (by rfl) rfl
set_option maxRecDepth 10000 in
theorem fl_M_248 : Cond.fieldLink RX11 248 (TX11 15).1 (TX11 15).2.1 (TX11 15).2.2.1 ∈ lw_g := tin5 191 (by rfl) rfl
set_option maxRecDepth 10000 in
theorem fl_M_251 : Cond.fieldLink RX11 251 (TX11 16).1 (TX11 16).2.1 (TX11 16).2.2.1 ∈ lw_g := tin5 192 (by rfl) rfl
set_option maxRecDepth 10000 in
theorem fl_M_43 : Cond.fieldLink RX11 43 (TX11 22).1 (TX11 22).2.1 (TX11 22).2.2.1 ∈ lw_g := tin5 198 (by rfl) rfl
set_option maxRecDepth 10000 in
theorem fl_M_46 : Cond.fieldLink RX11 46 (TX11 23).1 (TX11 23).2.1 (TX11 23).2.2.1 ∈ lw_g := tin5 199 (by rfl) rfl
set_option maxRecDepth 10000 in
theorem fl_M_49 : Cond.fieldLink RX11 49 (TX11 24).1 (TX11 24).2.1 (TX11 24).2.2.1 ∈ lw_g := tin5 200 (by rfl) rfl
set_option maxRecDepth 10000 in
theorem fl_M_58 : Cond.fieldLink RX11 58 (TX11 27).1 (TX11 27).2.1 (TX11 27).2.2.1 ∈ lw_g := tin5 203 (by rfl) rfl
set_option maxRecDepth 10000 in
theorem fl_M_61 : Cond.fieldLink RX11 61 (TX11 28).1 (TX11 28).2.1 (TX11 28).2.2.1 ∈ lw_g := tin5 204 (by rfl) rfl
set_option maxRecDepth 10000 in
theorem fl_M_76 : Cond.fieldLink RX11 76 (TX11 33).1 (TX11 33).2.1 (TX11 33).2.2.1 ∈ lw_g := tin5 209 (by rfl) rfl
set_option maxRecDepth 10000 in
theorem fl_M_52 : Cond.fieldLink RX11 52 (TX11 25).1 (TX11 25).2.1 (TX11 25).2.2.1 ∈ lw_g := tin5 201 (by rfl) rfl
set_option maxRecDepth 10000 in
theorem fl_M_55 : Cond.fieldLink RX11 55 (TX11 26).1 (TX11 26).2.1 (TX11 26).2.2.1 ∈ lw_g := tin5 202 (by rfl) rfl
set_option maxRecDepth 10000 in
theorem fl_M_85 : Cond.fieldLink RX11 85 (TX11 36).1 (TX11 36).2.1 (TX11 36).2.2.1 ∈ lw_g := tin5 212 (by rfl) rfl
set_option maxRecDepth 10000 in
theorem fl_M_88 : Cond.fieldLink RX11 88 (TX11 37).1 (TX11 37).2.1 (TX11 37).2.2.1 ∈ lw_g := tin5 213 (by rfl) rfl
set_option maxRecDepth 10000 in
theorem fl_M_122 : Cond.fieldLink RX11 122 (TX11 52).1 (TX11 52).2.1 (TX11 52).2.2.1 ∈ lw_g := tin5 228 (by rfl) rfl
set_option maxRecDepth 10000 in
theorem fl_M_272 : Cond.fieldLink RX11 272 (TX11 19).1 (TX11 19).2.1 (TX11 19).2.2.1 ∈ lw_g := tin5 195 (by rfl) rfl
set_option maxRecDepth 10000 in
theorem fl_M_79 : Cond.fieldLink RX11 79 (TX11 34).1 (TX11 34).2.1 (TX11 34).2.2.1 ∈ lw_g := tin5 210 (by rfl) rfl
set_option maxRecDepth 10000 in
theorem fl_M_82 : Cond.fieldLink RX11 82 (TX11 35).1 (TX11 35).2.1 (TX11 35).2.2.1 ∈ lw_g := tin5 211 (by rfl) rfl
set_option maxRecDepth 10000 in
theorem fl_M_107 : Cond.fieldLink RX11 107 (TX11 45).1 (TX11 45).2.1 (TX11 45).2.2.1 ∈ lw_g := tin5 221 (by rfl) rfl
set_option maxRecDepth 10000 in
theorem fl_M_281 : Cond.fieldLink RX11 281 (TX11 44).1 (TX11 44).2.1 (TX11 44).2.2.1 ∈ lw_g := tin5 220 (by rfl) rfl
set_option maxRecDepth 10000 in
theorem fl_M_110 : Cond.fieldLink RX11 110 (TX11 46).1 (TX11 46).2.1 (TX11 46).2.2.1 ∈ lw_g := tin5 222 (by rfl) rfl
set_option maxRecDepth 10000 in
theorem fl_M_325 : Cond.fieldLink RX11 325 (TX11 48).1 (TX11 48).2.1 (TX11 48).2.2.1 ∈ lw_g := tin5 224 (by rfl) rfl
set_option maxRecDepth 10000 in
theorem fl_M_113 : Cond.fieldLink RX11 113 (TX11 47).1 (TX11 47).2.1 (TX11 47).2.2.1 ∈ lw_g := tin5 223 (by rfl) rfl
set_option maxRecDepth 10000 in
theorem fl_M_266 : Cond.fieldLink RX11 266 (TX11 12).1 (TX11 12).2.1 (TX11 12).2.2.1 ∈ lw_g := tin5 188 (by rfl) rfl
set_option maxRecDepth 10000 in
theorem fl_M_101 : Cond.fieldLink RX11 101 (TX11 42).1 (TX11 42).2.1 (TX11 42).2.2.1 ∈ lw_g := tin5 218 (by rfl) rfl
set_option maxRecDepth 10000 in
theorem fl_M_278 : Cond.fieldLink RX11 278 (TX11 38).1 (TX11 38).2.1 (TX11 38).2.2.1 ∈ lw_g := tin5 214 (by rfl) rfl
set_option maxRecDepth 10000 in
theorem fl_M_104 : Cond.fieldLink RX11 104 (TX11 43).1 (TX11 43).2.1 (TX11 43).2.2.1 ∈ lw_g := tin5 219 (by rfl) rfl
set_option maxRecDepth 10000 in
theorem fl_M_91 : Cond.fieldLink RX11 91 (TX11 39).1 (TX11 39).2.1 (TX11 39).2.2.1 ∈ lw_g := tin5 215 (by rfl) rfl
set_option maxRecDepth 10000 in
theorem fl_M_95 : Cond.fieldLink RX11 95 (TX11 40).1 (TX11 40).2.1 (TX11 40).2.2.1 ∈ lw_g := tin5 216 (by rfl) rfl
set_option maxRecDepth 10000 in
theorem fl_M_98 : Cond.fieldLink RX11 98 (TX11 41).1 (TX11 41).2.1 (TX11 41).2.2.1 ∈ lw_g := tin5 217 (by rfl) rfl
set_option maxRecDepth 10000 in
theorem fl_M_275 : Cond.fieldLink RX11 275 (TX11 20).1 (TX11 20).2.1 (TX11 20).2.2.1 ∈ lw_g := tin5 196 (by rfl) rfl
set_option maxRecDepth 10000 in
theorem fl_M_40 : Cond.fieldLink RX11 40 (TX11 21).1 (TX11 21).2.1 (TX11 21).2.2.1 ∈ lw_g := tin5 197 (by rfl) rfl
set_option maxRecDepth 10000 in
theorem fl_M_64 : Cond.fieldLink RX11 64 (TX11 29).1 (TX11 29).2.1 (TX11 29).2.2.1 ∈ lw_g := tin5 205 (by rfl) rfl
set_option maxRecDepth 10000 in
theorem fl_M_67 : Cond.fieldLink RX11 67 (TX11 30).1 (TX11 30).2.1 (TX11 30).2.2.1 ∈ lw_g := tin5 206 (by rfl) rfl
set_option maxRecDepth 10000 in
theorem fl_M_70 : Cond.fieldLink RX11 70 (TX11 31).1 (TX11 31).2.1 (TX11 31).2.2.1 ∈ lw_g := tin5 207 (by rfl) rfl
set_option maxRecDepth 10000 in
theorem fl_M_73 : Cond.fieldLink RX11 73 (TX11 32).1 (TX11 32).2.1 (TX11 32).2.2.1 ∈ lw_g := tin5 208 (by rfl) rfl
set_option maxRecDepth 10000 in
theorem fl_M_269 : Cond.fieldLink RX11 269 (TX11 18).1 (TX11 18).2.1 (TX11 18).2.2.1 ∈ lw_g := tin5 194 (by rfl) rfl
set_option maxRecDepth 10000 in
theorem fl_M_37 : Cond.fieldLink RX11 37 (TX11 17).1 (TX11 17).2.1 (TX11 17).2.2.1 ∈ lw_g := tin5 193 (by rfl) rfl
set_option maxRecDepth 10000 in
theorem fl_M_287 : Cond.fieldLink RX11 287 (TX11 55).1 (TX11 55).2.1 (TX11 55).2.2.1 ∈ lw_g := tin5 231 (by rfl) rfl
set_option maxRecDepth 10000 in
theorem fl_M_290 : Cond.fieldLink RX11 290 (TX11 76).1 (TX11 76).2.1 (TX11 76).2.2.1 ∈ lw_g := tin6 12 (by rfl) rfl
set_option maxRecDepth 10000 in
theorem fl_M_185 : Cond.fieldLink RX11 185 (TX11 79).1 (TX11 79).2.1 (TX11 79).2.2.1 ∈ lw_g := tin6 15 (by rfl) rfl
set_option maxRecDepth 10000 in
theorem fl_M_119 : Cond.fieldLink RX11 119 (TX11 50).1 (TX11 50).2.1 (TX11 50).2.2.1 ∈ lw_g := tin5 226 (by rfl) rfl
set_option maxRecDepth 10000 in
theorem fl_M_116 : Cond.fieldLink RX11 116 (TX11 49).1 (TX11 49).2.1 (TX11 49).2.2.1 ∈ lw_g := tin5 225 (by rfl) rfl
set_option maxRecDepth 10000 in
theorem fl_M_338 : Cond.fieldLink RX11 338 (TX11 51).1 (TX11 51).2.1 (TX11 51).2.2.1 ∈ lw_g := tin5 227 (by rfl) rfl
set_option maxRecDepth 10000 in
theorem fl_M_128 : Cond.fieldLink RX11 128 (TX11 54).1 (TX11 54).2.1 (TX11 54).2.2.1 ∈ lw_g := tin5 230 (by rfl) rfl
set_option maxRecDepth 10000 in
theorem fl_M_125 : Cond.fieldLink RX11 125 (TX11 53).1 (TX11 53).2.1 (TX11 53).2.2.1 ∈ lw_g := tin5 229 (by rfl) rfl
set_option maxRecDepth 10000 in
theorem fl_M_131 : Cond.fieldLink RX11 131 (TX11 56).1 (TX11 56).2.1 (TX11 56).2.2.1 ∈ lw_g := tin5 232 (by rfl) rfl
set_option maxRecDepth 10000 in
theorem fl_M_134 : Cond.fieldLink RX11 134 (TX11 57).1 (TX11 57).2.1 (TX11 57).2.2.1 ∈ lw_g := tin5 233 (by rfl) rfl
set_option maxRecDepth 10000 in
theorem fl_M_140 : Cond.fieldLink RX11 140 (TX11 59).1 (TX11 59).2.1 (TX11 59).2.2.1 ∈ lw_g := tin5 235 (by rfl) rfl
set_option maxRecDepth 10000 in
theorem fl_M_137 : Cond.fieldLink RX11 137 (TX11 58).1 (TX11 58).2.1 (TX11 58).2.2.1 ∈ lw_g := tin5 234 (by rfl) rfl
set_option maxRecDepth 10000 in
theorem fl_M_407 : Cond.fieldLink RX11 407 (TX11 60).1 (TX11 60).2.1 (TX11 60).2.2.1 ∈ lw_g := tin5 236 (by rfl) rfl
set_option maxRecDepth 10000 in
theorem fl_M_143 : Cond.fieldLink RX11 143 (TX11 61).1 (TX11 61).2.1 (TX11 61).2.2.1 ∈ lw_g := tin5 237 (by rfl) rfl
set_option maxRecDepth 10000 in
theorem fl_M_423 : Cond.fieldLink RX11 423 (TX11 63).1 (TX11 63).2.1 (TX11 63).2.2.1 ∈ lw_g := tin5 239 (by rfl) rfl
set_option maxRecDepth 10000 in
theorem fl_M_146 : Cond.fieldLink RX11 146 (TX11 62).1 (TX11 62).2.1 (TX11 62).2.2.1 ∈ lw_g := tin5 238 (by rfl) rfl
set_option maxRecDepth 10000 in
theorem fl_M_149 : Cond.fieldLink RX11 149 (TX11 64).1 (TX11 64).2.1 (TX11 64).2.2.1 ∈ lw_g := tin6 0 (by rfl) rfl
set_option maxRecDepth 10000 in
theorem fl_M_152 : Cond.fieldLink RX11 152 (TX11 65).1 (TX11 65).2.1 (TX11 65).2.2.1 ∈ lw_g := tin6 1 (by rfl) rfl
set_option maxRecDepth 10000 in
theorem fl_M_158 : Cond.fieldLink RX11 158 (TX11 67).1 (TX11 67).2.1 (TX11 67).2.2.1 ∈ lw_g := tin6 3 (by rfl) rfl
set_option maxRecDepth 10000 in
theorem fl_M_438 : Cond.fieldLink RX11 438 (TX11 68).1 (TX11 68).2.1 (TX11 68).2.2.1 ∈ lw_g := tin6 4 (by rfl) rfl
set_option maxRecDepth 10000 in
theorem fl_M_173 : Cond.fieldLink RX11 173 (TX11 73).1 (TX11 73).2.1 (TX11 73).2.2.1 ∈ lw_g := tin6 9 (by rfl) rfl
set_option maxRecDepth 10000 in
theorem fl_M_176 : Cond.fieldLink RX11 176 (TX11 74).1 (TX11 74).2.1 (TX11 74).2.2.1 ∈ lw_g := tin6 10 (by rfl) rfl
set_option maxRecDepth 10000 in
theorem fl_M_451 : Cond.fieldLink RX11 451 (TX11 75).1 (TX11 75).2.1 (TX11 75).2.2.1 ∈ lw_g := tin6 11 (by rfl) rfl
set_option maxRecDepth 10000 in
theorem fl_M_164 : Cond.fieldLink RX11 164 (TX11 70).1 (TX11 70).2.1 (TX11 70).2.2.1 ∈ lw_g := tin6 6 (by rfl) rfl
set_option maxRecDepth 10000 in
theorem fl_M_167 : Cond.fieldLink RX11 167 (TX11 71).1 (TX11 71).2.1 (TX11 71).2.2.1 ∈ lw_g := tin6 7 (by rfl) rfl
set_option maxRecDepth 10000 in
theorem fl_M_161 : Cond.fieldLink RX11 161 (TX11 69).1 (TX11 69).2.1 (TX11 69).2.2.1 ∈ lw_g := tin6 5 (by rfl) rfl
set_option maxRecDepth 10000 in
theorem fl_M_170 : Cond.fieldLink RX11 170 (TX11 72).1 (TX11 72).2.1 (TX11 72).2.2.1 ∈ lw_g := tin6 8 (by rfl) rfl
set_option maxRecDepth 10000 in
theorem fl_M_179 : Cond.fieldLink RX11 179 (TX11 77).1 (TX11 77).2.1 (TX11 77).2.2.1 ∈ lw_g := tin6 13 (by rfl) rfl
set_option maxRecDepth 10000 in
theorem fl_M_182 : Cond.fieldLink RX11 182 (TX11 78).1 (TX11 78).2.1 (TX11 78).2.2.1 ∈ lw_g := tin6 14 (by rfl) rfl
set_option maxRecDepth 10000 in
theorem fl_M_188 : Cond.fieldLink RX11 188 (TX11 80).1 (TX11 80).2.1 (TX11 80).2.2.1 ∈ lw_g := tin6 16 (by rfl) rfl
set_option maxRecDepth 10000 in
theorem ml_B_51 : Cond.methodLink RX0 51 yX0_left ∈ lw_g := tin4 29 (by rfl) rfl
set_option maxRecDepth 10000 in
theorem ml_B_58 : Cond.methodLink RX0 58 yX6_drift ∈ lw_g := tin4 71 (by rfl) rfl
set_option maxRecDepth 10000 in
theorem ml_B_62 : Cond.methodLink RX0 62 yX6_has ∈ lw_g := tin4 46 (by rfl) rfl
set_option maxRecDepth 10000 in
theorem mlN_B_66 : Cond.methodLinkNest RX0 66 yX10_cellNumber "FarewellStones" ∈ lw_n := nin4 75 (by rfl) rfl
set_option maxRecDepth 10000 in
theorem ml_B_69 : Cond.methodLink RX0 69 yX0_layOn ∈ lw_g := tin4 76 (by rfl) rfl
set_option maxRecDepth 10000 in
theorem ml_B_121 : Cond.methodLink RX0 121 yX0_lose ∈ lw_g := tin4 103 (by rfl) rfl
set_option maxRecDepth 10000 in
theorem ml_W_28 : Cond.methodLink RX3 28 yX3_seenAt ∈ lw_g := tin3 237 (by rfl) rfl
set_option maxRecDepth 10000 in
theorem ml_W_32 : Cond.methodLink RX3 32 yX3_joined ∈ lw_g := tin4 1 (by rfl) rfl
set_option maxRecDepth 10000 in
theorem ml_B_93 : Cond.methodLink RX0 93 yX0_mossOn ∈ lw_g := tin3 219 (by rfl) rfl
set_option maxRecDepth 10000 in
theorem ml_B_103 : Cond.methodLink RX0 103 yX3_tells ∈ lw_g := tin3 233 (by rfl) rfl
set_option maxRecDepth 10000 in
theorem ml_B_117 : Cond.methodLink RX0 117 yX0_carryOff ∈ lw_g := tin4 99 (by rfl) rfl
set_option maxRecDepth 10000 in
theorem ml_B_86 : Cond.methodLink RX0 86 yX0_floodRow ∈ lw_g := tin4 95 (by rfl) rfl
set_option maxRecDepth 10000 in
theorem ml_B_73 : Cond.methodLink RX0 73 yX0_passDay ∈ lw_g := tin4 91 (by rfl) rfl
set_option maxRecDepth 10000 in
theorem ml_B_128 : Cond.methodLink RX0 128 yX0_mossAt ∈ lw_g := tin3 232 (by rfl) rfl
set_option maxRecDepth 10000 in
theorem ml_B_132 : Cond.methodLink RX0 132 yX0_isStep ∈ lw_g := tin4 47 (by rfl) rfl
set_option maxRecDepth 10000 in
theorem ml_B_136 : Cond.methodLink RX0 136 yX0_slippery ∈ lw_g := tin4 136 (by rfl) rfl
set_option maxRecDepth 10000 in
theorem ml_B_139 : Cond.methodLink RX0 139 yX0_weighHeight ∈ lw_g := tin5 62 (by rfl) rfl
set_option maxRecDepth 10000 in
theorem ml_B_143 : Cond.methodLink RX0 143 yX0_countOf ∈ lw_g := tin5 73 (by rfl) rfl
set_option maxRecDepth 10000 in
theorem ml_F_70 : Cond.methodLink RX1 70 yX1_leadInto ∈ lw_g := tin5 124 (by rfl) rfl
set_option maxRecDepth 10000 in
theorem ml_F_48 : Cond.methodLink RX1 48 yX1_reach ∈ lw_g := tin5 105 (by rfl) rfl
set_option maxRecDepth 10000 in
theorem ml_R_83 : Cond.methodLink RX6 83 yX6_has ∈ lw_g := tin4 167 (by rfl) rfl
set_option maxRecDepth 10000 in
theorem mlN_R_87 : Cond.methodLinkNest RX6 87 yX10_cellNumber "FarewellStones" ∈ lw_n := nin4 168 (by rfl) rfl
set_option maxRecDepth 10000 in
theorem ml_F_62 : Cond.methodLink RX1 62 yX6_countLeaps ∈ lw_g := tin5 118 (by rfl) rfl
set_option maxRecDepth 10000 in
theorem ml_F_66 : Cond.methodLink RX1 66 yX6_leapFrom ∈ lw_g := tin5 119 (by rfl) rfl
set_option maxRecDepth 10000 in
theorem ml_F_42 : Cond.methodLink RX1 42 yX6_isNearEnough ∈ lw_g := tin5 104 (by rfl) rfl
set_option maxRecDepth 10000 in
theorem ml_F_55 : Cond.methodLink RX1 55 yX6_isFarEnough ∈ lw_g := tin5 113 (by rfl) rfl
set_option maxRecDepth 10000 in
theorem ml_F_58 : Cond.methodLink RX1 58 yX1_goOnFrom ∈ lw_g := tin5 114 (by rfl) rfl
set_option maxRecDepth 10000 in
theorem ml_F_52 : Cond.methodLink RX1 52 yX1_comeTo ∈ lw_g := tin5 109 (by rfl) rfl
set_option maxRecDepth 10000 in
theorem ml_F_30 : Cond.methodLink RX1 30 yX1_seek ∈ lw_g := tin5 100 (by rfl) rfl
set_option maxRecDepth 10000 in
theorem ml_F_34 : Cond.methodLink RX1 34 yX1_addWay ∈ lw_g := tin5 120 (by rfl) rfl
set_option maxRecDepth 10000 in
theorem ml_V_119 : Cond.methodLink RX2 119 yX2_isFree ∈ lw_g := tin5 18 (by rfl) rfl
set_option maxRecDepth 10000 in
theorem ml_V_104 : Cond.methodLink RX2 104 yX2_canGive ∈ lw_g := tin5 6 (by rfl) rfl
set_option maxRecDepth 10000 in
theorem ml_V_108 : Cond.methodLink RX2 108 yX2_spread ∈ lw_g := tin5 10 (by rfl) rfl
set_option maxRecDepth 10000 in
theorem ml_V_112 : Cond.methodLink RX2 112 yX2_leastFree ∈ lw_g := tin5 14 (by rfl) rfl
set_option maxRecDepth 10000 in
theorem ml_V_115 : Cond.methodLink RX2 115 yX2_passOn ∈ lw_g := tin5 22 (by rfl) rfl
set_option maxRecDepth 10000 in
theorem ml_V_126 : Cond.methodLink RX2 126 yX2_spreadBack ∈ lw_g := tin5 34 (by rfl) rfl
set_option maxRecDepth 10000 in
theorem ml_V_129 : Cond.methodLink RX2 129 yX2_handOn ∈ lw_g := tin5 38 (by rfl) rfl
set_option maxRecDepth 10000 in
theorem ml_V_122 : Cond.methodLink RX2 122 yX2_giveInstead ∈ lw_g := tin5 30 (by rfl) rfl
set_option maxRecDepth 10000 in
theorem ml_V_47 : Cond.methodLink RX2 47 yX9_sum ∈ lw_g := tin4 233 (by rfl) rfl
set_option maxRecDepth 10000 in
theorem ml_V_60 : Cond.methodLink RX2 60 yX0_mayThrow ∈ lw_g := tin4 234 (by rfl) rfl
set_option maxRecDepth 10000 in
theorem ml_V_70 : Cond.methodLink RX2 70 yX6_drift ∈ lw_g := tin4 236 (by rfl) rfl
set_option maxRecDepth 10000 in
theorem ml_V_66 : Cond.methodLink RX2 66 yX0_left ∈ lw_g := tin4 235 (by rfl) rfl
set_option maxRecDepth 10000 in
theorem ml_V_74 : Cond.methodLink RX2 74 yX2_listNeeds ∈ lw_g := tin4 237 (by rfl) rfl
set_option maxRecDepth 10000 in
theorem ml_V_81 : Cond.methodLink RX2 81 yX2_give ∈ lw_g := tin5 1 (by rfl) rfl
set_option maxRecDepth 10000 in
theorem ml_V_85 : Cond.methodLink RX2 85 yX2_giveByFirst ∈ lw_g := tin5 26 (by rfl) rfl
set_option maxRecDepth 10000 in
theorem ml_P_25 : Cond.methodLink RX4 25 yX0_copyFrom ∈ lw_g := tin4 60 (by rfl) rfl
set_option maxRecDepth 10000 in
theorem ml_E_78 : Cond.methodLink RX5 78 yX5_fail ∈ lw_g := tin3 125 (by rfl) rfl
set_option maxRecDepth 10000 in
theorem ml_E_88 : Cond.methodLink RX5 88 yX5_take ∈ lw_g := tin3 121 (by rfl) rfl
set_option maxRecDepth 10000 in
theorem ml_E_138 : Cond.methodLink RX5 138 yX5_failLater ∈ lw_g := tin3 133 (by rfl) rfl
set_option maxRecDepth 10000 in
theorem ml_E_91 : Cond.methodLink RX5 91 yX5_takeInt ∈ lw_g := tin3 129 (by rfl) rfl
set_option maxRecDepth 10000 in
theorem mlN_E_103 : Cond.methodLinkNest RX5 103 yX10_cellNumber "FarewellStones" ∈ lw_n := nin3 141 (by rfl) rfl
set_option maxRecDepth 10000 in
theorem ml_E_161 : Cond.methodLink RX5 161 yX5_readSum ∈ lw_g := tin3 174 (by rfl) rfl
set_option maxRecDepth 10000 in
theorem ml_E_165 : Cond.methodLink RX5 165 yX3_put ∈ lw_g := tin3 186 (by rfl) rfl
set_option maxRecDepth 10000 in
theorem ml_E_178 : Cond.methodLink RX5 178 yX5_readUnit ∈ lw_g := tin3 182 (by rfl) rfl
set_option maxRecDepth 10000 in
theorem ml_E_174 : Cond.methodLink RX5 174 yX5_isEither ∈ lw_g := tin3 190 (by rfl) rfl
set_option maxRecDepth 10000 in
theorem ml_E_171 : Cond.methodLink RX5 171 yX5_readProduct ∈ lw_g := tin3 178 (by rfl) rfl
set_option maxRecDepth 10000 in
theorem ml_E_158 : Cond.methodLink RX5 158 yX3_clear ∈ lw_g := tin3 173 (by rfl) rfl
set_option maxRecDepth 10000 in
theorem ml_E_168 : Cond.methodLink RX5 168 yX3_aimAtEnd ∈ lw_g := tin3 194 (by rfl) rfl
set_option maxRecDepth 10000 in
theorem ml_E_143 : Cond.methodLink RX5 143 yX7_byteAt ∈ lw_g := tin3 164 (by rfl) rfl
set_option maxRecDepth 10000 in
theorem ml_E_131 : Cond.methodLink RX5 131 yX5_isSameName ∈ lw_g := tin3 160 (by rfl) rfl
set_option maxRecDepth 10000 in
theorem ml_E_115 : Cond.methodLink RX5 115 yX5_takeName ∈ lw_g := tin3 156 (by rfl) rfl
set_option maxRecDepth 10000 in
theorem ml_R_68 : Cond.methodLink RX6 68 yX3_clear ∈ lw_g := tin2 129 (by rfl) rfl
set_option maxRecDepth 10000 in
theorem ml_K_48 : Cond.methodLink RX8 48 yX7_byteAt ∈ lw_g := tin2 222 (by rfl) rfl
set_option maxRecDepth 10000 in
theorem ml_K_52 : Cond.methodLink RX8 52 yX8_sortOf ∈ lw_g := tin2 226 (by rfl) rfl
set_option maxRecDepth 10000 in
theorem ml_K_24 : Cond.methodLink RX8 24 yX8_skip ∈ lw_g := tin2 219 (by rfl) rfl
set_option maxRecDepth 10000 in
theorem ml_K_65 : Cond.methodLink RX8 65 yX8_spells ∈ lw_g := tin2 238 (by rfl) rfl
set_option maxRecDepth 10000 in
theorem ml_K_55 : Cond.methodLink RX8 55 yX8_wordKind ∈ lw_g := tin2 235 (by rfl) rfl
set_option maxRecDepth 10000 in
theorem ml_K_34 : Cond.methodLink RX8 34 yX8_endOfToken ∈ lw_g := tin2 229 (by rfl) rfl
set_option maxRecDepth 10000 in
theorem ml_K_38 : Cond.methodLink RX8 38 yX8_kindOf ∈ lw_g := tin2 232 (by rfl) rfl
set_option maxRecDepth 10000 in
theorem ml_K_41 : Cond.methodLink RX8 41 yX8_put ∈ lw_g := tin3 109 (by rfl) rfl
set_option maxRecDepth 10000 in
theorem ml_K_45 : Cond.methodLink RX8 45 yX8_number ∈ lw_g := tin3 113 (by rfl) rfl
set_option maxRecDepth 10000 in
theorem ml_E_22 : Cond.methodLink RX5 22 yX8_scan ∈ lw_g := tin2 215 (by rfl) rfl
set_option maxRecDepth 10000 in
theorem ml_E_26 : Cond.methodLink RX5 26 yX6_clear ∈ lw_g := tin3 116 (by rfl) rfl
set_option maxRecDepth 10000 in
theorem ml_E_47 : Cond.methodLink RX5 47 yX5_readRiver ∈ lw_g := tin3 117 (by rfl) rfl
set_option maxRecDepth 10000 in
theorem ml_E_51 : Cond.methodLink RX5 51 yX5_readDepth ∈ lw_g := tin3 137 (by rfl) rfl
set_option maxRecDepth 10000 in
theorem ml_E_54 : Cond.methodLink RX5 54 yX5_readFlow ∈ lw_g := tin3 144 (by rfl) rfl
set_option maxRecDepth 10000 in
theorem ml_E_57 : Cond.methodLink RX5 57 yX5_readLeap ∈ lw_g := tin3 148 (by rfl) rfl
set_option maxRecDepth 10000 in
theorem ml_E_60 : Cond.methodLink RX5 60 yX5_readLeaver ∈ lw_g := tin3 152 (by rfl) rfl
set_option maxRecDepth 10000 in
theorem ml_E_64 : Cond.methodLink RX5 64 yX5_readFlood ∈ lw_g := tin3 165 (by rfl) rfl
set_option maxRecDepth 10000 in
theorem ml_E_71 : Cond.methodLink RX5 71 yX5_readLaw ∈ lw_g := tin3 169 (by rfl) rfl
set_option maxRecDepth 10000 in
theorem ml_Y_74 : Cond.methodLink RX9 74 yX6_isWithinLeap ∈ lw_g := tin4 186 (by rfl) rfl
set_option maxRecDepth 10000 in
theorem ml_Y_43 : Cond.methodLink RX9 43 yX6_isNearEnough ∈ lw_g := tin4 174 (by rfl) rfl
set_option maxRecDepth 10000 in
theorem ml_Y_70 : Cond.methodLink RX9 70 yX9_firstWithCost ∈ lw_g := tin4 182 (by rfl) rfl
set_option maxRecDepth 10000 in
theorem ml_Y_57 : Cond.methodLink RX9 57 yX6_isFarEnough ∈ lw_g := tin4 145 (by rfl) rfl
set_option maxRecDepth 10000 in
theorem ml_Y_60 : Cond.methodLink RX9 60 yX6_countLeaps ∈ lw_g := tin4 150 (by rfl) rfl
set_option maxRecDepth 10000 in
theorem ml_Y_64 : Cond.methodLink RX9 64 yX9_cheapest ∈ lw_g := tin4 157 (by rfl) rfl
set_option maxRecDepth 10000 in
theorem ml_Y_67 : Cond.methodLink RX9 67 yX6_leapFrom ∈ lw_g := tin4 161 (by rfl) rfl
set_option maxRecDepth 10000 in
theorem ml_Y_32 : Cond.methodLink RX9 32 yX9_weighCosts ∈ lw_g := tin4 141 (by rfl) rfl
set_option maxRecDepth 10000 in
theorem ml_Y_36 : Cond.methodLink RX9 36 yX6_isLeptAtOnce ∈ lw_g := tin4 170 (by rfl) rfl
set_option maxRecDepth 10000 in
theorem ml_Y_53 : Cond.methodLink RX9 53 yX9_drawLine ∈ lw_g := tin4 178 (by rfl) rfl
set_option maxRecDepth 10000 in
theorem ml_X_99 : Cond.methodLink RX10 99 yX7_put ∈ lw_g := tin2 199 (by rfl) rfl
set_option maxRecDepth 10000 in
theorem ml_X_110 : Cond.methodLink RX10 110 yX0_clear ∈ lw_g := tin2 137 (by rfl) rfl
set_option maxRecDepth 10000 in
theorem ml_X_111 : Cond.methodLink RX10 111 yX4_clear ∈ lw_g := tin2 142 (by rfl) rfl
set_option maxRecDepth 10000 in
theorem ml_X_103 : Cond.methodLink RX10 103 yX5_readText ∈ lw_g := tin2 211 (by rfl) rfl
set_option maxRecDepth 10000 in
theorem ml_X_107 : Cond.methodLink RX10 107 yX5_faultPlace ∈ lw_g := tin3 198 (by rfl) rfl
set_option maxRecDepth 10000 in
theorem ml_X_93 : Cond.methodLink RX10 93 yX10_beginAnew ∈ lw_g := tin2 133 (by rfl) rfl
set_option maxRecDepth 10000 in
theorem ml_X_115 : Cond.methodLink RX10 115 yX6_has ∈ lw_g := tin3 210 (by rfl) rfl
set_option maxRecDepth 10000 in
theorem ml_X_119 : Cond.methodLink RX10 119 yX10_cellNumber ∈ lw_g := tin3 214 (by rfl) rfl
set_option maxRecDepth 10000 in
theorem ml_X_129 : Cond.methodLink RX10 129 yX0_mossAt ∈ lw_g := tin3 215 (by rfl) rfl
set_option maxRecDepth 10000 in
theorem ml_X_133 : Cond.methodLink RX10 133 yX0_isStep ∈ lw_g := tin3 224 (by rfl) rfl
set_option maxRecDepth 10000 in
theorem ml_X_137 : Cond.methodLink RX10 137 yX0_slippery ∈ lw_g := tin3 228 (by rfl) rfl
set_option maxRecDepth 10000 in
theorem ml_X_141 : Cond.methodLink RX10 141 yX0_ownerAt ∈ lw_g := tin4 5 (by rfl) rfl
set_option maxRecDepth 10000 in
theorem ml_X_144 : Cond.methodLink RX10 144 yX10_isLeaver ∈ lw_g := tin4 17 (by rfl) rfl
set_option maxRecDepth 10000 in
theorem ml_X_148 : Cond.methodLink RX10 148 yX0_left ∈ lw_g := tin4 21 (by rfl) rfl
set_option maxRecDepth 10000 in
theorem ml_X_160 : Cond.methodLink RX10 160 yX0_mayThrow ∈ lw_g := tin4 25 (by rfl) rfl
set_option maxRecDepth 10000 in
theorem ml_X_181 : Cond.methodLink RX10 181 yX0_countLying ∈ lw_g := tin4 34 (by rfl) rfl
set_option maxRecDepth 10000 in
theorem ml_X_184 : Cond.methodLink RX10 184 yX0_countLost ∈ lw_g := tin4 38 (by rfl) rfl
set_option maxRecDepth 10000 in
theorem ml_X_187 : Cond.methodLink RX10 187 yX0_countSteps ∈ lw_g := tin4 42 (by rfl) rfl
set_option maxRecDepth 10000 in
theorem ml_X_194 : Cond.methodLink RX10 194 yX10_countHeld ∈ lw_g := tin4 48 (by rfl) rfl
set_option maxRecDepth 10000 in
theorem ml_X_197 : Cond.methodLink RX10 197 yX4_keep ∈ lw_g := tin4 56 (by rfl) rfl
set_option maxRecDepth 10000 in
theorem ml_X_201 : Cond.methodLink RX10 201 yX0_throwStone ∈ lw_g := tin4 67 (by rfl) rfl
set_option maxRecDepth 10000 in
theorem ml_X_205 : Cond.methodLink RX10 205 yX10_cellName ∈ lw_g := tin4 80 (by rfl) rfl
set_option maxRecDepth 10000 in
theorem ml_X_208 : Cond.methodLink RX10 208 yX0_passDays ∈ lw_g := tin4 87 (by rfl) rfl
set_option maxRecDepth 10000 in
theorem ml_X_212 : Cond.methodLink RX10 212 yX4_bringBack ∈ lw_g := tin4 111 (by rfl) rfl
set_option maxRecDepth 10000 in
theorem ml_X_216 : Cond.methodLink RX10 216 yX0_copyFrom ∈ lw_g := tin4 119 (by rfl) rfl
set_option maxRecDepth 10000 in
theorem ml_X_235 : Cond.methodLink RX10 235 yX0_weighSlippery ∈ lw_g := tin4 132 (by rfl) rfl
set_option maxRecDepth 10000 in
theorem ml_X_239 : Cond.methodLink RX10 239 yX9_find ∈ lw_g := tin4 137 (by rfl) rfl
set_option maxRecDepth 10000 in
theorem ml_X_219 : Cond.methodLink RX10 219 yX10_findWayOver ∈ lw_g := tin4 128 (by rfl) rfl
set_option maxRecDepth 10000 in
theorem ml_X_225 : Cond.methodLink RX10 225 yX9_sum ∈ lw_g := tin4 197 (by rfl) rfl
set_option maxRecDepth 10000 in
theorem ml_X_222 : Cond.methodLink RX10 222 yX9_leaps ∈ lw_g := tin4 193 (by rfl) rfl
set_option maxRecDepth 10000 in
theorem ml_X_254 : Cond.methodLink RX10 254 yX0_weighLack ∈ lw_g := tin4 213 (by rfl) rfl
set_option maxRecDepth 10000 in
theorem ml_X_243 : Cond.methodLink RX10 243 yX10_findLack ∈ lw_g := tin4 209 (by rfl) rfl
set_option maxRecDepth 10000 in
theorem ml_X_257 : Cond.methodLink RX10 257 yX2_settle ∈ lw_g := tin4 229 (by rfl) rfl
set_option maxRecDepth 10000 in
theorem ml_X_246 : Cond.methodLink RX10 246 yX10_findGivers ∈ lw_g := tin4 225 (by rfl) rfl
set_option maxRecDepth 10000 in
theorem ml_X_250 : Cond.methodLink RX10 250 yX2_sum ∈ lw_g := tin5 42 (by rfl) rfl
set_option maxRecDepth 10000 in
theorem ml_X_281 : Cond.methodLink RX10 281 yX0_weighSteps ∈ lw_g := tin5 58 (by rfl) rfl
set_option maxRecDepth 10000 in
theorem ml_X_268 : Cond.methodLink RX10 268 yX9_leadOver ∈ lw_g := tin5 65 (by rfl) rfl
set_option maxRecDepth 10000 in
theorem ml_X_261 : Cond.methodLink RX10 261 yX10_isWayOver ∈ lw_g := tin5 54 (by rfl) rfl
set_option maxRecDepth 10000 in
theorem ml_X_264 : Cond.methodLink RX10 264 yX0_weighWithout ∈ lw_g := tin5 69 (by rfl) rfl
set_option maxRecDepth 10000 in
theorem ml_X_272 : Cond.methodLink RX10 272 yX0_weighAlone ∈ lw_g := tin5 81 (by rfl) rfl
set_option maxRecDepth 10000 in
theorem ml_X_275 : Cond.methodLink RX10 275 yX0_passDay ∈ lw_g := tin5 89 (by rfl) rfl
set_option maxRecDepth 10000 in
theorem ml_X_278 : Cond.methodLink RX10 278 yX6_isLeptAtOnce ∈ lw_g := tin5 94 (by rfl) rfl
set_option maxRecDepth 10000 in
theorem ml_X_284 : Cond.methodLink RX10 284 yX1_most ∈ lw_g := tin5 95 (by rfl) rfl
set_option maxRecDepth 10000 in
theorem ml_X_298 : Cond.methodLink RX10 298 yX10_isKnownOf ∈ lw_g := tin5 152 (by rfl) rfl
set_option maxRecDepth 10000 in
theorem ml_X_295 : Cond.methodLink RX10 295 yX10_isKnownSo ∈ lw_g := tin5 144 (by rfl) rfl
set_option maxRecDepth 10000 in
theorem ml_X_288 : Cond.methodLink RX10 288 yX10_rowsWrongWithout ∈ lw_g := tin5 140 (by rfl) rfl
set_option maxRecDepth 10000 in
theorem ml_X_291 : Cond.methodLink RX10 291 yX10_fitsAt ∈ lw_g := tin5 148 (by rfl) rfl
set_option maxRecDepth 10000 in
theorem ml_M_205 : Cond.methodLink RX11 205 yX11_put ∈ lw_g := tin6 185 (by rfl) rfl
set_option maxRecDepth 10000 in
theorem ml_M_213 : Cond.methodLink RX11 213 yX11_appends ∈ lw_g := tin5 169 (by rfl) rfl
set_option maxRecDepth 10000 in
theorem ml_M_224 : Cond.methodLink RX11 224 yX11_token ∈ lw_g := tin6 205 (by rfl) rfl
set_option maxRecDepth 10000 in
theorem ml_M_220 : Cond.methodLink RX11 220 yX11_byteAt ∈ lw_g := tin6 201 (by rfl) rfl
set_option maxRecDepth 10000 in
theorem ml_M_228 : Cond.methodLink RX11 228 yX11_isLetter ∈ lw_g := tin6 209 (by rfl) rfl
set_option maxRecDepth 10000 in
theorem ml_M_232 : Cond.methodLink RX11 232 yX11_isDigit ∈ lw_g := tin6 212 (by rfl) rfl
set_option maxRecDepth 10000 in
theorem ml_M_235 : Cond.methodLink RX11 235 yX11_sign ∈ lw_g := tin6 215 (by rfl) rfl
set_option maxRecDepth 10000 in
theorem ml_M_254 : Cond.methodLink RX11 254 yX11_fail ∈ lw_g := tin6 231 (by rfl) rfl
set_option maxRecDepth 10000 in
theorem ml_M_257 : Cond.methodLink RX11 257 yX11_is ∈ lw_g := tin6 219 (by rfl) rfl
set_option maxRecDepth 10000 in
theorem ml_M_260 : Cond.methodLink RX11 260 yX11_goesOn ∈ lw_g := tin6 227 (by rfl) rfl
set_option maxRecDepth 10000 in
theorem ml_M_316 : Cond.methodLink RX11 316 yX11_wrong ∈ lw_g := tin6 239 (by rfl) rfl
set_option maxRecDepth 10000 in
theorem ml_M_293 : Cond.methodLink RX11 293 yX11_bounded ∈ lw_g := tin6 235 (by rfl) rfl
set_option maxRecDepth 10000 in
theorem ml_M_297 : Cond.methodLink RX11 297 yX11_must ∈ lw_g := tin7 3 (by rfl) rfl
set_option maxRecDepth 10000 in
theorem ml_M_328 : Cond.methodLink RX11 328 yX11_emit ∈ lw_g := tin7 35 (by rfl) rfl
set_option maxRecDepth 10000 in
theorem ml_M_331 : Cond.methodLink RX11 331 yX11_unit ∈ lw_g := tin7 31 (by rfl) rfl
set_option maxRecDepth 10000 in
theorem ml_M_334 : Cond.methodLink RX11 334 yX11_comesOut ∈ lw_g := tin7 39 (by rfl) rfl
set_option maxRecDepth 10000 in
theorem ml_M_319 : Cond.methodLink RX11 319 yX11_expression ∈ lw_g := tin7 27 (by rfl) rfl
set_option maxRecDepth 10000 in
theorem ml_M_322 : Cond.methodLink RX11 322 yX11_term ∈ lw_g := tin7 43 (by rfl) rfl
set_option maxRecDepth 10000 in
theorem ml_M_300 : Cond.methodLink RX11 300 yX11_roomFor ∈ lw_g := tin7 7 (by rfl) rfl
set_option maxRecDepth 10000 in
theorem ml_M_304 : Cond.methodLink RX11 304 yX11_tellDepth ∈ lw_g := tin7 11 (by rfl) rfl
set_option maxRecDepth 10000 in
theorem ml_M_307 : Cond.methodLink RX11 307 yX11_tellLeaver ∈ lw_g := tin7 15 (by rfl) rfl
set_option maxRecDepth 10000 in
theorem ml_M_310 : Cond.methodLink RX11 310 yX11_tellFlood ∈ lw_g := tin7 19 (by rfl) rfl
set_option maxRecDepth 10000 in
theorem ml_M_313 : Cond.methodLink RX11 313 yX11_tellLaw ∈ lw_g := tin7 23 (by rfl) rfl
set_option maxRecDepth 10000 in
theorem ml_M_263 : Cond.methodLink RX11 263 yX11_cut ∈ lw_g := tin6 197 (by rfl) rfl
set_option maxRecDepth 10000 in
theorem ml_M_191 : Cond.methodLink RX11 191 yX11_plain ∈ lw_g := tin5 162 (by rfl) rfl
set_option maxRecDepth 10000 in
theorem ml_M_284 : Cond.methodLink RX11 284 yX11_tell ∈ lw_g := tin6 223 (by rfl) rfl
set_option maxRecDepth 10000 in
theorem ml_M_199 : Cond.methodLink RX11 199 yX11_begins ∈ lw_g := tin5 173 (by rfl) rfl
set_option maxRecDepth 10000 in
theorem ml_M_342 : Cond.methodLink RX11 342 yX11_counts ∈ lw_g := tin7 66 (by rfl) rfl
set_option maxRecDepth 10000 in
theorem ml_M_345 : Cond.methodLink RX11 345 yX11_in ∈ lw_g := tin7 59 (by rfl) rfl
set_option maxRecDepth 10000 in
theorem ml_M_349 : Cond.methodLink RX11 349 yX11_deep ∈ lw_g := tin7 70 (by rfl) rfl
set_option maxRecDepth 10000 in
theorem ml_M_352 : Cond.methodLink RX11 352 yX11_termOf ∈ lw_g := tin7 82 (by rfl) rfl
set_option maxRecDepth 10000 in
theorem ml_M_355 : Cond.methodLink RX11 355 yX11_leftOf ∈ lw_g := tin7 102 (by rfl) rfl
set_option maxRecDepth 10000 in
theorem ml_M_358 : Cond.methodLink RX11 358 yX11_driftOf ∈ lw_g := tin7 122 (by rfl) rfl
set_option maxRecDepth 10000 in
theorem ml_M_361 : Cond.methodLink RX11 361 yX11_tellsBy ∈ lw_g := tin7 78 (by rfl) rfl
set_option maxRecDepth 10000 in
theorem ml_M_365 : Cond.methodLink RX11 365 yX11_carries ∈ lw_g := tin7 138 (by rfl) rfl
set_option maxRecDepth 10000 in
theorem ml_M_369 : Cond.methodLink RX11 369 yX11_isCell ∈ lw_g := tin7 55 (by rfl) rfl
set_option maxRecDepth 10000 in
theorem ml_M_373 : Cond.methodLink RX11 373 yX11_copies ∈ lw_g := tin7 62 (by rfl) rfl
set_option maxRecDepth 10000 in
theorem ml_M_376 : Cond.methodLink RX11 376 yX11_isStep ∈ lw_g := tin7 74 (by rfl) rfl
set_option maxRecDepth 10000 in
theorem ml_M_379 : Cond.methodLink RX11 379 yX11_ownerAt ∈ lw_g := tin7 86 (by rfl) rfl
set_option maxRecDepth 10000 in
theorem ml_M_382 : Cond.methodLink RX11 382 yX11_isLeaver ∈ lw_g := tin7 98 (by rfl) rfl
set_option maxRecDepth 10000 in
theorem ml_M_385 : Cond.methodLink RX11 385 yX11_mayThrow ∈ lw_g := tin7 106 (by rfl) rfl
set_option maxRecDepth 10000 in
theorem ml_M_388 : Cond.methodLink RX11 388 yX11_canThrow ∈ lw_g := tin7 114 (by rfl) rfl
set_option maxRecDepth 10000 in
theorem ml_M_391 : Cond.methodLink RX11 391 yX11_throwsAt ∈ lw_g := tin7 118 (by rfl) rfl
set_option maxRecDepth 10000 in
theorem ml_M_394 : Cond.methodLink RX11 394 yX11_keeps ∈ lw_g := tin7 126 (by rfl) rfl
set_option maxRecDepth 10000 in
theorem ml_M_397 : Cond.methodLink RX11 397 yX11_dayGoes ∈ lw_g := tin7 134 (by rfl) rfl
set_option maxRecDepth 10000 in
theorem ml_M_401 : Cond.methodLink RX11 401 yX11_ends ∈ lw_g := tin7 160 (by rfl) rfl
set_option maxRecDepth 10000 in
theorem ml_M_404 : Cond.methodLink RX11 404 yX11_leaps ∈ lw_g := tin7 164 (by rfl) rfl
set_option maxRecDepth 10000 in
theorem ml_M_411 : Cond.methodLink RX11 411 yX11_fillsWays ∈ lw_g := tin7 155 (by rfl) rfl
set_option maxRecDepth 10000 in
theorem ml_M_414 : Cond.methodLink RX11 414 yX11_fillsLine ∈ lw_g := tin7 168 (by rfl) rfl
set_option maxRecDepth 10000 in
theorem ml_M_417 : Cond.methodLink RX11 417 yX11_findsOver ∈ lw_g := tin7 150 (by rfl) rfl
set_option maxRecDepth 10000 in
theorem ml_M_420 : Cond.methodLink RX11 420 yX11_findsLack ∈ lw_g := tin7 180 (by rfl) rfl
set_option maxRecDepth 10000 in
theorem ml_M_426 : Cond.methodLink RX11 426 yX11_leastSize ∈ lw_g := tin7 200 (by rfl) rfl
set_option maxRecDepth 10000 in
theorem ml_M_429 : Cond.methodLink RX11 429 yX11_isFit ∈ lw_g := tin7 208 (by rfl) rfl
set_option maxRecDepth 10000 in
theorem ml_M_432 : Cond.methodLink RX11 432 yX11_fillsWants ∈ lw_g := tin7 196 (by rfl) rfl
set_option maxRecDepth 10000 in
theorem ml_M_435 : Cond.methodLink RX11 435 yX11_leastGrief ∈ lw_g := tin7 204 (by rfl) rfl
set_option maxRecDepth 10000 in
theorem ml_M_441 : Cond.methodLink RX11 441 yX11_findsGivers ∈ lw_g := tin7 192 (by rfl) rfl
set_option maxRecDepth 10000 in
theorem ml_M_445 : Cond.methodLink RX11 445 yX11_isOver ∈ lw_g := tin7 224 (by rfl) rfl
set_option maxRecDepth 10000 in
theorem ml_M_448 : Cond.methodLink RX11 448 yX11_isOverBy ∈ lw_g := tin7 220 (by rfl) rfl
set_option maxRecDepth 10000 in
theorem ml_M_454 : Cond.methodLink RX11 454 yX11_finds ∈ lw_g := tin8 4 (by rfl) rfl
set_option maxRecDepth 10000 in
theorem ml_M_463 : Cond.methodLink RX11 463 yX11_findsOut ∈ lw_g := tin8 16 (by rfl) rfl
set_option maxRecDepth 10000 in
theorem ml_M_457 : Cond.methodLink RX11 457 yX11_findsIn ∈ lw_g := tin8 8 (by rfl) rfl
set_option maxRecDepth 10000 in
theorem ml_M_460 : Cond.methodLink RX11 460 yX11_turns ∈ lw_g := tin8 12 (by rfl) rfl
set_option maxRecDepth 10000 in
theorem ml_M_466 : Cond.methodLink RX11 466 yX11_oneMore ∈ lw_g := tin8 0 (by rfl) rfl
set_option maxRecDepth 10000 in
theorem ml_M_469 : Cond.methodLink RX11 469 yX11_isSo ∈ lw_g := tin8 32 (by rfl) rfl
