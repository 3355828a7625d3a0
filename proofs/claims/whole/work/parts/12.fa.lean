def f_B_clear (F : Nat) (r0 : Nat) (I : MI) : Option (MI) :=
  (some (fillA (fillA (fillA (fillA (fillA (fillA (up2 I r0 0 0) (r0 + 1) 96 0) (r0 + 2) 96 (-1)) (r0 + 3) 96 0) (r0 + 4) 72 (-1)) (r0 + 5) 8 0) (r0 + 6) 8 0))
def f_B_copyFrom (F : Nat) (r0 : Nat) (r1 : Nat) (I : MI) : Option (MI) :=
  (some (cpA (cpA (cpA (cpA (cpA (cpA (up2 I r0 0 (I r1 0)) (r1 + 1) (r0 + 1) 96) (r1 + 2) (r0 + 2) 96) (r1 + 3) (r0 + 3) 96) (r1 + 4) (r0 + 4) 72) (r1 + 5) (r0 + 5) 8) (r1 + 6) (r0 + 6) 8))
def f_B_left (F : Nat) (r0 : Nat) (r1 : Nat) (x2 : Int) (I : MI) : Option (Int) :=
  (if 0 ≤ x2 ∧ x2 < 8 then (some (w32 ((I (r1 + 5) (x2).toNat) - (I (r0 + 5) (x2).toNat)))) else none)
def f_B_mayThrow (F : Nat) (r0 : Nat) (r1 : Nat) (x2 : Int) (I : MI) : Option (Int) :=
  ((f_B_left F r0 r1 x2 I).bind fun q1 => (if q1 ≤ 0 then (some 0) else (if 0 ≤ x2 ∧ x2 < 8 then (if (I r0 0) < (I (r1 + 3) (x2).toNat) then (some 0) else (some 1)) else none)))
def f_X_cellNumber (F : Nat) (x0 : Int) (x1 : Int) (I : MI) : Option (Int) :=
  (some (w32 ((w32 (x1 * 12)) + x0)))
def f_B_layOn (F : Nat) (r0 : Nat) (x1 : Int) (x2 : Int) (x3 : Int) (x4 : Int) (x5 : Int) (I : MI) : Option (MI) :=
  (if 0 ≤ x1 ∧ x1 < 96 then (if 0 ≤ x3 ∧ x3 < 72 then (some (up2 (up2 (up2 (up2 I (r0 + 4) (x3).toNat (I (r0 + 2) (x1).toNat)) (r0 + 2) (x1).toNat x2) (r0 + 1) (x1).toNat (w32 (((up2 (up2 I (r0 + 4) (x3).toNat (I (r0 + 2) (x1).toNat)) (r0 + 2) (x1).toNat x2) (r0 + 1) (x1).toNat) + x4))) (r0 + 3) (x1).toNat x5)) else none) else none)
def f_R_drift (F : Nat) (r0 : Nat) (x1 : Int) (x2 : Int) (I : MI) : Option (Int) :=
  (if 0 ≤ x1 ∧ x1 < 8 then (if 0 < (I (r0 + 4) (x1).toNat) then (if 0 ≤ x2 ∧ x2 < 8 then (if ¬ (I (r0 + 4) (x1).toNat) = 0 then (some (div32 (I (r0 + 2) (x2).toNat) (I (r0 + 4) (x1).toNat))) else none) else none) else (some 0)) else none)
def f_R_has (F : Nat) (r0 : Nat) (x1 : Int) (x2 : Int) (I : MI) : Option (Int) :=
  (if x1 < 0 then (some 0) else (if (I r0 0) ≤ x1 then (some 0) else (if x2 < 0 then (some 0) else (if (I r0 1) ≤ x2 then (some 0) else (some 1)))))
def f_B_throwStone (F : Nat) (r0 : Nat) (r1 : Nat) (x2 : Int) (x3 : Int) (x4 : Int) (I : MI) : Option (Int × MI) :=
  ((f_B_left F r0 r1 x2 I).bind fun q1 => (if q1 ≤ 0 then (some ((-2), I)) else (if 0 ≤ x2 ∧ x2 < 8 then (if (I (r0 + 5) (x2).toNat) < 9 then ((f_R_drift F r1 x2 x4 (up2 I (r0 + 5) (x2).toNat (w32 ((I (r0 + 5) (x2).toNat) + 1)))).bind fun q8 => ((f_R_has F r1 (w32 (x3 + q8)) x4 (up2 I (r0 + 5) (x2).toNat (w32 ((I (r0 + 5) (x2).toNat) + 1)))).bind fun q11 => (if ¬ q11 = 0 then ((f_X_cellNumber F (w32 (x3 + q8)) x4 (up2 I (r0 + 5) (x2).toNat (w32 ((I (r0 + 5) (x2).toNat) + 1)))).bind fun q15 => ((f_B_layOn F r0 q15 (w32 ((w32 (x2 * 9)) + (I (r0 + 5) (x2).toNat))) (w32 ((w32 (x2 * 9)) + (I (r0 + 5) (x2).toNat))) 1 ((up2 I (r0 + 5) (x2).toNat (w32 ((I (r0 + 5) (x2).toNat) + 1))) r0 0) (up2 I (r0 + 5) (x2).toNat (w32 ((I (r0 + 5) (x2).toNat) + 1)))).bind fun q19 => (some (q15, q19)))) else (some ((-2), (up2 (up2 I (r0 + 5) (x2).toNat (w32 ((I (r0 + 5) (x2).toNat) + 1))) (r0 + 6) (x2).toNat (w32 (((up2 I (r0 + 5) (x2).toNat (w32 ((I (r0 + 5) (x2).toNat) + 1))) (r0 + 6) (x2).toNat) + 1)))))))) else (some ((-2), I))) else none)))
def f_B_lose_L5 (F : Nat) (r0 : Nat) (x2 : Int) (x3 : Int) (x4 : Int) (I : MI) : Option ((MI) ⊕ (Int × Int × MI)) :=
  (if x2 ≤ x4 then (some (.inl I)) else (if x3 < 0 then (some (.inl I)) else (if 0 ≤ (div32 x3 9) ∧ (div32 x3 9) < 8 then (if 0 ≤ x3 ∧ x3 < 72 then (some (.inr (((up2 I (r0 + 6) ((div32 x3 9)).toNat (w32 ((I (r0 + 6) ((div32 x3 9)).toNat) + 1))) (r0 + 4) (x3).toNat), (w32 (x4 + 1)), (up2 I (r0 + 6) ((div32 x3 9)).toNat (w32 ((I (r0 + 6) ((div32 x3 9)).toNat) + 1)))))) else none) else none)))
def f_B_lose (F : Nat) (r0 : Nat) (x1 : Int) (x2 : Int) (I : MI) : Option (MI) :=
  ((iter (fun s : Int × Int × MI => f_B_lose_L5 F r0 x2 s.1 s.2.1 s.2.2) F (x1, 0, I)).bind fun e7 => (some e7))
def f_B_carryOff_L15 (F : Nat) (r0 : Nat) (x1 : Int) (x2 : Int) (x3 : Int) (x4 : Int) (x5 : Int) (x6 : Int) (I : MI) : Option ((Int) ⊕ (Int × Int)) :=
  (if x2 ≤ x6 then (some (.inl x5)) else (if x5 < 0 then (some (.inl x5)) else (if 0 ≤ x5 ∧ x5 < 72 then (some (.inr ((I (r0 + 4) (x5).toNat), (w32 (x6 + 1))))) else none)))
def f_B_carryOff (F : Nat) (r0 : Nat) (x1 : Int) (x2 : Int) (x3 : Int) (I : MI) : Option (MI) :=
  (if 0 ≤ x1 ∧ x1 < 96 then ((iter (fun s : Int × Int => f_B_carryOff_L15 F r0 x1 x2 x3 (I (r0 + 2) (x1).toNat) s.1 s.2 I) F ((I (r0 + 2) (x1).toNat), 1)).bind fun e7 => (if 0 ≤ e7 then (if 0 ≤ e7 ∧ e7 < 72 then (if 0 ≤ x1 ∧ x1 < 96 then (if ¬ x3 = (-2) then ((f_B_layOn F r0 x3 (I (r0 + 2) (x1).toNat) e7 x2 (w32 (((up2 (up2 (up2 I (r0 + 2) (x1).toNat (I (r0 + 4) (e7).toNat)) (r0 + 1) (x1).toNat (w32 (((up2 I (r0 + 2) (x1).toNat (I (r0 + 4) (e7).toNat)) (r0 + 1) (x1).toNat) - x2))) (r0 + 3) (x1).toNat (w32 (((up2 (up2 I (r0 + 2) (x1).toNat (I (r0 + 4) (e7).toNat)) (r0 + 1) (x1).toNat (w32 (((up2 I (r0 + 2) (x1).toNat (I (r0 + 4) (e7).toNat)) (r0 + 1) (x1).toNat) - x2))) r0 0) + 1))) r0 0) + 1)) (up2 (up2 (up2 I (r0 + 2) (x1).toNat (I (r0 + 4) (e7).toNat)) (r0 + 1) (x1).toNat (w32 (((up2 I (r0 + 2) (x1).toNat (I (r0 + 4) (e7).toNat)) (r0 + 1) (x1).toNat) - x2))) (r0 + 3) (x1).toNat (w32 (((up2 (up2 I (r0 + 2) (x1).toNat (I (r0 + 4) (e7).toNat)) (r0 + 1) (x1).toNat (w32 (((up2 I (r0 + 2) (x1).toNat (I (r0 + 4) (e7).toNat)) (r0 + 1) (x1).toNat) - x2))) r0 0) + 1)))).bind fun q17 => (some q17)) else ((f_B_lose F r0 (I (r0 + 2) (x1).toNat) x2 (up2 (up2 (up2 I (r0 + 2) (x1).toNat (I (r0 + 4) (e7).toNat)) (r0 + 1) (x1).toNat (w32 (((up2 I (r0 + 2) (x1).toNat (I (r0 + 4) (e7).toNat)) (r0 + 1) (x1).toNat) - x2))) (r0 + 3) (x1).toNat (w32 (((up2 (up2 I (r0 + 2) (x1).toNat (I (r0 + 4) (e7).toNat)) (r0 + 1) (x1).toNat (w32 (((up2 I (r0 + 2) (x1).toNat (I (r0 + 4) (e7).toNat)) (r0 + 1) (x1).toNat) - x2))) r0 0) + 1)))).bind fun q20 => (some q20))) else none) else none) else (some I))) else none)
def f_B_mossOn (F : Nat) (r0 : Nat) (x1 : Int) (x2 : Int) (I : MI) : Option (Int) :=
  (if 0 ≤ x1 ∧ x1 < 96 then (if ¬ (I (r0 + 1) (x1).toNat) = 0 then (some (min 99 (w32 (x2 - (I (r0 + 3) (x1).toNat))))) else (some 0)) else none)
def f_W_joined (F : Nat) (x0 : Int) (x1 : Int) (x2 : Int) (I : MI) : Option (Int) :=
  (if x0 = 2 then (some (w32 (x1 + x2))) else (if x0 = 3 then (some (w32 (x1 - x2))) else (if x0 = 4 then (some (w32 (x1 * x2))) else (if ¬ x2 = 0 then (if ¬ x2 = 0 then (some (div32 x1 x2)) else none) else (some 0)))))
def f_W_seenAt (F : Nat) (r0 : Nat) (x1 : Int) (I : MI) : Option (Int) :=
  (if x1 < 0 then (some 0) else (if 6 ≤ x1 then (some 0) else (if 0 ≤ x1 ∧ x1 < 6 then (some (I (r0 + 4) (x1).toNat)) else none)))
def f_W_tells_b161in54 (F : Nat) (r0 : Nat) (x7 : Int) (x8 : Int) (x9 : Int) (s1 : Int) (s2 : Int) (I : MI) : Option (((Int × MI) ⊕ ((MI) ⊕ ((MI) ⊕ ((MI) ⊕ (MI))))) ⊕ (Int × Int × Int × MI)) :=
  (if 0 ≤ s1 ∧ s1 < 32 then (some (.inr ((w32 (x7 + 1)), x8, (w32 (x9 + 1)), (up2 I (r0 + 3) (s1).toNat s2)))) else none)
def f_W_tells_b130in54 (F : Nat) (r0 : Nat) (x7 : Int) (x8 : Int) (x9 : Int) (x10 : Int) (x11 : Int) (I : MI) : Option (((Int × MI) ⊕ ((MI) ⊕ ((MI) ⊕ ((MI) ⊕ (MI))))) ⊕ (Int × Int × Int × MI)) :=
  (if x7 < 32 then (if ¬ x10 = 0 then ((f_W_seenAt F r0 x11 I).bind fun q9 => (f_W_tells_b161in54 F r0 x7 x8 x9 x7 q9 I)) else (f_W_tells_b161in54 F r0 x7 x8 x9 x7 x11 I)) else (some (.inl (.inr (.inl I)))))
def f_W_tells_b211in54 (F : Nat) (r0 : Nat) (x7 : Int) (x8 : Int) (x9 : Int) (x10 : Int) (x11 : Int) (x12 : Int) (x13 : Int) (I : MI) : Option (((Int × MI) ⊕ ((MI) ⊕ ((MI) ⊕ ((MI) ⊕ (MI))))) ⊕ (Int × Int × Int × MI)) :=
  (if ¬ x10 = 6 then ((f_W_joined F x10 x12 x13 I).bind fun q19 => (if 0 ≤ (w32 (x7 + (-2))) ∧ (w32 (x7 + (-2))) < 32 then (some (.inr ((w32 ((w32 (x7 + (-2))) + 1)), x8, (w32 (x9 + 1)), (up2 I (r0 + 3) ((w32 (x7 + (-2)))).toNat q19)))) else none)) else (if x12 < x13 then (some (.inr ((w32 (x7 + (-2))), x8, (w32 (x9 + 1)), I))) else (some (.inr ((w32 (x7 + (-2))), x11, (w32 (x9 + 1)), I)))))
def f_W_tells_L54 (F : Nat) (r0 : Nat) (x7 : Int) (x8 : Int) (x9 : Int) (I : MI) : Option (((Int × MI) ⊕ ((MI) ⊕ ((MI) ⊕ ((MI) ⊕ (MI))))) ⊕ (Int × Int × Int × MI)) :=
  (if (I r0 4) ≤ x9 then (some (.inl (.inr (.inr (.inr (.inr I)))))) else (if (I r0 4) ≤ x8 then (some (.inl (.inr (.inr (.inr (.inr I)))))) else (if 0 ≤ x8 ∧ x8 < 402 then (if ¬ (I (r0 + 1) (x8).toNat) = 7 then (if (I (r0 + 1) (x8).toNat) = 0 then (f_W_tells_b130in54 F r0 x7 (w32 (x8 + 1)) x9 (I (r0 + 1) (x8).toNat) (I (r0 + 2) (x8).toNat) I) else (if ¬ (I (r0 + 1) (x8).toNat) = 1 then (if 2 ≤ x7 then (if 0 ≤ (w32 (x7 - 2)) ∧ (w32 (x7 - 2)) < 32 then (if 0 ≤ (w32 (x7 - 1)) ∧ (w32 (x7 - 1)) < 32 then (if ¬ (I (r0 + 1) (x8).toNat) = 5 then (f_W_tells_b211in54 F r0 x7 (w32 (x8 + 1)) x9 (I (r0 + 1) (x8).toNat) (I (r0 + 2) (x8).toNat) (I (r0 + 3) ((w32 (x7 - 2))).toNat) (I (r0 + 3) ((w32 (x7 - 1))).toNat) I) else (if ¬ (I (r0 + 3) ((w32 (x7 - 1))).toNat) = 0 then (f_W_tells_b211in54 F r0 x7 (w32 (x8 + 1)) x9 (I (r0 + 1) (x8).toNat) (I (r0 + 2) (x8).toNat) (I (r0 + 3) ((w32 (x7 - 2))).toNat) (I (r0 + 3) ((w32 (x7 - 1))).toNat) I) else (some (.inl (.inr (.inr (.inr (.inl I)))))))) else none) else none) else (some (.inl (.inr (.inr (.inl I)))))) else (f_W_tells_b130in54 F r0 x7 (w32 (x8 + 1)) x9 (I (r0 + 1) (x8).toNat) (I (r0 + 2) (x8).toNat) I))) else (some (.inl (.inl (x7, I))))) else none)))
def f_W_tells (F : Nat) (r0 : Nat) (x1 : Int) (x2 : Int) (x3 : Int) (x4 : Int) (x5 : Int) (x6 : Int) (I : MI) : Option (Int × MI) :=
  ((iter (fun s : Int × Int × Int × MI => f_W_tells_L54 F r0 s.1 s.2.1 s.2.2.1 s.2.2.2) F (0, 0, 0, (up2 (up2 (up2 (up2 (up2 (up2 I (r0 + 4) 0 x1) (r0 + 4) 1 x2) (r0 + 4) 2 x3) (r0 + 4) 3 x4) (r0 + 4) 4 x5) (r0 + 4) 5 x6))).bind fun e25 => (match e25 with | .inl e27 => (if e27.1 ≤ 0 then (some (0, e27.2)) else (if 0 ≤ (w32 (e27.1 - 1)) ∧ (w32 (e27.1 - 1)) < 32 then (some ((e27.2 (r0 + 3) ((w32 (e27.1 - 1))).toNat), e27.2)) else none)) | .inr o28 => (match o28 with | .inl e33 => (some (0, e33)) | .inr o34 => (match o34 with | .inl e36 => (some (0, e36)) | .inr o37 => (match o37 with | .inl e39 => (some (0, e39)) | .inr o40 => (some (0, o40)))))))
def f_B_floodRow_b120in8 (F : Nat) (r0 : Nat) (r1 : Nat) (x2 : Int) (x3 : Int) (x4 : Int) (q0 : Nat) (s1 : Int) (s2 : Int) (s3 : Int) (I : MI) : Option ((MI) ⊕ (Int × MI)) :=
  ((f_B_carryOff F q0 s1 s2 s3 I).bind fun q20 => (some (.inr ((w32 (x4 + (-1))), q20))))
def f_B_floodRow_L8 (F : Nat) (r0 : Nat) (r1 : Nat) (x2 : Int) (x3 : Int) (x4 : Int) (I : MI) : Option ((MI) ⊕ (Int × MI)) :=
  (if x4 < 0 then (some (.inl I)) else ((f_X_cellNumber F x4 x3 I).bind fun q3 => (if 0 ≤ q3 ∧ q3 < 96 then (if ¬ (I (r0 + 1) (q3).toNat) = 0 then ((f_B_mossOn F r0 q3 (w32 ((I r0 0) + 1)) I).bind fun q9 => ((f_W_tells F (r1 + 9) (I (r0 + 1) (q3).toNat) (I (r1 + 1) (q3).toNat) x2 q9 x3 x4 I).bind fun q12 => (if (max 0 (min q12.1 (I (r0 + 1) (q3).toNat))) ≤ 0 then (some (.inr ((w32 (x4 + (-1))), q12.2))) else ((f_R_has F r1 (w32 (x4 + x2)) x3 q12.2).bind fun q16 => (if q16 = 0 then (f_B_floodRow_b120in8 F r0 r1 x2 x3 x4 r0 q3 (max 0 (min q12.1 (I (r0 + 1) (q3).toNat))) (-2) q12.2) else (f_B_floodRow_b120in8 F r0 r1 x2 x3 x4 r0 q3 (max 0 (min q12.1 (I (r0 + 1) (q3).toNat))) (w32 (q3 + x2)) q12.2)))))) else (some (.inr ((w32 (x4 + (-1))), I)))) else none)))
def f_B_floodRow (F : Nat) (r0 : Nat) (r1 : Nat) (x2 : Int) (x3 : Int) (I : MI) : Option (MI) :=
  ((iter (fun s : Int × MI => f_B_floodRow_L8 F r0 r1 x2 x3 s.1 s.2) F ((w32 ((I r1 0) - 1)), I)).bind fun e23 => (some e23))
def f_B_passDay_L42 (F : Nat) (r0 : Nat) (r1 : Nat) (x2 : Int) (x3 : Int) (x5 : Int) (x6 : Int) (I : MI) : Option ((MI) ⊕ (Int × MI)) :=
  (if x3 ≤ x6 then (some (.inl I)) else (if 0 ≤ x5 ∧ x5 < 8 then ((f_B_floodRow F r0 r1 (I (r1 + 8) (x5).toNat) x6 I).bind fun q9 => (some (.inr ((w32 (x6 + 1)), q9)))) else none))
def f_B_passDay_L6 (F : Nat) (r0 : Nat) (r1 : Nat) (x2 : Int) (x3 : Int) (x4 : Int) (x5 : Int) (I : MI) : Option ((Int × MI) ⊕ (Int × Int × MI)) :=
  (if (I r1 10) ≤ x5 then (some (.inl (x4, I))) else (if 8 ≤ x5 then (some (.inl (x4, I))) else (if 0 ≤ x5 ∧ x5 < 8 then (if (I (r1 + 7) (x5).toNat) = (I r0 0) then ((iter (fun s : Int × MI => f_B_passDay_L42 F r0 r1 x2 x3 x5 s.1 s.2) F (x2, I)).bind fun e12 => (some (.inr (1, (w32 (x5 + 1)), e12)))) else (some (.inr (x4, (w32 (x5 + 1)), I)))) else none)))
def f_B_passDay (F : Nat) (r0 : Nat) (r1 : Nat) (x2 : Int) (x3 : Int) (I : MI) : Option (Int × MI) :=
  ((iter (fun s : Int × Int × MI => f_B_passDay_L6 F r0 r1 x2 x3 s.1 s.2.1 s.2.2) F (0, 0, I)).bind fun e15 => (some (e15.1, (up2 e15.2 r0 0 (w32 ((e15.2 r0 0) + 1))))))
def f_B_passDays_L3 (F : Nat) (r0 : Nat) (r1 : Nat) (x2 : Int) (x3 : Int) (x4 : Int) (x5 : Int) (I : MI) : Option ((MI) ⊕ (Int × MI)) :=
  (if x2 ≤ x5 then (some (.inl I)) else (if 100 ≤ x5 then (some (.inl I)) else ((f_B_passDay F r0 r1 x3 x4 I).bind fun q3 => (some (.inr ((w32 (x5 + 1)), q3.2))))))
def f_B_passDays (F : Nat) (r0 : Nat) (r1 : Nat) (x2 : Int) (x3 : Int) (x4 : Int) (I : MI) : Option (MI) :=
  ((iter (fun s : Int × MI => f_B_passDays_L3 F r0 r1 x2 x3 x4 s.1 s.2) F (0, I)).bind fun e6 => (some e6))
def f_B_mossAt (F : Nat) (r0 : Nat) (x1 : Int) (I : MI) : Option (Int) :=
  ((f_B_mossOn F r0 x1 (I r0 0) I).bind fun q2 => (some q2))
def f_B_isStep (F : Nat) (r0 : Nat) (r1 : Nat) (x2 : Int) (I : MI) : Option (Int) :=
  (if 0 ≤ x2 ∧ x2 < 96 then (if (I (r0 + 1) (x2).toNat) < (I (r1 + 1) (x2).toNat) then (some 0) else (some 1)) else none)
def f_B_slippery (F : Nat) (r0 : Nat) (r1 : Nat) (x2 : Int) (I : MI) : Option (Int × MI) :=
  (if 0 ≤ x2 ∧ x2 < 96 then ((f_B_mossAt F r0 x2 I).bind fun q3 => ((f_W_tells F (r1 + 14) (I (r0 + 1) (x2).toNat) (I (r1 + 1) (x2).toNat) 0 q3 (div32 x2 12) (rem32 x2 12) I).bind fun q6 => (some ((max 0 (min q6.1 100)), q6.2)))) else none)
def f_B_ownerAt_L17 (F : Nat) (r0 : Nat) (x2 : Int) (x3 : Int) (x4 : Int) (I : MI) : Option ((Int) ⊕ (Int × Int)) :=
  (if x4 ≤ x2 then (some (.inl x3)) else (if x3 < 0 then (some (.inl x3)) else (if 0 ≤ x3 ∧ x3 < 72 then (some (.inr ((I (r0 + 4) (x3).toNat), (w32 (x4 + (-1)))))) else none)))
def f_B_ownerAt (F : Nat) (r0 : Nat) (x1 : Int) (x2 : Int) (I : MI) : Option (Int) :=
  (if 0 ≤ x1 ∧ x1 < 96 then ((iter (fun s : Int × Int => f_B_ownerAt_L17 F r0 x2 s.1 s.2 I) F ((I (r0 + 2) (x1).toNat), (w32 ((I (r0 + 1) (x1).toNat) - 1)))).bind fun e7 => (if 0 ≤ e7 then (some (div32 e7 9)) else (some (-1)))) else none)
def f_B_countOf_b41in13 (F : Nat) (r0 : Nat) (x1 : Int) (x2 : Int) (x3 : Int) (x4 : Int) (x5 : Int) (I : MI) : Option ((Int) ⊕ (Int × Int × Int)) :=
  (if 0 ≤ x4 ∧ x4 < 72 then (some (.inr (x3, (I (r0 + 4) (x4).toNat), (w32 (x5 + 1))))) else none)
def f_B_countOf_L13 (F : Nat) (r0 : Nat) (x1 : Int) (x2 : Int) (x3 : Int) (x4 : Int) (x5 : Int) (I : MI) : Option ((Int) ⊕ (Int × Int × Int)) :=
  (if 0 ≤ x2 ∧ x2 < 96 then (if (I (r0 + 1) (x2).toNat) ≤ x5 then (some (.inl x3)) else (if x4 < 0 then (some (.inl x3)) else (if ¬ (div32 x4 9) = x1 then (f_B_countOf_b41in13 F r0 x1 x2 x3 x4 x5 I) else (f_B_countOf_b41in13 F r0 x1 x2 (w32 (x3 + 1)) x4 x5 I)))) else none)
def f_B_countOf (F : Nat) (r0 : Nat) (x1 : Int) (x2 : Int) (I : MI) : Option (Int) :=
  (if 0 ≤ x2 ∧ x2 < 96 then ((iter (fun s : Int × Int × Int => f_B_countOf_L13 F r0 x1 x2 s.1 s.2.1 s.2.2 I) F (0, (I (r0 + 2) (x2).toNat), 0)).bind fun e10 => (some e10)) else none)
def f_B_countLying_L4 (F : Nat) (r0 : Nat) (x1 : Int) (x2 : Int) (I : MI) : Option ((Int) ⊕ (Int × Int)) :=
  (if 8 ≤ x2 then (some (.inl x1)) else (if 0 ≤ x2 ∧ x2 < 8 then (some (.inr ((w32 (x1 + (w32 ((I (r0 + 5) (x2).toNat) - (I (r0 + 6) (x2).toNat))))), (w32 (x2 + 1))))) else none))
def f_B_countLying (F : Nat) (r0 : Nat) (I : MI) : Option (Int) :=
  ((iter (fun s : Int × Int => f_B_countLying_L4 F r0 s.1 s.2 I) F (0, 0)).bind fun e4 => (some e4))
def f_B_countLost_L4 (F : Nat) (r0 : Nat) (x1 : Int) (x2 : Int) (I : MI) : Option ((Int) ⊕ (Int × Int)) :=
  (if 8 ≤ x2 then (some (.inl x1)) else (if 0 ≤ x2 ∧ x2 < 8 then (some (.inr ((w32 (x1 + (I (r0 + 6) (x2).toNat))), (w32 (x2 + 1))))) else none))
def f_B_countLost (F : Nat) (r0 : Nat) (I : MI) : Option (Int) :=
  ((iter (fun s : Int × Int => f_B_countLost_L4 F r0 s.1 s.2 I) F (0, 0)).bind fun e4 => (some e4))
def f_B_countSteps_L4 (F : Nat) (r0 : Nat) (r1 : Nat) (x2 : Int) (x3 : Int) (I : MI) : Option ((Int) ⊕ (Int × Int)) :=
  (if 96 ≤ x3 then (some (.inl x2)) else ((f_R_has F r1 (rem32 x3 12) (div32 x3 12) I).bind fun q2 => (if q2 = 0 then (some (.inr (x2, (w32 (x3 + 1))))) else ((f_B_isStep F r0 r1 x3 I).bind fun q6 => (if q6 = 0 then (some (.inr (x2, (w32 (x3 + 1))))) else (some (.inr ((w32 (x2 + 1)), (w32 (x3 + 1))))))))))
def f_B_countSteps (F : Nat) (r0 : Nat) (r1 : Nat) (I : MI) : Option (Int) :=
  ((iter (fun s : Int × Int => f_B_countSteps_L4 F r0 r1 s.1 s.2 I) F (0, 0)).bind fun e10 => (some e10))
def f_B_weighSlippery_b56in2 (F : Nat) (r0 : Nat) (r1 : Nat) (x3 : Int) (s1 : Int) (s2 : Int) (I : MI) : Option ((MI) ⊕ (Int × MI)) :=
  (if 0 ≤ s1 ∧ s1 < 96 then (some (.inr ((w32 (x3 + 1)), (up2 I 245 (s1).toNat s2)))) else none)
def f_B_weighSlippery_b37in2 (F : Nat) (r0 : Nat) (r1 : Nat) (x3 : Int) (s0 : Int) (I : MI) : Option ((MI) ⊕ (Int × MI)) :=
  (if s0 = 0 then (f_B_weighSlippery_b56in2 F r0 r1 x3 x3 (-1) I) else ((f_B_slippery F r0 r1 x3 I).bind fun q8 => (f_B_weighSlippery_b56in2 F r0 r1 x3 x3 q8.1 q8.2)))
def f_B_weighSlippery_b36in2 (F : Nat) (r0 : Nat) (r1 : Nat) (x3 : Int) (I : MI) : Option ((MI) ⊕ (Int × MI)) :=
  (f_B_weighSlippery_b37in2 F r0 r1 x3 0 I)
def f_B_weighSlippery_L2 (F : Nat) (r0 : Nat) (r1 : Nat) (x3 : Int) (I : MI) : Option ((MI) ⊕ (Int × MI)) :=
  (if 96 ≤ x3 then (some (.inl I)) else ((f_R_has F r1 (rem32 x3 12) (div32 x3 12) I).bind fun q2 => (if q2 = 0 then (f_B_weighSlippery_b36in2 F r0 r1 x3 I) else ((f_B_isStep F r0 r1 x3 I).bind fun q11 => (if q11 = 0 then (f_B_weighSlippery_b36in2 F r0 r1 x3 I) else (f_B_weighSlippery_b37in2 F r0 r1 x3 1 I))))))
def f_B_weighSlippery (F : Nat) (r0 : Nat) (r1 : Nat) (I : MI) : Option (MI) :=
  ((iter (fun s : Int × MI => f_B_weighSlippery_L2 F r0 r1 s.1 s.2) F (0, I)).bind fun e15 => (some e15))
def f_B_weighLack_b50in2 (F : Nat) (r0 : Nat) (r1 : Nat) (x3 : Int) (s1 : Int) (s2 : Int) (I : MI) : Option ((MI) ⊕ (Int × MI)) :=
  (if 0 ≤ s1 ∧ s1 < 96 then (some (.inr ((w32 (x3 + 1)), (up2 I 245 (s1).toNat s2)))) else none)
def f_B_weighLack_L2 (F : Nat) (r0 : Nat) (r1 : Nat) (x3 : Int) (I : MI) : Option ((MI) ⊕ (Int × MI)) :=
  (if 96 ≤ x3 then (some (.inl I)) else ((f_R_has F r1 (rem32 x3 12) (div32 x3 12) I).bind fun q2 => (if q2 = 0 then (f_B_weighLack_b50in2 F r0 r1 x3 x3 (-1) I) else (if 0 ≤ x3 ∧ x3 < 96 then (f_B_weighLack_b50in2 F r0 r1 x3 x3 (max 0 (w32 ((I (r1 + 1) (x3).toNat) - (I (r0 + 1) (x3).toNat)))) I) else none))))
def f_B_weighLack (F : Nat) (r0 : Nat) (r1 : Nat) (I : MI) : Option (MI) :=
  ((iter (fun s : Int × MI => f_B_weighLack_L2 F r0 r1 s.1 s.2) F (0, I)).bind fun e9 => (some e9))
def f_B_weighHeight_b44 (F : Nat) (s1 : Int) (s2 : Int) (I : MI) : Option (MI) :=
  (if 0 ≤ s1 ∧ s1 < 96 then (some (up2 I 245 (s1).toNat s2)) else none)
def f_B_weighHeight_b30 (F : Nat) (x1 : Int) (s0 : Int) (I : MI) : Option (MI) :=
  (if s0 = 0 then (f_B_weighHeight_b44 F x1 (-1) I) else (f_B_weighHeight_b44 F x1 0 I))
def f_B_weighHeight_b29 (F : Nat) (x1 : Int) (I : MI) : Option (MI) :=
  (f_B_weighHeight_b30 F x1 0 I)
def f_B_weighHeight (F : Nat) (r0 : Nat) (x1 : Int) (x2 : Int) (I : MI) : Option (MI) :=
  ((f_R_has F r0 (rem32 x1 12) (div32 x1 12) I).bind fun q1 => (if q1 = 0 then (f_B_weighHeight_b29 F x1 I) else (if 0 ≤ x1 ∧ x1 < 96 then (if x2 < (I (r0 + 1) (x1).toNat) then (f_B_weighHeight_b29 F x1 I) else (f_B_weighHeight_b30 F x1 1 I)) else none)))
def f_B_weighSteps_L2 (F : Nat) (r0 : Nat) (r1 : Nat) (x3 : Int) (I : MI) : Option ((MI) ⊕ (Int × MI)) :=
  (if 96 ≤ x3 then (some (.inl I)) else (if 0 ≤ x3 ∧ x3 < 96 then ((f_B_weighHeight F r1 x3 (I (r0 + 1) (x3).toNat) I).bind fun q4 => (some (.inr ((w32 (x3 + 1)), q4)))) else none))
def f_B_weighSteps (F : Nat) (r0 : Nat) (r1 : Nat) (I : MI) : Option (MI) :=
  ((iter (fun s : Int × MI => f_B_weighSteps_L2 F r0 r1 s.1 s.2) F (0, I)).bind fun e7 => (some e7))
def f_B_weighWithout_L3 (F : Nat) (r0 : Nat) (r1 : Nat) (x2 : Int) (x4 : Int) (I : MI) : Option ((MI) ⊕ (Int × MI)) :=
  (if 96 ≤ x4 then (some (.inl I)) else (if 0 ≤ x4 ∧ x4 < 96 then ((f_B_countOf F r0 x2 x4 I).bind fun q4 => ((f_B_weighHeight F r1 x4 (w32 ((I (r0 + 1) (x4).toNat) - q4)) I).bind fun q7 => (some (.inr ((w32 (x4 + 1)), q7))))) else none))
def f_B_weighWithout (F : Nat) (r0 : Nat) (r1 : Nat) (x2 : Int) (I : MI) : Option (MI) :=
  ((iter (fun s : Int × MI => f_B_weighWithout_L3 F r0 r1 x2 s.1 s.2) F (0, I)).bind fun e10 => (some e10))
def f_B_weighAlone_L3 (F : Nat) (r0 : Nat) (r1 : Nat) (x2 : Int) (x4 : Int) (I : MI) : Option ((MI) ⊕ (Int × MI)) :=
  (if 96 ≤ x4 then (some (.inl I)) else ((f_B_countOf F r0 x2 x4 I).bind fun q2 => ((f_B_weighHeight F r1 x4 q2 I).bind fun q5 => (some (.inr ((w32 (x4 + 1)), q5))))))
def f_B_weighAlone (F : Nat) (r0 : Nat) (r1 : Nat) (x2 : Int) (I : MI) : Option (MI) :=
  ((iter (fun s : Int × MI => f_B_weighAlone_L3 F r0 r1 x2 s.1 s.2) F (0, I)).bind fun e8 => (some e8))
def f_R_countLeaps (F : Nat) (r0 : Nat) (I : MI) : Option (Int) :=
  (some (min (w32 ((w32 (2 * (I r0 2))) * (w32 ((I r0 2) + 1)))) 40))
def f_R_leapFrom (F : Nat) (r0 : Nat) (x1 : Int) (x2 : Int) (I : MI) : Option (Int) :=
  (if 0 ≤ x2 ∧ x2 < 40 then ((f_R_has F r0 (w32 ((rem32 x1 12) + (LX (x2).toNat))) (w32 ((div32 x1 12) + (LY (x2).toNat))) I).bind fun q2 => (if q2 = 0 then (some (-1)) else ((f_X_cellNumber F (w32 ((rem32 x1 12) + (LX (x2).toNat))) (w32 ((div32 x1 12) + (LY (x2).toNat))) I).bind fun q6 => (some q6)))) else none)
def f_R_isFarEnough (F : Nat) (r0 : Nat) (x1 : Int) (I : MI) : Option (Int) :=
  (if (I r0 2) < (w32 ((I r0 1) - (div32 x1 12))) then (some 0) else (some 1))
def f_R_isNearEnough (F : Nat) (r0 : Nat) (x1 : Int) (I : MI) : Option (Int) :=
  (if (I r0 2) < (w32 ((div32 x1 12) + 1)) then (some 0) else (some 1))
def f_W_clear (F : Nat) (r0 : Nat) (I : MI) : Option (MI) :=
  (some (up2 I r0 4 0))
def f_W_put (F : Nat) (r0 : Nat) (x1 : Int) (x2 : Int) (I : MI) : Option (Int × MI) :=
  (if (I r0 4) < 402 then (if 0 ≤ (I r0 4) ∧ (I r0 4) < 402 then (if 0 ≤ ((up2 I (r0 + 1) ((I r0 4)).toNat x1) r0 4) ∧ ((up2 I (r0 + 1) ((I r0 4)).toNat x1) r0 4) < 402 then (some ((w32 (((up2 (up2 (up2 I (r0 + 1) ((I r0 4)).toNat x1) (r0 + 2) (((up2 I (r0 + 1) ((I r0 4)).toNat x1) r0 4)).toNat x2) r0 4 (w32 (((up2 (up2 I (r0 + 1) ((I r0 4)).toNat x1) (r0 + 2) (((up2 I (r0 + 1) ((I r0 4)).toNat x1) r0 4)).toNat x2) r0 4) + 1))) r0 4) - 1)), (up2 (up2 (up2 I (r0 + 1) ((I r0 4)).toNat x1) (r0 + 2) (((up2 I (r0 + 1) ((I r0 4)).toNat x1) r0 4)).toNat x2) r0 4 (w32 (((up2 (up2 I (r0 + 1) ((I r0 4)).toNat x1) (r0 + 2) (((up2 I (r0 + 1) ((I r0 4)).toNat x1) r0 4)).toNat x2) r0 4) + 1))))) else none) else none) else (some (0, I)))
def f_W_aimAtEnd (F : Nat) (r0 : Nat) (x1 : Int) (I : MI) : Option (MI) :=
  (if x1 < 0 then (some I) else (if (I r0 4) ≤ x1 then (some I) else (if 0 ≤ x1 ∧ x1 < 402 then (some (up2 I (r0 + 2) (x1).toNat (I r0 4))) else none)))
def f_P_clear (F : Nat) (I : MI) : Option (MI) :=
  (some (up2 I 63 2 0))
def f_P_keep (F : Nat) (r1 : Nat) (I : MI) : Option (MI) :=
  (if 0 ≤ (I 63 1) ∧ (I 63 1) < 25 then ((f_B_copyFrom F (65 + 7 * ((I 63 1)).toNat) r1 I).bind fun q3 => (if 25 ≤ ((up2 q3 63 1 (rem32 (w32 ((q3 63 1) + 1)) 25)) 63 2) then (some (up2 q3 63 1 (rem32 (w32 ((q3 63 1) + 1)) 25))) else (some (up2 (up2 q3 63 1 (rem32 (w32 ((q3 63 1) + 1)) 25)) 63 2 (w32 (((up2 q3 63 1 (rem32 (w32 ((q3 63 1) + 1)) 25)) 63 2) + 1)))))) else none)
def f_P_bringBack (F : Nat) (r1 : Nat) (I : MI) : Option (Int × MI) :=
  (if ¬ (I 63 2) = 0 then (if 0 ≤ ((up2 (up2 I 63 1 (rem32 (w32 ((w32 ((I 63 1) + 25)) - 1)) 25)) 63 2 (w32 (((up2 I 63 1 (rem32 (w32 ((w32 ((I 63 1) + 25)) - 1)) 25)) 63 2) - 1))) 63 1) ∧ ((up2 (up2 I 63 1 (rem32 (w32 ((w32 ((I 63 1) + 25)) - 1)) 25)) 63 2 (w32 (((up2 I 63 1 (rem32 (w32 ((w32 ((I 63 1) + 25)) - 1)) 25)) 63 2) - 1))) 63 1) < 25 then ((f_B_copyFrom F r1 (65 + 7 * (((up2 (up2 I 63 1 (rem32 (w32 ((w32 ((I 63 1) + 25)) - 1)) 25)) 63 2 (w32 (((up2 I 63 1 (rem32 (w32 ((w32 ((I 63 1) + 25)) - 1)) 25)) 63 2) - 1))) 63 1)).toNat) (up2 (up2 I 63 1 (rem32 (w32 ((w32 ((I 63 1) + 25)) - 1)) 25)) 63 2 (w32 (((up2 I 63 1 (rem32 (w32 ((w32 ((I 63 1) + 25)) - 1)) 25)) 63 2) - 1)))).bind fun q6 => (some (1, q6))) else none) else (some (0, I)))
def f_T_byteAt (F : Nat) (x1 : Int) (I : MI) : Option (Int) :=
  (if 0 ≤ x1 ∧ x1 < 2000 then (some (and32 (I 3 (x1).toNat) 255)) else none)
def f_R_clear (F : Nat) (r0 : Nat) (I : MI) : Option (MI) :=
  ((f_W_clear F (r0 + 9) (up2 (up2 (fillA (fillA (up2 (up2 (up2 I r0 0 8) r0 1 4) r0 2 1) (r0 + 1) 96 1) (r0 + 2) 8 0) r0 5 0) r0 10 0)).bind fun q1 => ((f_W_clear F (r0 + 14) q1).bind fun q4 => (some q4)))
def f_K_sortOf_b40 (F : Nat) (x0 : Int) (I : MI) : Option (Int) :=
  (if x0 < 48 then (some 3) else (if 57 < x0 then (some 3) else (some 2)))
def f_K_sortOf (F : Nat) (x0 : Int) (I : MI) : Option (Int) :=
  (if x0 = 9 then (some 0) else (if x0 = 10 then (some 0) else (if x0 = 13 then (some 0) else (if ¬ x0 = 32 then (if x0 < 97 then (f_K_sortOf_b40 F x0 I) else (if 122 < x0 then (f_K_sortOf_b40 F x0 I) else (some 1))) else (some 0)))))
def f_K_skip_L2 (F : Nat) (x2 : Int) (x3 : Int) (I : MI) : Option ((Int) ⊕ (Int)) :=
  (if (I 2 1) ≤ x3 then (some (.inl x3)) else ((f_T_byteAt F x3 I).bind fun q3 => ((f_K_sortOf F q3 I).bind fun q6 => (if ¬ q6 = x2 then (some (.inl x3)) else (some (.inr (w32 (x3 + 1))))))))
def f_K_skip (F : Nat) (x1 : Int) (x2 : Int) (I : MI) : Option (Int) :=
  ((iter (fun s : Int => f_K_skip_L2 F x2 s I) F x1).bind fun e10 => (some e10))
def f_K_endOfToken (F : Nat) (x1 : Int) (I : MI) : Option (Int) :=
  ((f_T_byteAt F x1 I).bind fun q1 => ((f_K_sortOf F q1 I).bind fun q4 => (if ¬ q4 = 3 then ((f_K_skip F x1 q4 I).bind fun q8 => (some q8)) else (some (w32 (x1 + 1))))))
def f_K_spells_b37in11 (F : Nat) (x1 : Int) (x2 : Int) (x3 : Int) (x4 : Int) (s0 : Int) (I : MI) : Option (((Unit) ⊕ (Unit)) ⊕ (Int)) :=
  (if 0 ≤ (w32 ((w32 (x3 * 6)) + x4)) ∧ (w32 ((w32 (x3 * 6)) + x4)) < 102 then (if s0 = (chW (w32 ((w32 (x3 * 6)) + x4))) then (some (.inr (w32 (x4 + 1)))) else (some (.inl (.inl ())))) else none)
def f_K_spells_L11 (F : Nat) (x1 : Int) (x2 : Int) (x3 : Int) (x4 : Int) (I : MI) : Option (((Unit) ⊕ (Unit)) ⊕ (Int)) :=
  (if 6 ≤ x4 then (some (.inl (.inr ()))) else (if x2 ≤ x4 then (f_K_spells_b37in11 F x1 x2 x3 x4 32 I) else ((f_T_byteAt F (w32 (x1 + x4)) I).bind fun q7 => (f_K_spells_b37in11 F x1 x2 x3 x4 q7 I))))
def f_K_spells (F : Nat) (x1 : Int) (x2 : Int) (x3 : Int) (I : MI) : Option (Int) :=
  (if x2 ≤ 6 then ((iter (fun s : Int => f_K_spells_L11 F x1 x2 x3 s I) F 0).bind fun e10 => (match e10 with | .inl e12 => (some 0) | .inr o13 => (some 1))) else (some 0))
def f_K_wordKind_L2 (F : Nat) (x1 : Int) (x2 : Int) (x3 : Int) (I : MI) : Option (((Int) ⊕ (Unit)) ⊕ (Int)) :=
  (if 17 ≤ x3 then (some (.inl (.inr ()))) else ((f_K_spells F x1 x2 x3 I).bind fun q2 => (if q2 = 0 then (some (.inr (w32 (x3 + 1)))) else (some (.inl (.inl x3))))))
def f_K_wordKind (F : Nat) (x1 : Int) (x2 : Int) (I : MI) : Option (Int) :=
  ((iter (fun s : Int => f_K_wordKind_L2 F x1 x2 s I) F 0).bind fun e6 => (match e6 with | .inl e8 => (some (w32 (256 + e8))) | .inr o9 => (if x2 ≤ 8 then (some 300) else (some 303))))
def f_K_kindOf (F : Nat) (x1 : Int) (x2 : Int) (I : MI) : Option (Int) :=
  ((f_T_byteAt F x1 I).bind fun q1 => ((f_K_sortOf F q1 I).bind fun q4 => (if q4 = 1 then ((f_K_wordKind F x1 (w32 (x2 - x1)) I).bind fun q8 => (some q8)) else (if q4 = 2 then (if (w32 (x2 - x1)) ≤ 4 then (some 301) else (some 303)) else (if (ixS (c16 q1)) < 0 then (some 303) else (some q1))))))
def f_K_number_L5 (F : Nat) (x2 : Int) (x3 : Int) (x4 : Int) (I : MI) : Option ((Int) ⊕ (Int × Int)) :=
  (if x2 ≤ x4 then (some (.inl x3)) else ((f_T_byteAt F x4 I).bind fun q2 => (some (.inr ((w32 ((w32 ((w32 (x3 * 10)) + q2)) - 48)), (w32 (x4 + 1)))))))
def f_K_number (F : Nat) (x1 : Int) (x2 : Int) (I : MI) : Option (Int) :=
  ((iter (fun s : Int × Int => f_K_number_L5 F x2 s.1 s.2 I) F (0, x1)).bind fun e5 => (some e5))
def f_K_put (F : Nat) (x1 : Int) (x2 : Int) (x3 : Int) (x4 : Int) (I : MI) : Option (MI) :=
  (if 0 ≤ x1 ∧ x1 < 402 then (some (up2 (up2 (up2 (up2 I 6 (x1).toNat x2) 7 (x1).toNat x3) 8 (x1).toNat x4) 9 (x1).toNat 0)) else none)
def f_K_scan_b73in9 (F : Nat) (x2 : Int) (x4 : Int) (I : MI) : Option ((Int × MI) ⊕ (Int × Int × MI)) :=
  ((f_K_skip F x4 0 I).bind fun q19 => (some (.inr ((w32 (x2 + 1)), q19, I))))
def f_K_scan_L9 (F : Nat) (x2 : Int) (x3 : Int) (I : MI) : Option ((Int × MI) ⊕ (Int × Int × MI)) :=
  (if 400 < x2 then (some (.inl (x2, I))) else (if (I 2 1) ≤ x3 then (some (.inl (x2, I))) else ((f_K_endOfToken F x3 I).bind fun q7 => ((f_K_kindOf F x3 q7 I).bind fun q10 => ((f_K_put F x2 q10 x3 (w32 (q7 - x3)) I).bind fun q13 => (if 0 ≤ x2 ∧ x2 < 402 then (if ¬ (q13 6 (x2).toNat) = 301 then (f_K_scan_b73in9 F x2 q7 q13) else ((f_K_number F x3 q7 q13).bind fun q22 => (f_K_scan_b73in9 F x2 q7 (up2 q13 9 (x2).toNat q22)))) else none))))))
def f_K_scan (F : Nat) (I : MI) : Option (MI) :=
  ((f_K_skip F 0 0 I).bind fun q1 => ((iter (fun s : Int × Int × MI => f_K_scan_L9 F s.1 s.2.1 s.2.2) F (0, q1, I)).bind fun e25 => ((f_K_put F e25.1 302 (e25.2 2 1) 0 e25.2).bind fun q29 => (some q29))))
def f_R_isLeptAtOnce (F : Nat) (r0 : Nat) (I : MI) : Option (Int) :=
  (if (I r0 2) ≤ (I r0 1) then (some 0) else (some 1))
def f_R_isWithinLeap (F : Nat) (r0 : Nat) (x1 : Int) (x2 : Int) (I : MI) : Option (Int) :=
  (if (I r0 2) < (w32 ((abs32 (w32 ((rem32 x1 12) - (rem32 x2 12)))) + (abs32 (w32 ((div32 x1 12) - (div32 x2 12)))))) then (some 0) else (some 1))
def f_T_put_L3 (F : Nat) (x1 : Int) (x2 : Int) (I : MI) : Option ((MI) ⊕ (Int × MI)) :=
  (if x2 < 0 then (some (.inl I)) else (if 2000 ≤ (I 2 1) then (some (.inl I)) else (if 0 ≤ (I 2 1) ∧ (I 2 1) < 2000 then (some (.inr ((w32 (x2 + (-8))), (up2 (up2 I 3 ((I 2 1)).toNat (b8 (b8 (ushr32 x1 x2)))) 2 1 (w32 (((up2 I 3 ((I 2 1)).toNat (b8 (b8 (ushr32 x1 x2)))) 2 1) + 1)))))) else none)))
def f_T_put (F : Nat) (x1 : Int) (I : MI) : Option (MI) :=
  ((iter (fun s : Int × MI => f_T_put_L3 F x1 s.1 s.2) F (24, I)).bind fun e6 => (some e6))
