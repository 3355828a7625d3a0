def f_F_leadInto (F : Nat) (x1 : Int) (x2 : Int) (I : MI) : Option (MI) :=
  (if ¬ x2 = x1 then (if 0 ≤ x1 ∧ x1 < 96 then (if 0 ≤ x2 ∧ x2 < 96 then (some (up2 (up2 I 251 (x1).toNat x2) 252 (x2).toNat x1)) else none) else none) else (if 0 ≤ x1 ∧ x1 < 96 then (some (up2 (up2 I 251 (x1).toNat (-3)) 252 (x1).toNat (-3))) else none))
def f_F_addWay_L15 (F : Nat) (x2 : Int) (x3 : Int) (I : MI) : Option (((Int × MI) ⊕ (Int × MI)) ⊕ (Int × Int × MI)) :=
  (if 192 ≤ x3 then (some (.inl (.inr (x2, I)))) else (if 0 ≤ x2 ∧ x2 < 192 then (if 0 ≤ (I 253 (x2).toNat) then (if 96 ≤ x2 then (some (.inr ((I 253 (x2).toNat), (w32 (x3 + 1)), I))) else ((f_F_leadInto F x2 (w32 ((I 253 (x2).toNat) - 96)) I).bind fun q7 => (some (.inr ((I 253 (x2).toNat), (w32 (x3 + 1)), q7))))) else (some (.inl (.inl (x2, I))))) else none))
def f_F_addWay_b63 (F : Nat) (x2 : Int) (I : MI) : Option (MI) :=
  (if 0 ≤ x2 ∧ x2 < 96 then (some (up2 I 251 (x2).toNat (-1))) else none)
def f_F_addWay (F : Nat) (x1 : Int) (I : MI) : Option (MI) :=
  (if 0 ≤ x1 ∧ x1 < 96 then ((iter (fun s : Int × Int × MI => f_F_addWay_L15 F s.1 s.2.1 s.2.2) F ((w32 (96 + x1)), 0, (up2 I 252 (x1).toNat (-2)))).bind fun e10 => (match e10 with | .inl e12 => (f_F_addWay_b63 F e12.1 e12.2) | .inr o13 => (f_F_addWay_b63 F o13.1 o13.2))) else none)
def f_F_reach (F : Nat) (x1 : Int) (x2 : Int) (I : MI) : Option (MI) :=
  (if 0 ≤ x1 ∧ x1 < 192 then (if (I 253 (x1).toNat) = (-3) then (if 0 ≤ ((up2 I 253 (x1).toNat x2) 250 4) ∧ ((up2 I 253 (x1).toNat x2) 250 4) < 192 then (some (up2 (up2 (up2 I 253 (x1).toNat x2) 254 (((up2 I 253 (x1).toNat x2) 250 4)).toNat x1) 250 4 (w32 (((up2 (up2 I 253 (x1).toNat x2) 254 (((up2 I 253 (x1).toNat x2) 250 4)).toNat x1) 250 4) + 1)))) else none) else (some I)) else none)
def f_F_comeTo (F : Nat) (x1 : Int) (I : MI) : Option (MI) :=
  (if 0 ≤ x1 ∧ x1 < 96 then (if ¬ (I 252 (x1).toNat) = (-3) then (if (I 251 (x1).toNat) < 0 then (some I) else ((f_F_reach F (w32 (96 + (I 251 (x1).toNat))) x1 I).bind fun q5 => (some q5))) else ((f_F_reach F (w32 (96 + x1)) x1 I).bind fun q8 => (some q8))) else none)
def f_F_goOnFrom_L29 (F : Nat) (r1 : Nat) (x3 : Int) (x4 : Int) (x5 : Int) (I : MI) : Option ((MI) ⊕ (Int × MI)) :=
  (if x4 ≤ x5 then (some (.inl I)) else ((f_R_leapFrom F r1 x3 x5 I).bind fun q8 => (if q8 = (-1) then (some (.inr ((w32 (x5 + 1)), I))) else (if 0 ≤ q8 ∧ q8 < 96 then (if (I 245 (q8).toNat) < 0 then (some (.inr ((w32 (x5 + 1)), I))) else (if 0 ≤ x3 ∧ x3 < 96 then (if (I 252 (x3).toNat) = q8 then (some (.inr ((w32 (x5 + 1)), I))) else ((f_F_reach F q8 (w32 (96 + x3)) I).bind fun q17 => (some (.inr ((w32 (x5 + 1)), q17))))) else none)) else none))))
def f_F_goOnFrom_b20 (F : Nat) (r1 : Nat) (x3 : Int) (I : MI) : Option (MI) :=
  ((f_R_countLeaps F r1 I).bind fun q4 => ((iter (fun s : Int × MI => f_F_goOnFrom_L29 F r1 x3 q4 s.1 s.2) F (0, I)).bind fun e20 => (some e20)))
def f_F_goOnFrom (F : Nat) (r1 : Nat) (x3 : Int) (I : MI) : Option (MI) :=
  (if 0 ≤ x3 ∧ x3 < 96 then (if (I 252 (x3).toNat) = (-3) then (f_F_goOnFrom_b20 F r1 x3 I) else ((f_F_reach F x3 (w32 (96 + x3)) I).bind fun q23 => (f_F_goOnFrom_b20 F r1 x3 q23))) else none)
def f_F_seek_b51in16 (F : Nat) (r1 : Nat) (x3 : Int) (s0 : Int) (I : MI) : Option ((MI) ⊕ (Int × MI)) :=
  (if s0 = 0 then (some (.inr ((w32 (x3 + 1)), I))) else ((f_F_reach F x3 (-1) I).bind fun q6 => (some (.inr ((w32 (x3 + 1)), q6)))))
def f_F_seek_b50in16 (F : Nat) (r1 : Nat) (x3 : Int) (I : MI) : Option ((MI) ⊕ (Int × MI)) :=
  (f_F_seek_b51in16 F r1 x3 0 I)
def f_F_seek_L16 (F : Nat) (r1 : Nat) (x3 : Int) (I : MI) : Option ((MI) ⊕ (Int × MI)) :=
  (if 96 ≤ x3 then (some (.inl I)) else (if 0 ≤ x3 ∧ x3 < 96 then (if (I 245 (x3).toNat) < 0 then (f_F_seek_b50in16 F r1 x3 I) else ((f_R_isNearEnough F r1 x3 I).bind fun q9 => (if q9 = 0 then (f_F_seek_b50in16 F r1 x3 I) else (if (I 251 (x3).toNat) = (-1) then (f_F_seek_b50in16 F r1 x3 I) else (f_F_seek_b51in16 F r1 x3 1 I))))) else none))
def f_F_seek_b142in72 (F : Nat) (r1 : Nat) (x3 : Int) (x5 : Int) (I : MI) : Option (((Int × MI) ⊕ (MI)) ⊕ (Int × MI)) :=
  ((f_F_goOnFrom F r1 x5 I).bind fun q26 => (some (.inr ((w32 (x3 + 1)), q26))))
def f_F_seek_L72 (F : Nat) (r1 : Nat) (x3 : Int) (I : MI) : Option (((Int × MI) ⊕ (MI)) ⊕ (Int × MI)) :=
  (if (I 250 4) ≤ x3 then (some (.inl (.inr I))) else (if 192 ≤ x3 then (some (.inl (.inr I))) else (if 0 ≤ x3 ∧ x3 < 192 then (if 96 ≤ (I 254 (x3).toNat) then ((f_R_isFarEnough F r1 (w32 ((I 254 (x3).toNat) - 96)) I).bind fun q22 => (if q22 = 0 then (f_F_seek_b142in72 F r1 x3 (w32 ((I 254 (x3).toNat) - 96)) I) else (if 0 ≤ (w32 ((I 254 (x3).toNat) - 96)) ∧ (w32 ((I 254 (x3).toNat) - 96)) < 96 then (if (I 252 ((w32 ((I 254 (x3).toNat) - 96))).toNat) = (-2) then (f_F_seek_b142in72 F r1 x3 (w32 ((I 254 (x3).toNat) - 96)) I) else (some (.inl (.inl ((w32 ((I 254 (x3).toNat) - 96)), I))))) else none))) else ((f_F_comeTo F (I 254 (x3).toNat) I).bind fun q31 => (some (.inr ((w32 (x3 + 1)), q31))))) else none)))
def f_F_seek (F : Nat) (r1 : Nat) (I : MI) : Option (Int × MI) :=
  ((iter (fun s : Int × MI => f_F_seek_L16 F r1 s.1 s.2) F (0, (up2 (fillA I 253 192 (-3)) 250 4 0))).bind fun e14 => ((iter (fun s : Int × MI => f_F_seek_L72 F r1 s.1 s.2) F (0, e14)).bind fun e34 => (match e34 with | .inl e36 => (some (e36.1, e36.2)) | .inr o37 => (some ((-1), o37)))))
def f_F_most_L23 (F : Nat) (r1 : Nat) (x3 : Int) (x4 : Int) (I : MI) : Option (((Int × MI) ⊕ (Int × MI)) ⊕ (Int × Int × MI)) :=
  (if 96 ≤ x4 then (some (.inl (.inr (x3, I)))) else ((f_F_seek F r1 I).bind fun q2 => (if ¬ q2.1 = (-1) then ((f_F_addWay F q2.1 q2.2).bind fun q6 => (some (.inr ((w32 (x3 + 1)), (w32 (x4 + 1)), q6)))) else (some (.inl (.inl (x3, q2.2)))))))
def f_F_most (F : Nat) (r1 : Nat) (I : MI) : Option (Int × MI) :=
  ((iter (fun s : Int × Int × MI => f_F_most_L23 F r1 s.1 s.2.1 s.2.2) F (0, 0, (fillA (fillA I 251 96 (-3)) 252 96 (-3)))).bind fun e9 => (match e9 with | .inl e11 => (some (e11.1, e11.2)) | .inr o12 => (some (o12.1, o12.2))))
def f_V_canGive (F : Nat) (x1 : Int) (x2 : Int) (I : MI) : Option (Int) :=
  (if 0 ≤ x1 ∧ x1 < 72 then (if 0 ≤ x2 ∧ x2 < 8 then (if (I 268 (x2).toNat) ≤ 0 then (some 0) else (if 0 ≤ (div32 (I 266 (x1).toNat) 12) ∧ (div32 (I 266 (x1).toNat) 12) < 8 then (if (rem32 (I 266 (x1).toNat) 12) < (I (258 + (x2).toNat) ((div32 (I 266 (x1).toNat) 12)).toNat) then (some 0) else (some 1)) else none)) else none) else none)
def f_V_isFree (F : Nat) (x1 : Int) (I : MI) : Option (Int) :=
  (if 0 ≤ x1 ∧ x1 < 8 then (if (I 270 (x1).toNat) = (-3) then (some 0) else (if (I 268 (x1).toNat) ≤ (I 269 (x1).toNat) then (some 0) else (some 1))) else none)
def f_V_leastFree_L4 (F : Nat) (x1 : Int) (x2 : Int) (I : MI) : Option ((Int) ⊕ (Int × Int)) :=
  (if (I 255 0) ≤ x2 then (some (.inl x1)) else ((f_V_isFree F x2 I).bind fun q3 => (if ¬ q3 = 0 then (if x1 = (-1) then (some (.inr (x2, (w32 (x2 + 1))))) else (if 0 ≤ x2 ∧ x2 < 8 then (if 0 ≤ x1 ∧ x1 < 8 then (if (I 256 (x1).toNat) ≤ (I 256 (x2).toNat) then (some (.inr (x1, (w32 (x2 + 1))))) else (some (.inr (x2, (w32 (x2 + 1)))))) else none) else none)) else (some (.inr (x1, (w32 (x2 + 1))))))))
def f_V_leastFree (F : Nat) (I : MI) : Option (Int) :=
  ((iter (fun s : Int × Int => f_V_leastFree_L4 F s.1 s.2 I) F ((-1), 0)).bind fun e11 => (some e11))
def f_V_passOn_L4 (F : Nat) (x2 : Int) (x3 : Int) (I : MI) : Option ((Int × MI) ⊕ (Int × Int × MI)) :=
  (if 8 ≤ x3 then (some (.inl (x2, I))) else (if 0 ≤ x2 ∧ x2 < 8 then (if (I 270 (x2).toNat) < 0 then (some (.inl (x2, I))) else (if 0 ≤ (I 271 (x2).toNat) ∧ (I 271 (x2).toNat) < 72 then (some (.inr (((up2 I 267 ((I 271 (x2).toNat)).toNat x2) 270 (x2).toNat), (w32 (x3 + 1)), (up2 I 267 ((I 271 (x2).toNat)).toNat x2)))) else none)) else none))
def f_V_passOn (F : Nat) (x1 : Int) (I : MI) : Option (Int × MI) :=
  ((iter (fun s : Int × Int × MI => f_V_passOn_L4 F s.1 s.2.1 s.2.2) F (x1, 0, I)).bind fun e7 => (some (e7.1, e7.2)))
def f_V_spread_L52 (F : Nat) (x2 : Int) (x3 : Int) (x4 : Int) (x5 : Int) (x6 : Int) (x7 : Int) (I : MI) : Option ((Int × MI) ⊕ (Int × Int × MI)) :=
  (if (I 255 0) ≤ x7 then (some (.inl (x4, I))) else (if 0 ≤ x7 ∧ x7 < 8 then (if ¬ (I 270 (x7).toNat) = (-3) then (some (.inr (x4, (w32 (x7 + 1)), I))) else ((f_V_canGive F x6 x7 I).bind fun q12 => (if ¬ q12 = 0 then (if 0 ≤ x5 ∧ x5 < 8 then (if 0 ≤ x4 ∧ x4 < 8 then (some (.inr ((w32 (x4 + 1)), (w32 (x7 + 1)), (up2 (up2 (up2 I 270 (x7).toNat (I 274 (x5).toNat)) 271 (x7).toNat x6) 274 (x4).toNat x7)))) else none) else none) else (some (.inr (x4, (w32 (x7 + 1)), I)))))) else none))
def f_V_spread_L23 (F : Nat) (x2 : Int) (x3 : Int) (x4 : Int) (x5 : Int) (x6 : Int) (I : MI) : Option ((Int × MI) ⊕ (Int × Int × MI)) :=
  (if x3 ≤ x6 then (some (.inl (x4, I))) else (if 0 ≤ x6 ∧ x6 < 72 then (if 0 ≤ x5 ∧ x5 < 8 then (if (I 267 (x6).toNat) = (I 274 (x5).toNat) then ((iter (fun s : Int × Int × MI => f_V_spread_L52 F x2 x3 s.1 x5 x6 s.2.1 s.2.2) F (x4, 0, I)).bind fun e18 => (some (.inr (e18.1, (w32 (x6 + 1)), e18.2)))) else (some (.inr (x4, (w32 (x6 + 1)), I)))) else none) else none))
def f_V_spread_L6 (F : Nat) (x2 : Int) (x3 : Int) (x4 : Int) (x5 : Int) (I : MI) : Option ((MI) ⊕ (Int × Int × MI)) :=
  (if x4 ≤ x5 then (some (.inl I)) else (if 8 ≤ x5 then (some (.inl I)) else ((iter (fun s : Int × Int × MI => f_V_spread_L23 F x2 x3 s.1 x5 s.2.1 s.2.2) F (x4, x2, I)).bind fun e21 => (some (.inr (e21.1, (w32 (x5 + 1)), e21.2))))))
def f_V_spread (F : Nat) (x1 : Int) (x2 : Int) (x3 : Int) (I : MI) : Option (MI) :=
  ((iter (fun s : Int × Int × MI => f_V_spread_L6 F x2 x3 s.1 s.2.1 s.2.2) F (x1, 0, I)).bind fun e24 => (some e24))
def f_V_give_L13 (F : Nat) (x1 : Int) (x2 : Int) (x3 : Int) (I : MI) : Option ((Int × MI) ⊕ (Int × Int × MI)) :=
  (if (I 255 0) ≤ x3 then (some (.inl (x2, I))) else ((f_V_canGive F x1 x3 I).bind fun q3 => (if ¬ q3 = 0 then (if 0 ≤ x3 ∧ x3 < 8 then (if 0 ≤ x2 ∧ x2 < 8 then (some (.inr ((w32 (x2 + 1)), (w32 (x3 + 1)), (up2 (up2 I 270 (x3).toNat (-2)) 274 (x2).toNat x3)))) else none) else none) else (some (.inr (x2, (w32 (x3 + 1)), I))))))
def f_V_give (F : Nat) (x1 : Int) (I : MI) : Option (Int × MI) :=
  ((iter (fun s : Int × Int × MI => f_V_give_L13 F x1 s.1 s.2.1 s.2.2) F (0, 0, (fillA I 270 8 (-3)))).bind fun e9 => ((f_V_spread F e9.1 0 x1 e9.2).bind fun q12 => ((f_V_leastFree F q12).bind fun q15 => (if ¬ q15 = (-1) then ((f_V_passOn F q15 q12).bind fun q19 => (if 0 ≤ x1 ∧ x1 < 72 then (if 0 ≤ q15 ∧ q15 < 8 then (some (1, (up2 (up2 q19.2 267 (x1).toNat q19.1) 269 (q15).toNat (w32 (((up2 q19.2 267 (x1).toNat q19.1) 269 (q15).toNat) + 1))))) else none) else none)) else (some (0, q12))))))
def f_V_handOn_L4 (F : Nat) (x2 : Int) (x3 : Int) (I : MI) : Option ((MI) ⊕ (Int × Int × MI)) :=
  (if 8 ≤ x3 then (some (.inl I)) else (if 0 ≤ x2 ∧ x2 < 8 then (if (I 272 (x2).toNat) < 0 then (some (.inl I)) else (if 0 ≤ (I 273 (x2).toNat) ∧ (I 273 (x2).toNat) < 72 then (some (.inr (((up2 I 267 ((I 273 (x2).toNat)).toNat (I 272 (x2).toNat)) 272 (x2).toNat), (w32 (x3 + 1)), (up2 I 267 ((I 273 (x2).toNat)).toNat (I 272 (x2).toNat))))) else none)) else none))
def f_V_handOn (F : Nat) (x1 : Int) (I : MI) : Option (MI) :=
  ((iter (fun s : Int × Int × MI => f_V_handOn_L4 F s.1 s.2.1 s.2.2) F (x1, 0, I)).bind fun e7 => (some e7))
def f_V_spreadBack_L47 (F : Nat) (x2 : Int) (x3 : Int) (x4 : Int) (x5 : Int) (x6 : Int) (I : MI) : Option ((Int × MI) ⊕ (Int × Int × MI)) :=
  (if x3 ≤ x6 then (some (.inl (x4, I))) else (if 0 ≤ x6 ∧ x6 < 72 then (if (I 267 (x6).toNat) < 0 then (some (.inr (x4, (w32 (x6 + 1)), I))) else (if 0 ≤ (I 267 (x6).toNat) ∧ (I 267 (x6).toNat) < 8 then (if ¬ (I 272 ((I 267 (x6).toNat)).toNat) = (-3) then (some (.inr (x4, (w32 (x6 + 1)), I))) else (if 0 ≤ x5 ∧ x5 < 8 then ((f_V_canGive F x6 (I 274 (x5).toNat) I).bind fun q11 => (if ¬ q11 = 0 then (if 0 ≤ x4 ∧ x4 < 8 then (some (.inr ((w32 (x4 + 1)), (w32 (x6 + 1)), (up2 (up2 (up2 I 272 ((I 267 (x6).toNat)).toNat (I 274 (x5).toNat)) 273 ((I 267 (x6).toNat)).toNat x6) 274 (x4).toNat (I 267 (x6).toNat))))) else none) else (some (.inr (x4, (w32 (x6 + 1)), I))))) else none)) else none)) else none))
def f_V_spreadBack_L30 (F : Nat) (x2 : Int) (x3 : Int) (x4 : Int) (x5 : Int) (I : MI) : Option ((MI) ⊕ (Int × Int × MI)) :=
  (if x4 ≤ x5 then (some (.inl I)) else (if 8 ≤ x5 then (some (.inl I)) else ((iter (fun s : Int × Int × MI => f_V_spreadBack_L47 F x2 x3 s.1 x5 s.2.1 s.2.2) F (x4, x2, I)).bind fun e16 => (some (.inr (e16.1, (w32 (x5 + 1)), e16.2))))))
def f_V_spreadBack (F : Nat) (x1 : Int) (x2 : Int) (x3 : Int) (I : MI) : Option (MI) :=
  (if 0 ≤ x1 ∧ x1 < 8 then ((iter (fun s : Int × Int × MI => f_V_spreadBack_L30 F x2 x3 s.1 s.2.1 s.2.2) F (1, 0, (up2 (up2 (fillA I 272 8 (-3)) 272 (x1).toNat (-2)) 274 0 x1))).bind fun e19 => (some e19)) else none)
def f_V_giveInstead_L101 (F : Nat) (x1 : Int) (x3 : Int) (x4 : Int) (x5 : Int) (I : MI) : Option (((Int) ⊕ (Unit)) ⊕ (Int)) :=
  (if (I 255 0) ≤ x5 then (some (.inl (.inr ()))) else (if 0 ≤ x5 ∧ x5 < 8 then (if (I 272 (x5).toNat) = (-3) then (some (.inr (w32 (x5 + 1)))) else (if 0 ≤ x4 ∧ x4 < 8 then (if (I 256 (x5).toNat) = (I 256 (x4).toNat) then (some (.inl (.inl x5))) else (some (.inr (w32 (x5 + 1))))) else none)) else none))
def f_V_giveInstead_L77 (F : Nat) (x1 : Int) (x3 : Int) (x4 : Int) (I : MI) : Option (((Int × Int) ⊕ (Unit)) ⊕ (Int)) :=
  (if (I 255 0) ≤ x4 then (some (.inl (.inr ()))) else ((f_V_isFree F x4 I).bind fun q14 => (if ¬ q14 = 0 then ((iter (fun s : Int => f_V_giveInstead_L101 F x1 x3 x4 s I) F 0).bind fun e24 => (match e24 with | .inl e26 => (some (.inl (.inl (x4, e26)))) | .inr o27 => (some (.inr (w32 (x4 + 1)))))) else (some (.inr (w32 (x4 + 1)))))))
def f_V_giveInstead (F : Nat) (x1 : Int) (x2 : Int) (x3 : Int) (I : MI) : Option (Int × MI) :=
  (if 0 ≤ x3 ∧ x3 < 8 then ((f_V_spread F 1 (w32 (x1 + 1)) ((up2 (up2 (fillA I 270 8 (-3)) 270 (x3).toNat (-2)) 274 0 x3) 255 5) (up2 (up2 (fillA I 270 8 (-3)) 270 (x3).toNat (-2)) 274 0 x3)).bind fun q3 => (if 0 ≤ x2 ∧ x2 < 8 then (if (q3 270 (x2).toNat) = (-3) then ((f_V_spreadBack F x2 (w32 (x1 + 1)) (q3 255 5) q3).bind fun q9 => ((iter (fun s : Int => f_V_giveInstead_L77 F x1 x3 s q9) F 0).bind fun e30 => (match e30 with | .inl e32 => ((f_V_passOn F e32.1 q9).bind fun q35 => ((f_V_handOn F e32.2 q35.2).bind fun q38 => (if 0 ≤ x1 ∧ x1 < 72 then (if 0 ≤ e32.1 ∧ e32.1 < 8 then (if 0 ≤ e32.2 ∧ e32.2 < 8 then (some (1, (up2 (up2 (up2 q38 267 (x1).toNat x3) 269 (e32.1).toNat (w32 (((up2 q38 267 (x1).toNat x3) 269 (e32.1).toNat) + 1))) 269 (e32.2).toNat (w32 (((up2 (up2 q38 267 (x1).toNat x3) 269 (e32.1).toNat (w32 (((up2 q38 267 (x1).toNat x3) 269 (e32.1).toNat) + 1))) 269 (e32.2).toNat) - 1))))) else none) else none) else none))) | .inr o33 => (some (0, q9))))) else ((f_V_passOn F x2 q3).bind fun q47 => (if 0 ≤ x1 ∧ x1 < 72 then (some (1, (up2 q47.2 267 (x1).toNat x3))) else none))) else none)) else none)
def f_V_giveByFirst_L9 (F : Nat) (x1 : Int) (x2 : Int) (x3 : Int) (I : MI) : Option (((MI) ⊕ (MI)) ⊕ (Int × MI)) :=
  (if x2 ≤ x3 then (some (.inl (.inr I))) else ((f_V_canGive F x1 x3 I).bind fun q4 => (if q4 = 0 then (some (.inr ((w32 (x3 + 1)), I))) else ((f_V_giveInstead F x1 x2 x3 I).bind fun q8 => (if q8.1 = 0 then (some (.inr ((w32 (x3 + 1)), q8.2))) else (some (.inl (.inl q8.2))))))))
def f_V_giveByFirst (F : Nat) (x1 : Int) (I : MI) : Option (MI) :=
  (if 0 ≤ x1 ∧ x1 < 72 then ((iter (fun s : Int × MI => f_V_giveByFirst_L9 F x1 (I 267 (x1).toNat) s.1 s.2) F (0, I)).bind fun e12 => (match e12 with | .inl e14 => (some e14) | .inr o15 => (some o15))) else none)
def f_V_listNeeds_L25 (F : Nat) (x2 : Int) (x3 : Int) (x4 : Int) (I : MI) : Option ((MI) ⊕ (Int × MI)) :=
  (if 0 ≤ x3 ∧ x3 < 96 then (if (I 245 (x3).toNat) ≤ x4 then (some (.inl I)) else (if 72 ≤ (I 255 5) then (some (.inl I)) else (if 0 ≤ (I 255 5) ∧ (I 255 5) < 72 then (if 0 ≤ ((up2 I 266 ((I 255 5)).toNat x3) 255 5) ∧ ((up2 I 266 ((I 255 5)).toNat x3) 255 5) < 72 then (some (.inr ((w32 (x4 + 1)), (up2 (up2 (up2 I 266 ((I 255 5)).toNat x3) 267 (((up2 I 266 ((I 255 5)).toNat x3) 255 5)).toNat (-1)) 255 5 (w32 (((up2 (up2 I 266 ((I 255 5)).toNat x3) 267 (((up2 I 266 ((I 255 5)).toNat x3) 255 5)).toNat (-1)) 255 5) + 1)))))) else none) else none))) else none)
def f_V_listNeeds_L7 (F : Nat) (x2 : Int) (I : MI) : Option ((MI) ⊕ (Int × MI)) :=
  (if (I 244 2) ≤ x2 then (some (.inl I)) else (if 0 ≤ x2 ∧ x2 < 96 then ((iter (fun s : Int × MI => f_V_listNeeds_L25 F x2 (I 246 (x2).toNat) s.1 s.2) F (0, I)).bind fun e12 => (some (.inr ((w32 (x2 + 1)), e12)))) else none))
def f_V_listNeeds (F : Nat) (I : MI) : Option (MI) :=
  ((iter (fun s : Int × MI => f_V_listNeeds_L7 F s.1 s.2) F (0, (up2 I 255 5 0))).bind fun e15 => (some e15))
def f_Y_sum_L4 (F : Nat) (x1 : Int) (x2 : Int) (I : MI) : Option ((Int) ⊕ (Int × Int)) :=
  (if (I 244 2) ≤ x2 then (some (.inl x1)) else (if 0 ≤ x2 ∧ x2 < 96 then (if 0 ≤ (I 246 (x2).toNat) ∧ (I 246 (x2).toNat) < 96 then (some (.inr ((w32 (x1 + (I 245 ((I 246 (x2).toNat)).toNat))), (w32 (x2 + 1))))) else none) else none))
def f_Y_sum (F : Nat) (I : MI) : Option (Int) :=
  ((iter (fun s : Int × Int => f_Y_sum_L4 F s.1 s.2 I) F (0, 0)).bind fun e5 => (some e5))
def f_V_settle_L84 (F : Nat) (r1 : Nat) (r2 : Nat) (x4 : Int) (x5 : Int) (I : MI) : Option ((MI) ⊕ (Int × MI)) :=
  (if 8 ≤ x5 then (some (.inl I)) else (if 0 ≤ x4 ∧ x4 < 8 then ((f_R_drift F r1 x4 x5 I).bind fun q17 => (if 0 ≤ x5 ∧ x5 < 8 then (some (.inr ((w32 (x5 + 1)), (up2 I (258 + (x4).toNat) (x5).toNat q17)))) else none)) else none))
def f_V_settle_b58in22 (F : Nat) (r1 : Nat) (r2 : Nat) (x4 : Int) (s1 : Int) (s2 : Int) (I : MI) : Option ((MI) ⊕ (Int × MI)) :=
  (if 0 ≤ s1 ∧ s1 < 8 then (if 0 ≤ x4 ∧ x4 < 8 then ((iter (fun s : Int × MI => f_V_settle_L84 F r1 r2 x4 s.1 s.2) F (0, (up2 (up2 (up2 I 268 (s1).toNat s2) 269 (x4).toNat 0) 256 (x4).toNat ((up2 (up2 I 268 (s1).toNat s2) 269 (x4).toNat 0) (r1 + 6) (x4).toNat)))).bind fun e21 => (some (.inr ((w32 (x4 + 1)), e21)))) else none) else none)
def f_V_settle_L22 (F : Nat) (r1 : Nat) (r2 : Nat) (x4 : Int) (I : MI) : Option ((MI) ⊕ (Int × MI)) :=
  (if (I 255 0) ≤ x4 then (some (.inl I)) else ((f_B_mayThrow F r2 r1 x4 I).bind fun q8 => (if q8 = 0 then (f_V_settle_b58in22 F r1 r2 x4 x4 0 I) else ((f_B_left F r2 r1 x4 I).bind fun q24 => (f_V_settle_b58in22 F r1 r2 x4 x4 q24 I)))))
def f_V_settle_L129 (F : Nat) (x4 : Int) (I : MI) : Option (((MI) ⊕ (MI)) ⊕ (Int × MI)) :=
  (if (I 255 5) ≤ x4 then (some (.inl (.inr I))) else ((f_V_give F x4 I).bind fun q35 => (if ¬ q35.1 = 0 then (some (.inr ((w32 (x4 + 1)), q35.2))) else (some (.inl (.inl q35.2))))))
def f_V_settle_L158 (F : Nat) (x4 : Int) (I : MI) : Option ((MI) ⊕ (Int × MI)) :=
  (if (I 255 5) ≤ x4 then (some (.inl I)) else ((f_V_giveByFirst F x4 I).bind fun q47 => (some (.inr ((w32 (x4 + 1)), q47)))))
def f_V_settle (F : Nat) (r1 : Nat) (r2 : Nat) (I : MI) : Option (Int × MI) :=
  ((f_Y_sum F I).bind fun q1 => (if q1 ≤ 72 then ((iter (fun s : Int × MI => f_V_settle_L22 F r1 r2 s.1 s.2) F (0, (up2 I 255 0 (I r1 5)))).bind fun e27 => ((f_V_listNeeds F e27).bind fun q30 => ((iter (fun s : Int × MI => f_V_settle_L129 F s.1 s.2) F (0, q30)).bind fun e39 => (match e39 with | .inl e41 => (some (0, e41)) | .inr o42 => ((iter (fun s : Int × MI => f_V_settle_L158 F s.1 s.2) F (0, o42)).bind fun e50 => (some (1, e50))))))) else (some (0, I))))
def f_V_sum_L4 (F : Nat) (x1 : Int) (x2 : Int) (I : MI) : Option ((Int) ⊕ (Int × Int)) :=
  (if (I 255 0) ≤ x2 then (some (.inl x1)) else (if 0 ≤ x2 ∧ x2 < 8 then (some (.inr ((w32 (x1 + (w32 ((I 269 (x2).toNat) * (I 256 (x2).toNat))))), (w32 (x2 + 1))))) else none))
def f_V_sum (F : Nat) (I : MI) : Option (Int) :=
  ((iter (fun s : Int × Int => f_V_sum_L4 F s.1 s.2 I) F (0, 0)).bind fun e4 => (some e4))
def f_E_fail (F : Nat) (x1 : Int) (I : MI) : Option (MI) :=
  (if (I 4 2) = 0 then (if 0 ≤ ((up2 I 4 2 x1) 4 1) ∧ ((up2 I 4 2 x1) 4 1) < 402 then (some (up2 (up2 I 4 2 x1) 4 3 ((up2 I 4 2 x1) 7 (((up2 I 4 2 x1) 4 1)).toNat))) else none) else (some I))
def f_E_take_b39 (F : Nat) (I : MI) : Option (MI) :=
  (if ¬ (I 4 2) = 0 then (some I) else (some (up2 I 4 1 (w32 ((I 4 1) + 1)))))
def f_E_take (F : Nat) (x1 : Int) (I : MI) : Option (MI) :=
  (if 0 ≤ (I 4 1) ∧ (I 4 1) < 402 then (if (I 6 ((I 4 1)).toNat) = x1 then (if (I 4 1) < 400 then (f_E_take_b39 F I) else ((f_E_fail F 2 I).bind fun q7 => (f_E_take_b39 F q7))) else ((f_E_fail F 1 I).bind fun q10 => (f_E_take_b39 F q10))) else none)
def f_E_failLater (F : Nat) (x1 : Int) (x2 : Int) (I : MI) : Option (MI) :=
  (if (I 4 4) = 0 then (some (up2 (up2 I 4 4 x1) 4 5 x2)) else (some I))
def f_E_takeInt_b55 (F : Nat) (x1 : Int) (x4 : Int) (I : MI) : Option (Int × MI) :=
  ((f_E_failLater F 5 x4 I).bind fun q9 => (some (x1, q9)))
def f_E_takeInt (F : Nat) (x1 : Int) (x2 : Int) (I : MI) : Option (Int × MI) :=
  (if 0 ≤ (I 4 1) ∧ (I 4 1) < 402 then ((f_E_take F 301 I).bind fun q3 => (if (q3 4 2) = 0 then (if (I 9 ((I 4 1)).toNat) < x1 then (f_E_takeInt_b55 F x1 (I 7 ((I 4 1)).toNat) q3) else (if x2 < (I 9 ((I 4 1)).toNat) then (f_E_takeInt_b55 F x1 (I 7 ((I 4 1)).toNat) q3) else (some ((I 9 ((I 4 1)).toNat), q3)))) else (some (x1, q3)))) else none)
def f_E_readDepth_b14 (F : Nat) (r1 : Nat) (I : MI) : Option (MI) :=
  ((f_E_take F 257 (up2 I 4 6 (w32 ((I 4 6) + 1)))).bind fun q4 => ((f_E_takeInt F 0 11 q4).bind fun q7 => ((f_E_takeInt F 0 7 q7.2).bind fun q10 => ((f_X_cellNumber F q7.1 q10.1 q10.2).bind fun q13 => ((f_E_takeInt F 0 9 q10.2).bind fun q16 => (if 0 ≤ q13 ∧ q13 < 96 then ((f_E_take F 59 (up2 q16.2 (r1 + 1) (q13).toNat q16.1)).bind fun q20 => (some q20)) else none))))))
def f_E_readDepth (F : Nat) (r1 : Nat) (I : MI) : Option (MI) :=
  (if (I 4 6) < 20 then (f_E_readDepth_b14 F r1 I) else ((f_E_fail F 2 I).bind fun q23 => (f_E_readDepth_b14 F r1 q23)))
def f_E_readFlood (F : Nat) (r1 : Nat) (I : MI) : Option (MI) :=
  (if (I r1 10) < 8 then ((f_E_take F 261 I).bind fun q3 => ((f_E_takeInt F 0 199 q3).bind fun q6 => (if 0 ≤ (I r1 10) ∧ (I r1 10) < 8 then ((f_E_takeInt F 1 12 (up2 q6.2 (r1 + 7) ((I r1 10)).toNat q6.1)).bind fun q10 => ((f_E_take F 59 (up2 q10.2 (r1 + 8) ((I r1 10)).toNat q10.1)).bind fun q13 => (some (up2 q13 r1 10 (w32 ((q13 r1 10) + 1)))))) else none))) else ((f_E_fail F 2 I).bind fun q17 => (some q17)))
def f_E_readFlow (F : Nat) (r1 : Nat) (I : MI) : Option (MI) :=
  ((f_E_take F 258 I).bind fun q1 => ((f_E_takeInt F 0 7 q1).bind fun q4 => ((f_E_takeInt F 0 9 q4.2).bind fun q7 => (if 0 ≤ q4.1 ∧ q4.1 < 8 then ((f_E_take F 59 (up2 q7.2 (r1 + 2) (q4.1).toNat q7.1)).bind fun q11 => (some q11)) else none))))
def f_E_isEither (F : Nat) (x1 : Int) (x2 : Int) (I : MI) : Option (Int) :=
  (if 0 ≤ (I 4 1) ∧ (I 4 1) < 402 then (if (I 6 ((I 4 1)).toNat) = x1 then (some 1) else (if ¬ (I 6 ((I 4 1)).toNat) = x2 then (some 0) else (some 1))) else none)
def f_E_readUnit_b89 (F : Nat) (rs : Nat → Int → MI → Option MI) (r1 : Nat) (x2 : Int) (x3 : Int) (I : MI) : Option (MI) :=
  (if x3 = 40 then (if x2 < 6 then ((f_E_take F 40 I).bind fun q8 => ((rs r1 (w32 (x2 + 1)) q8).bind fun q11 => ((f_E_take F 41 q11).bind fun q14 => (some q14)))) else ((f_E_fail F 2 I).bind fun q17 => (some q17))) else ((f_E_fail F 1 I).bind fun q20 => (some q20)))
def f_E_readUnit (F : Nat) (rs : Nat → Int → MI → Option MI) (r1 : Nat) (x2 : Int) (I : MI) : Option (MI) :=
  (if (I 4 2) = 0 then (if 0 ≤ (I 4 1) ∧ (I 4 1) < 402 then (if ¬ (I 6 ((I 4 1)).toNat) = 301 then (if (I 6 ((I 4 1)).toNat) < 267 then (f_E_readUnit_b89 F rs r1 x2 (I 6 ((I 4 1)).toNat) I) else (if 272 < (I 6 ((I 4 1)).toNat) then (f_E_readUnit_b89 F rs r1 x2 (I 6 ((I 4 1)).toNat) I) else ((f_W_put F r1 1 (w32 ((I 6 ((I 4 1)).toNat) - 267)) I).bind fun q24 => ((f_E_take F (I 6 ((I 4 1)).toNat) q24.2).bind fun q27 => (some q27))))) else ((f_W_put F r1 0 (I 9 ((I 4 1)).toNat) I).bind fun q30 => ((f_E_take F 301 q30.2).bind fun q33 => (some q33)))) else none) else (some I))
def f_E_readProduct_b55in8 (F : Nat) (rs : Nat → Int → MI → Option MI) (r1 : Nat) (x2 : Int) (x3 : Int) (s0 : Int) (I : MI) : Option ((MI) ⊕ (Int × MI)) :=
  (if 0 ≤ (I 4 1) ∧ (I 4 1) < 402 then ((f_E_take F (I 6 ((I 4 1)).toNat) I).bind fun q15 => ((f_E_readUnit F rs r1 x2 q15).bind fun q18 => ((f_W_put F r1 s0 0 q18).bind fun q21 => (some (.inr ((w32 (x3 + 1)), q21.2)))))) else none)
def f_E_readProduct_L8 (F : Nat) (rs : Nat → Int → MI → Option MI) (r1 : Nat) (x2 : Int) (x3 : Int) (I : MI) : Option ((MI) ⊕ (Int × MI)) :=
  (if 400 < x3 then (some (.inl I)) else (if ¬ (I 4 2) = 0 then (some (.inl I)) else ((f_E_isEither F 42 47 I).bind fun q7 => (if q7 = 0 then (some (.inl I)) else (if 0 ≤ (I 4 1) ∧ (I 4 1) < 402 then (if ¬ (I 6 ((I 4 1)).toNat) = 42 then (f_E_readProduct_b55in8 F rs r1 x2 x3 5 I) else (f_E_readProduct_b55in8 F rs r1 x2 x3 4 I)) else none)))))
def f_E_readProduct (F : Nat) (rs : Nat → Int → MI → Option MI) (r1 : Nat) (x2 : Int) (I : MI) : Option (MI) :=
  ((f_E_readUnit F rs r1 x2 I).bind fun q1 => ((iter (fun s : Int × MI => f_E_readProduct_L8 F rs r1 x2 s.1 s.2) F (0, q1)).bind fun e24 => (some e24)))
def f_E_readSum_b55in8 (F : Nat) (rs : Nat → Int → MI → Option MI) (r1 : Nat) (x2 : Int) (x3 : Int) (s0 : Int) (I : MI) : Option ((MI) ⊕ (Int × MI)) :=
  (if 0 ≤ (I 4 1) ∧ (I 4 1) < 402 then ((f_E_take F (I 6 ((I 4 1)).toNat) I).bind fun q15 => ((f_E_readProduct F rs r1 x2 q15).bind fun q18 => ((f_W_put F r1 s0 0 q18).bind fun q21 => (some (.inr ((w32 (x3 + 1)), q21.2)))))) else none)
def f_E_readSum_L8 (F : Nat) (rs : Nat → Int → MI → Option MI) (r1 : Nat) (x2 : Int) (x3 : Int) (I : MI) : Option ((MI) ⊕ (Int × MI)) :=
  (if 400 < x3 then (some (.inl I)) else (if ¬ (I 4 2) = 0 then (some (.inl I)) else ((f_E_isEither F 43 45 I).bind fun q7 => (if q7 = 0 then (some (.inl I)) else (if 0 ≤ (I 4 1) ∧ (I 4 1) < 402 then (if ¬ (I 6 ((I 4 1)).toNat) = 43 then (f_E_readSum_b55in8 F rs r1 x2 x3 3 I) else (f_E_readSum_b55in8 F rs r1 x2 x3 2 I)) else none)))))
def f_E_readSum_o (F : Nat) (rs : Nat → Int → MI → Option MI) (r1 : Nat) (x2 : Int) (I : MI) : Option (MI) :=
  ((f_E_readProduct F rs r1 x2 I).bind fun q1 => ((iter (fun s : Int × MI => f_E_readSum_L8 F rs r1 x2 s.1 s.2) F (0, q1)).bind fun e24 => (some e24)))
def f_E_readSum : Nat → Nat → Nat → Int → MI → Option MI
  | 0 => fun _ _ _ _ => none
  | d + 1 => fun F r x I => f_E_readSum_o F (fun r x I => f_E_readSum d F r x I) r x I
def f_E_readLaw_b68in28 (F : Nat) (r1 : Nat) (x2 : Int) (I : MI) : Option ((MI) ⊕ (Int × MI)) :=
  ((f_E_take F 264 I).bind fun q18 => ((f_E_readSum 10 F r1 0 q18).bind fun q21 => ((f_E_take F 60 q21).bind fun q24 => ((f_E_readSum 10 F r1 0 q24).bind fun q27 => ((f_E_take F 265 q27).bind fun q30 => ((f_W_put F r1 6 0 q30).bind fun q33 => ((f_E_readSum 10 F r1 0 q33.2).bind fun q36 => ((f_E_take F 266 q36).bind fun q39 => ((f_W_put F r1 7 0 q39).bind fun q42 => ((f_W_aimAtEnd F r1 q33.1 q42.2).bind fun q45 => (some (.inr ((w32 (x2 + 1)), q45)))))))))))))
def f_E_readLaw_L28 (F : Nat) (r1 : Nat) (x2 : Int) (I : MI) : Option ((MI) ⊕ (Int × MI)) :=
  (if 4 < x2 then (some (.inl I)) else (if ¬ (I 4 2) = 0 then (some (.inl I)) else (if 0 ≤ (I 4 1) ∧ (I 4 1) < 402 then (if ¬ (I 6 ((I 4 1)).toNat) = 264 then (some (.inl I)) else (if ¬ x2 = 4 then (f_E_readLaw_b68in28 F r1 x2 I) else ((f_E_fail F 2 I).bind fun q48 => (f_E_readLaw_b68in28 F r1 x2 q48)))) else none)))
def f_E_readLaw (F : Nat) (r1 : Nat) (I : MI) : Option (MI) :=
  ((f_W_clear F r1 I).bind fun q1 => (if 0 ≤ (q1 4 1) ∧ (q1 4 1) < 402 then ((f_E_take F (q1 6 ((q1 4 1)).toNat) q1).bind fun q6 => ((f_E_take F 61 q6).bind fun q9 => ((iter (fun s : Int × MI => f_E_readLaw_L28 F r1 s.1 s.2) F (0, q9)).bind fun e51 => ((f_E_readSum 10 F r1 0 e51).bind fun q54 => ((f_W_put F r1 7 0 q54).bind fun q57 => ((f_E_take F 59 q57.2).bind fun q60 => (some q60))))))) else none))
def f_E_readLeap (F : Nat) (r1 : Nat) (I : MI) : Option (MI) :=
  ((f_E_take F 259 I).bind fun q1 => ((f_E_takeInt F 1 4 q1).bind fun q4 => ((f_E_take F 59 (up2 q4.2 r1 2 q4.1)).bind fun q7 => (some q7))))
def f_E_isSameName_L26 (F : Nat) (x2 : Int) (x3 : Int) (x4 : Int) (I : MI) : Option (((Unit) ⊕ (Unit)) ⊕ (Int)) :=
  (if 0 ≤ x2 ∧ x2 < 402 then (if (I 8 (x2).toNat) ≤ x4 then (some (.inl (.inr ()))) else ((f_T_byteAt F (w32 ((I 7 (x2).toNat) + x4)) I).bind fun q8 => (if 0 ≤ x3 ∧ x3 < 402 then ((f_T_byteAt F (w32 ((I 7 (x3).toNat) + x4)) I).bind fun q12 => (if q8 = q12 then (some (.inr (w32 (x4 + 1)))) else (some (.inl (.inl ()))))) else none))) else none)
def f_E_isSameName (F : Nat) (x2 : Int) (x3 : Int) (I : MI) : Option (Int) :=
  (if 0 ≤ x2 ∧ x2 < 402 then (if 0 ≤ x3 ∧ x3 < 402 then (if (I 8 (x2).toNat) = (I 8 (x3).toNat) then ((iter (fun s : Int => f_E_isSameName_L26 F x2 x3 s I) F 0).bind fun e16 => (match e16 with | .inl e18 => (some 0) | .inr o19 => (some 1))) else (some 0)) else none) else none)
def f_E_takeName_L30 (F : Nat) (x2 : Int) (x3 : Int) (x4 : Int) (I : MI) : Option ((MI) ⊕ (Int × MI)) :=
  (if x2 ≤ x4 then (some (.inl I)) else (if 0 ≤ x4 ∧ x4 < 8 then ((f_E_isSameName F x3 (I 10 (x4).toNat) I).bind fun q11 => (if q11 = 0 then (some (.inr ((w32 (x4 + 1)), I))) else (if 0 ≤ x3 ∧ x3 < 402 then ((f_E_failLater F 3 (I 7 (x3).toNat) I).bind fun q16 => (some (.inr ((w32 (x4 + 1)), q16)))) else none))) else none))
def f_E_takeName (F : Nat) (x2 : Int) (I : MI) : Option (MI) :=
  (if 0 ≤ x2 ∧ x2 < 8 then ((f_E_take F 300 (up2 I 10 (x2).toNat (I 4 1))).bind fun q3 => (if (q3 4 2) = 0 then ((iter (fun s : Int × MI => f_E_takeName_L30 F x2 (I 4 1) s.1 s.2) F (0, q3)).bind fun e19 => (some e19)) else (some q3))) else none)
def f_E_readLeaver (F : Nat) (r2 : Nat) (I : MI) : Option (MI) :=
  (if (I r2 5) < 8 then ((f_E_take F 260 I).bind fun q3 => ((f_E_takeName F (I r2 5) q3).bind fun q6 => ((f_E_takeInt F 0 99 q6).bind fun q9 => (if 0 ≤ (I r2 5) ∧ (I r2 5) < 8 then ((f_E_takeInt F 1 9 (up2 q9.2 (r2 + 3) ((I r2 5)).toNat q9.1)).bind fun q13 => ((f_E_takeInt F 1 9 (up2 q13.2 (r2 + 4) ((I r2 5)).toNat q13.1)).bind fun q16 => ((f_E_takeInt F 0 99 (up2 q16.2 (r2 + 5) ((I r2 5)).toNat q16.1)).bind fun q19 => ((f_E_take F 59 (up2 q19.2 (r2 + 6) ((I r2 5)).toNat q19.1)).bind fun q22 => (some (up2 q22 r2 5 (w32 ((q22 r2 5) + 1)))))))) else none)))) else ((f_E_fail F 2 I).bind fun q26 => (some q26)))
def f_E_readRiver (F : Nat) (r1 : Nat) (I : MI) : Option (MI) :=
  ((f_E_take F 256 I).bind fun q1 => ((f_E_takeInt F 1 12 q1).bind fun q4 => ((f_E_takeInt F 1 8 (up2 q4.2 r1 0 q4.1)).bind fun q7 => ((f_E_take F 59 (up2 q7.2 r1 1 q7.1)).bind fun q10 => (some q10)))))
def f_E_readText_L34 (F : Nat) (r2 : Nat) (x3 : Int) (I : MI) : Option ((MI) ⊕ (Int × MI)) :=
  (if 400 < x3 then (some (.inl I)) else (if ¬ (I 4 2) = 0 then (some (.inl I)) else (if 0 ≤ (I 4 1) ∧ (I 4 1) < 402 then (if (I 6 ((I 4 1)).toNat) = 302 then (some (.inl I)) else (if (I 6 ((I 4 1)).toNat) = 256 then ((f_E_readRiver F r2 I).bind fun q13 => (some (.inr ((w32 (x3 + 1)), q13)))) else (if (I 6 ((I 4 1)).toNat) = 257 then ((f_E_readDepth F r2 I).bind fun q17 => (some (.inr ((w32 (x3 + 1)), q17)))) else (if (I 6 ((I 4 1)).toNat) = 258 then ((f_E_readFlow F r2 I).bind fun q21 => (some (.inr ((w32 (x3 + 1)), q21)))) else (if (I 6 ((I 4 1)).toNat) = 259 then ((f_E_readLeap F r2 I).bind fun q25 => (some (.inr ((w32 (x3 + 1)), q25)))) else (if (I 6 ((I 4 1)).toNat) = 260 then ((f_E_readLeaver F r2 I).bind fun q29 => (some (.inr ((w32 (x3 + 1)), q29)))) else (if (I 6 ((I 4 1)).toNat) = 261 then ((f_E_readFlood F r2 I).bind fun q33 => (some (.inr ((w32 (x3 + 1)), q33)))) else (if (I 6 ((I 4 1)).toNat) = 262 then ((f_E_readLaw F (r2 + 9) I).bind fun q37 => (some (.inr ((w32 (x3 + 1)), q37)))) else (if (I 6 ((I 4 1)).toNat) = 263 then ((f_E_readLaw F (r2 + 14) I).bind fun q41 => (some (.inr ((w32 (x3 + 1)), q41)))) else ((f_E_fail F 1 I).bind fun q44 => (some (.inr ((w32 (x3 + 1)), q44))))))))))))) else none)))
def f_E_readText (F : Nat) (r2 : Nat) (I : MI) : Option (Int × MI) :=
  ((f_K_scan F I).bind fun q1 => ((f_R_clear F r2 q1).bind fun q4 => ((iter (fun s : Int × MI => f_E_readText_L34 F r2 s.1 s.2) F (0, (up2 (up2 (up2 (up2 q4 4 1 0) 4 2 0) 4 4 0) 4 6 0))).bind fun e47 => (if (e47 4 2) = 0 then (some ((e47 4 4), e47)) else (some ((e47 4 2), e47))))))
def f_E_faultPlace (F : Nat) (I : MI) : Option (Int) :=
  (if (I 4 2) = 0 then (some (I 4 5)) else (some (I 4 3)))
def f_Y_firstWithCost_L3 (F : Nat) (r1 : Nat) (x2 : Int) (x3 : Int) (x4 : Int) (I : MI) : Option (((Int) ⊕ ((Int) ⊕ (Unit))) ⊕ (Int)) :=
  (if 96 ≤ x4 then (some (.inl (.inr (.inr ())))) else (if 0 ≤ x4 ∧ x4 < 96 then (if (I 245 (x4).toNat) < 0 then (some (.inr (w32 (x4 + 1)))) else (if (I 247 (x4).toNat) = x3 then (if ¬ x2 = (-1) then ((f_R_isWithinLeap F r1 x2 x4 I).bind fun q7 => (if q7 = 0 then (some (.inr (w32 (x4 + 1)))) else (some (.inl (.inr (.inl x4)))))) else ((f_R_isNearEnough F r1 x4 I).bind fun q11 => (if q11 = 0 then (some (.inr (w32 (x4 + 1)))) else (some (.inl (.inl x4)))))) else (some (.inr (w32 (x4 + 1)))))) else none))
def f_Y_firstWithCost (F : Nat) (r1 : Nat) (x2 : Int) (x3 : Int) (I : MI) : Option (Int) :=
  ((iter (fun s : Int => f_Y_firstWithCost_L3 F r1 x2 x3 s I) F 0).bind fun e15 => (match e15 with | .inl e17 => (some e17) | .inr o18 => (match o18 with | .inl e20 => (some e20) | .inr o21 => (some (-1)))))
def f_Y_drawLine_L9 (F : Nat) (r1 : Nat) (x3 : Int) (x4 : Int) (x5 : Int) (x6 : Int) (x7 : Int) (I : MI) : Option (((MI) ⊕ (MI)) ⊕ (Int × Int × Int × MI)) :=
  (if 96 ≤ x7 then (some (.inl (.inr I))) else (if x6 ≤ x4 then (some (.inl (.inr I))) else ((f_Y_firstWithCost F r1 x5 (w32 (x6 - x4)) I).bind fun q3 => (if ¬ q3 = (-1) then (if 0 ≤ (I 244 2) ∧ (I 244 2) < 96 then (if 0 ≤ q3 ∧ q3 < 96 then (some (.inr (q3, (w32 (((up2 (up2 I 246 ((I 244 2)).toNat q3) 244 2 (w32 (((up2 I 246 ((I 244 2)).toNat q3) 244 2) + 1))) 247 (q3).toNat) - (w32 (x3 * ((up2 (up2 I 246 ((I 244 2)).toNat q3) 244 2 (w32 (((up2 I 246 ((I 244 2)).toNat q3) 244 2) + 1))) 245 (q3).toNat))))), (w32 (x7 + 1)), (up2 (up2 I 246 ((I 244 2)).toNat q3) 244 2 (w32 (((up2 I 246 ((I 244 2)).toNat q3) 244 2) + 1)))))) else none) else none) else (some (.inl (.inl I)))))))
def f_Y_drawLine (F : Nat) (r1 : Nat) (x2 : Int) (x3 : Int) (x4 : Int) (I : MI) : Option (MI) :=
  ((iter (fun s : Int × Int × Int × MI => f_Y_drawLine_L9 F r1 x3 x4 s.1 s.2.1 s.2.2.1 s.2.2.2) F ((-1), x2, 0, I)).bind fun e12 => (match e12 with | .inl e14 => (some e14) | .inr o15 => (some o15)))
def f_Y_cheapest_L7 (F : Nat) (x1 : Int) (x2 : Int) (x3 : Int) (I : MI) : Option ((Int) ⊕ (Int × Int × Int)) :=
  (if 96 ≤ x3 then (some (.inl x1)) else (if 0 ≤ x3 ∧ x3 < 96 then (if ¬ (I 248 (x3).toNat) = 0 then (some (.inr (x1, x2, (w32 (x3 + 1))))) else (if (I 247 (x3).toNat) < x2 then (some (.inr (x3, (I 247 (x3).toNat), (w32 (x3 + 1))))) else (some (.inr (x1, x2, (w32 (x3 + 1))))))) else none))
def f_Y_cheapest (F : Nat) (I : MI) : Option (Int) :=
  ((iter (fun s : Int × Int × Int => f_Y_cheapest_L7 F s.1 s.2.1 s.2.2 I) F ((-1), 1073741824, 0)).bind fun e6 => (some e6))
def f_Y_weighCosts_b63in3 (F : Nat) (r1 : Nat) (x2 : Int) (x3 : Int) (x4 : Int) (s1 : Int) (s2 : Int) (I : MI) : Option ((MI) ⊕ (Int × MI)) :=
  (if 0 ≤ s1 ∧ s1 < 96 then (if 0 ≤ x4 ∧ x4 < 96 then (some (.inr ((w32 (x4 + 1)), (up2 (up2 I 247 (s1).toNat s2) 248 (x4).toNat 0)))) else none) else none)
def f_Y_weighCosts_b34in3 (F : Nat) (r1 : Nat) (x2 : Int) (x3 : Int) (x4 : Int) (s0 : Int) (I : MI) : Option ((MI) ⊕ (Int × MI)) :=
  (if s0 = 0 then (f_Y_weighCosts_b63in3 F r1 x2 x3 x4 x4 1073741824 I) else (if 0 ≤ x4 ∧ x4 < 96 then (f_Y_weighCosts_b63in3 F r1 x2 x3 x4 x4 (w32 ((w32 (x2 * (I 245 (x4).toNat))) + x3)) I) else none))
def f_Y_weighCosts_b33in3 (F : Nat) (r1 : Nat) (x2 : Int) (x3 : Int) (x4 : Int) (I : MI) : Option ((MI) ⊕ (Int × MI)) :=
  (f_Y_weighCosts_b34in3 F r1 x2 x3 x4 0 I)
def f_Y_weighCosts_L3 (F : Nat) (r1 : Nat) (x2 : Int) (x3 : Int) (x4 : Int) (I : MI) : Option ((MI) ⊕ (Int × MI)) :=
  (if 96 ≤ x4 then (some (.inl I)) else (if 0 ≤ x4 ∧ x4 < 96 then (if (I 245 (x4).toNat) < 0 then (f_Y_weighCosts_b33in3 F r1 x2 x3 x4 I) else ((f_R_isFarEnough F r1 x4 I).bind fun q10 => (if q10 = 0 then (f_Y_weighCosts_b33in3 F r1 x2 x3 x4 I) else (f_Y_weighCosts_b34in3 F r1 x2 x3 x4 1 I)))) else none))
def f_Y_weighCosts_L118 (F : Nat) (r1 : Nat) (x2 : Int) (x3 : Int) (x4 : Int) (x5 : Int) (x6 : Int) (x7 : Int) (I : MI) : Option ((MI) ⊕ (Int × MI)) :=
  (if x4 ≤ x7 then (some (.inl I)) else ((f_R_leapFrom F r1 x6 x7 I).bind fun q27 => (if q27 = (-1) then (some (.inr ((w32 (x7 + 1)), I))) else (if 0 ≤ q27 ∧ q27 < 96 then (if 0 ≤ (I 245 (q27).toNat) then (if 0 ≤ x6 ∧ x6 < 96 then (some (.inr ((w32 (x7 + 1)), (up2 I 247 (q27).toNat (min (I 247 (q27).toNat) (w32 ((w32 ((w32 (x2 * (I 245 (q27).toNat))) + x3)) + (I 247 (x6).toNat)))))))) else none) else (some (.inr ((w32 (x7 + 1)), I)))) else none))))
def f_Y_weighCosts_L87 (F : Nat) (r1 : Nat) (x2 : Int) (x3 : Int) (x4 : Int) (x5 : Int) (I : MI) : Option (((MI) ⊕ (MI)) ⊕ (Int × MI)) :=
  (if 96 ≤ x5 then (some (.inl (.inr I))) else ((f_Y_cheapest F I).bind fun q21 => (if ¬ q21 = (-1) then (if 0 ≤ q21 ∧ q21 < 96 then ((iter (fun s : Int × MI => f_Y_weighCosts_L118 F r1 x2 x3 x4 x5 q21 s.1 s.2) F (0, (up2 I 248 (q21).toNat 1))).bind fun e35 => (some (.inr ((w32 (x5 + 1)), e35)))) else none) else (some (.inl (.inl I))))))
def f_Y_weighCosts (F : Nat) (r1 : Nat) (x2 : Int) (x3 : Int) (I : MI) : Option (MI) :=
  ((iter (fun s : Int × MI => f_Y_weighCosts_L3 F r1 x2 x3 s.1 s.2) F (0, I)).bind fun e14 => ((f_R_countLeaps F r1 e14).bind fun q17 => ((iter (fun s : Int × MI => f_Y_weighCosts_L87 F r1 x2 x3 q17 s.1 s.2) F (0, e14)).bind fun e38 => (match e38 with | .inl e40 => (some e40) | .inr o41 => (some o41)))))
def f_Y_find_L30 (F : Nat) (r1 : Nat) (x2 : Int) (x3 : Int) (x4 : Int) (x5 : Int) (I : MI) : Option ((Int) ⊕ (Int × Int)) :=
  (if 96 ≤ x5 then (some (.inl x4)) else (if 0 ≤ x5 ∧ x5 < 96 then (if 1073741824 ≤ (I 247 (x5).toNat) then (some (.inr (x4, (w32 (x5 + 1))))) else ((f_R_isNearEnough F r1 x5 I).bind fun q12 => (if q12 = 0 then (some (.inr (x4, (w32 (x5 + 1))))) else (some (.inr ((min x4 (w32 (x3 + (I 247 (x5).toNat)))), (w32 (x5 + 1)))))))) else none))
def f_Y_find_b25 (F : Nat) (r1 : Nat) (x2 : Int) (x3 : Int) (s0 : Int) (I : MI) : Option (Int × MI) :=
  ((iter (fun s : Int × Int => f_Y_find_L30 F r1 x2 x3 s.1 s.2 I) F (s0, 0)).bind fun e16 => (if e16 < 1073741824 then ((f_Y_drawLine F r1 e16 x2 x3 I).bind fun q20 => (some (1, q20))) else (some (0, I))))
def f_Y_find (F : Nat) (r1 : Nat) (x2 : Int) (x3 : Int) (I : MI) : Option (Int × MI) :=
  ((f_Y_weighCosts F r1 x2 x3 (up2 I 244 2 0)).bind fun q1 => ((f_R_isLeptAtOnce F r1 q1).bind fun q4 => (if q4 = 0 then (f_Y_find_b25 F r1 x2 x3 1073741824 q1) else (f_Y_find_b25 F r1 x2 x3 x3 q1))))
def f_Y_leaps (F : Nat) (I : MI) : Option (Int) :=
  (some (w32 ((I 244 2) + 1)))
def f_Y_leadOver_b56in19 (F : Nat) (r1 : Nat) (x2 : Int) (x3 : Int) (x4 : Int) (s1 : Int) (s2 : Int) (I : MI) : Option ((Int × MI) ⊕ (Int × Int × MI)) :=
  (if 0 ≤ s1 ∧ s1 < 96 then (if 0 ≤ x4 ∧ x4 < 96 then (if ¬ ((up2 I 248 (s1).toNat s2) 248 (x4).toNat) = 0 then (if 0 ≤ x3 ∧ x3 < 96 then (some (.inr ((w32 (x3 + 1)), (w32 (x4 + 1)), (up2 (up2 I 248 (s1).toNat s2) 249 (x3).toNat x4)))) else none) else (some (.inr (x3, (w32 (x4 + 1)), (up2 I 248 (s1).toNat s2))))) else none) else none)
def f_Y_leadOver_b55in19 (F : Nat) (r1 : Nat) (x2 : Int) (x3 : Int) (x4 : Int) (s1 : Int) (I : MI) : Option ((Int × MI) ⊕ (Int × Int × MI)) :=
  (f_Y_leadOver_b56in19 F r1 x2 x3 x4 s1 0 I)
def f_Y_leadOver_L19 (F : Nat) (r1 : Nat) (x2 : Int) (x3 : Int) (x4 : Int) (I : MI) : Option ((Int × MI) ⊕ (Int × Int × MI)) :=
  (if 96 ≤ x4 then (some (.inl (x3, I))) else (if 0 ≤ x4 ∧ x4 < 96 then (if (I 245 (x4).toNat) < 0 then (f_Y_leadOver_b55in19 F r1 x2 x3 x4 x4 I) else ((f_R_isNearEnough F r1 x4 I).bind fun q17 => (if q17 = 0 then (f_Y_leadOver_b55in19 F r1 x2 x3 x4 x4 I) else (f_Y_leadOver_b56in19 F r1 x2 x3 x4 x4 1 I)))) else none))
def f_Y_leadOver_L126 (F : Nat) (r1 : Nat) (x2 : Int) (x3 : Int) (x4 : Int) (x5 : Int) (x6 : Int) (I : MI) : Option ((Int × MI) ⊕ (Int × Int × MI)) :=
  (if x2 ≤ x6 then (some (.inl (x3, I))) else ((f_R_leapFrom F r1 x5 x6 I).bind fun q33 => (if q33 = (-1) then (some (.inr (x3, (w32 (x6 + 1)), I))) else (if 0 ≤ q33 ∧ q33 < 96 then (if (I 245 (q33).toNat) < 0 then (some (.inr (x3, (w32 (x6 + 1)), I))) else (if (I 248 (q33).toNat) = 0 then (if 0 ≤ x3 ∧ x3 < 96 then (some (.inr ((w32 (x3 + 1)), (w32 (x6 + 1)), (up2 (up2 I 248 (q33).toNat 1) 249 (x3).toNat q33)))) else none) else (some (.inr (x3, (w32 (x6 + 1)), I))))) else none))))
def f_Y_leadOver_L90 (F : Nat) (r1 : Nat) (x2 : Int) (x3 : Int) (x4 : Int) (I : MI) : Option (((MI) ⊕ (MI)) ⊕ (Int × Int × MI)) :=
  (if x3 ≤ x4 then (some (.inl (.inr I))) else (if 96 ≤ x4 then (some (.inl (.inr I))) else (if 0 ≤ x4 ∧ x4 < 96 then ((f_R_isFarEnough F r1 (I 249 (x4).toNat) I).bind fun q28 => (if q28 = 0 then ((iter (fun s : Int × Int × MI => f_Y_leadOver_L126 F r1 x2 s.1 x4 (I 249 (x4).toNat) s.2.1 s.2.2) F (x3, 0, I)).bind fun e42 => (some (.inr (e42.1, (w32 (x4 + 1)), e42.2)))) else (some (.inl (.inl I))))) else none)))
def f_Y_leadOver (F : Nat) (r1 : Nat) (I : MI) : Option (Int × MI) :=
  ((f_R_isLeptAtOnce F r1 I).bind fun q1 => (if q1 = 0 then ((f_R_countLeaps F r1 I).bind fun q5 => ((iter (fun s : Int × Int × MI => f_Y_leadOver_L19 F r1 q5 s.1 s.2.1 s.2.2) F (0, 0, I)).bind fun e21 => ((iter (fun s : Int × Int × MI => f_Y_leadOver_L90 F r1 q5 s.1 s.2.1 s.2.2) F (e21.1, 0, e21.2)).bind fun e45 => (match e45 with | .inl e47 => (some (1, e47)) | .inr o48 => (some (0, o48)))))) else (some (1, I))))
