def f_X_feed (F : Nat) (x1 : Int) (x2 : Int) (x3 : Int) (x4 : Int) (x5 : Int) (I : MI) : Option (Int × MI) :=
  (if (w32 ((I 2 1) + 20)) ≤ 2000 then ((f_T_put F x1 I).bind fun q3 => ((f_T_put F x2 q3).bind fun q6 => ((f_T_put F x3 q6).bind fun q9 => ((f_T_put F x4 q9).bind fun q12 => ((f_T_put F x5 q12).bind fun q15 => (some ((q15 2 1), q15))))))) else (some ((-1), I)))
def f_X_back (F : Nat) (x1 : Int) (I : MI) : Option (Int × MI) :=
  (if x1 < 0 then (some ((-1), I)) else (if x1 ≤ (I 2 1) then (some (((up2 I 2 1 (w32 ((I 2 1) - x1))) 2 1), (up2 I 2 1 (w32 ((I 2 1) - x1))))) else (some ((-1), I))))
def f_X_beginAnew_L21 (F : Nat) (x1 : Int) (I : MI) : Option ((MI) ⊕ (Int × MI)) :=
  (if 3 ≤ x1 then (some (.inl I)) else (if 0 ≤ x1 ∧ x1 < 3 then (some (.inr ((w32 (x1 + 1)), (up2 I 241 (x1).toNat 0)))) else none))
def f_X_beginAnew (F : Nat) (I : MI) : Option (MI) :=
  ((f_B_clear F 49 I).bind fun q1 => ((f_P_clear F q1).bind fun q4 => ((iter (fun s : Int × MI => f_X_beginAnew_L21 F s.1 s.2) F (0, (up2 q4 1 12 0))).bind fun e9 => (some e9))))
def f_X_read_b40 (F : Nat) (x1 : Int) (s1 : Int) (rv : Nat) (sp : Nat) (I : MI) : Option (Int × MI × Nat × Nat) :=
  (if ¬ x1 = 0 then (some (x1, (up2 I 1 2 s1), rv, sp)) else ((f_X_beginAnew F (up2 I 1 2 s1)).bind fun q9 => (some (x1, q9, sp, rv))))
def f_X_read (F : Nat) (rv : Nat) (sp : Nat) (I : MI) : Option (Int × MI × Nat × Nat) :=
  ((f_E_readText F sp I).bind fun q1 => (if ¬ q1.1 = 0 then ((f_E_faultPlace F (up2 q1.2 2 1 0)).bind fun q5 => (f_X_read_b40 F q1.1 q5 rv sp (up2 q1.2 2 1 0))) else (f_X_read_b40 F q1.1 (-1) rv sp (up2 q1.2 2 1 0))))
def f_X_place (F : Nat) (I : MI) : Option (Int) :=
  (some (I 1 2))
def f_X_cell (F : Nat) (x1 : Int) (x2 : Int) (x3 : Int) (rv : Nat) (I : MI) : Option (Int × MI) :=
  ((f_R_has F rv x1 x2 I).bind fun q1 => (if ¬ q1 = 0 then ((f_X_cellNumber F x1 x2 I).bind fun q5 => (if x3 = 0 then (if 0 ≤ q5 ∧ q5 < 96 then (some ((I (49 + 1) (q5).toNat), I)) else none) else (if x3 = 1 then (if 0 ≤ q5 ∧ q5 < 96 then (some ((I (rv + 1) (q5).toNat), I)) else none) else (if x3 = 2 then ((f_B_mossAt F 49 q5 I).bind fun q15 => (some (q15, I))) else (if x3 = 3 then ((f_B_isStep F 49 rv q5 I).bind fun q19 => (if q19 = 0 then (some (0, I)) else (some (1, I)))) else (if x3 = 4 then ((f_B_isStep F 49 rv q5 I).bind fun q24 => (if q24 = 0 then (some ((-2), I)) else ((f_B_slippery F 49 rv q5 I).bind fun q28 => (some (q28.1, q28.2))))) else (if x3 = 5 then (if 0 ≤ q5 ∧ q5 < 96 then (if (I (49 + 1) (q5).toNat) ≤ 0 then (some ((-2), I)) else ((f_B_ownerAt F 49 q5 (w32 ((I (49 + 1) (q5).toNat) - 1)) I).bind fun q35 => (some (q35, I)))) else none) else (some ((-1), I))))))))) else (some ((-1), I))))
def f_X_stone (F : Nat) (x1 : Int) (x2 : Int) (x3 : Int) (rv : Nat) (I : MI) : Option (Int) :=
  ((f_R_has F rv x1 x2 I).bind fun q1 => (if ¬ q1 = 0 then ((f_X_cellNumber F x1 x2 I).bind fun q5 => (if x3 < 0 then (some (-1)) else (if 0 ≤ q5 ∧ q5 < 96 then (if x3 < (I (49 + 1) (q5).toNat) then ((f_B_ownerAt F 49 q5 x3 I).bind fun q12 => (some q12)) else (some (-1))) else none))) else (some (-1))))
def f_X_isLeaver (F : Nat) (x1 : Int) (rv : Nat) (I : MI) : Option (Int) :=
  (if x1 < 0 then (some 0) else (if (I rv 5) ≤ x1 then (some 0) else (some 1)))
def f_X_leaver (F : Nat) (x1 : Int) (x2 : Int) (rv : Nat) (I : MI) : Option (Int) :=
  ((f_X_isLeaver F x1 rv I).bind fun q1 => (if ¬ q1 = 0 then (if x2 = 0 then ((f_B_left F 49 rv x1 I).bind fun q6 => (some q6)) else (if x2 = 1 then (if 0 ≤ x1 ∧ x1 < 8 then (some (w32 ((I (49 + 5) (x1).toNat) - (I (49 + 6) (x1).toNat)))) else none) else (if x2 = 2 then (if 0 ≤ x1 ∧ x1 < 8 then (some (I (49 + 6) (x1).toNat)) else none) else (if x2 = 3 then (if 0 ≤ x1 ∧ x1 < 8 then (some (I (rv + 4) (x1).toNat)) else none) else (if x2 = 4 then ((f_B_mayThrow F 49 rv x1 I).bind fun q19 => (if q19 = 0 then (some 0) else (some 1))) else (some (-1))))))) else (some (-1))))
def f_X_countHeld_L4 (F : Nat) (x1 : Int) (x2 : Int) (I : MI) : Option ((Int) ⊕ (Int × Int)) :=
  (if 3 ≤ x2 then (some (.inl x1)) else (if 0 ≤ x2 ∧ x2 < 3 then (if (I 241 (x2).toNat) = 0 then (some (.inr (x1, (w32 (x2 + 1))))) else (some (.inr ((w32 (x1 + 1)), (w32 (x2 + 1)))))) else none))
def f_X_countHeld (F : Nat) (I : MI) : Option (Int) :=
  ((iter (fun s : Int × Int => f_X_countHeld_L4 F s.1 s.2 I) F (0, 0)).bind fun e5 => (some e5))
def f_X_count (F : Nat) (x1 : Int) (rv : Nat) (I : MI) : Option (Int) :=
  (if x1 = 0 then (some (I rv 0)) else (if x1 = 1 then (some (I rv 1)) else (if x1 = 2 then (some (I rv 2)) else (if x1 = 3 then (some (I rv 5)) else (if x1 = 4 then (some (I rv 10)) else (if x1 = 5 then (some (I 49 0)) else (if x1 = 6 then ((f_B_countLying F 49 I).bind fun q14 => (some q14)) else (if x1 = 7 then ((f_B_countLost F 49 I).bind fun q18 => (some q18)) else (if x1 = 8 then ((f_B_countSteps F 49 rv I).bind fun q22 => (some q22)) else (if x1 = 9 then (some (I 2 1)) else (if x1 = 10 then (some (I 63 2)) else (if x1 = 11 then (some (I 1 12)) else (if x1 = 12 then ((f_X_countHeld F I).bind fun q32 => (some q32)) else (some (-1)))))))))))))))
def f_X_cellName (F : Nat) (x0 : Int) (I : MI) : Option (Int) :=
  (some (w32 ((w32 (100 * (div32 x0 12))) + (rem32 x0 12))))
def f_X_hurl (F : Nat) (x1 : Int) (x2 : Int) (x3 : Int) (rv : Nat) (I : MI) : Option (Int × MI) :=
  ((f_X_isLeaver F x1 rv I).bind fun q1 => (if q1 = 0 then (some ((-1), I)) else ((f_R_has F rv x2 x3 I).bind fun q5 => (if q5 = 0 then (some ((-1), I)) else ((f_B_mayThrow F 49 rv x1 I).bind fun q9 => (if ¬ q9 = 0 then ((f_P_keep F 49 I).bind fun q13 => ((f_B_throwStone F 49 rv x1 x2 x3 q13).bind fun q16 => (if ¬ q16.1 = (-2) then ((f_X_cellName F q16.1 q16.2).bind fun q20 => (some ((w32 (1000 + q20)), q16.2))) else (some ((-2), q16.2))))) else (some ((-1), I))))))))
def f_X_days_b47 (F : Nat) (rv : Nat) (I : MI) : Option (Int × MI) :=
  (some ((I 49 0), I))
def f_X_days (F : Nat) (x1 : Int) (rv : Nat) (I : MI) : Option (Int × MI) :=
  (if x1 < 0 then (some ((-1), I)) else (if x1 ≤ 100 then (if x1 ≤ 0 then (f_X_days_b47 F rv I) else ((f_P_keep F 49 I).bind fun q5 => ((f_B_passDays F 49 rv x1 0 (q5 rv 1) q5).bind fun q9 => (f_X_days_b47 F rv q9)))) else (some ((-1), I))))
def f_X_undo (F : Nat) (I : MI) : Option (Int × MI) :=
  ((f_P_bringBack F 49 I).bind fun q1 => (some (q1.1, q1.2)))
def f_X_hold (F : Nat) (x1 : Int) (I : MI) : Option (Int × MI) :=
  (if x1 < 0 then (some (0, I)) else (if x1 < 3 then (if 0 ≤ x1 ∧ x1 < 3 then ((f_B_copyFrom F (275 + 7 * (x1).toNat) 49 I).bind fun q4 => (some (1, (up2 q4 241 (x1).toNat 1)))) else none) else (some (0, I))))
def f_X_restore (F : Nat) (x1 : Int) (I : MI) : Option (Int × MI) :=
  (if x1 < 0 then (some (0, I)) else (if 3 ≤ x1 then (some (0, I)) else (if 0 ≤ x1 ∧ x1 < 3 then (if ¬ (I 241 (x1).toNat) = 0 then ((f_B_copyFrom F 49 (275 + 7 * (x1).toNat) I).bind fun q6 => ((f_P_clear F q6).bind fun q9 => (some (1, q9)))) else (some (0, I))) else none)))
def f_X_findWayOver (F : Nat) (x1 : Int) (rv : Nat) (I : MI) : Option (Int × MI) :=
  ((f_B_weighSlippery F 49 rv I).bind fun q1 => (if ¬ x1 = 0 then ((f_Y_find F rv 1000 1 q1).bind fun q5 => (some (q5.1, q5.2))) else ((f_Y_find F rv 1 10000 q1).bind fun q8 => (some (q8.1, q8.2)))))
def f_X_over (F : Nat) (x1 : Int) (x2 : Int) (rv : Nat) (I : MI) : Option (Int × MI) :=
  (if x1 < 0 then (some ((-1), I)) else (if 1 < x1 then (some ((-1), I)) else (if x2 < 0 then (some ((-1), I)) else (if x2 ≤ 1 then ((f_X_findWayOver F x1 rv I).bind fun q5 => (if ¬ q5.1 = 0 then (if ¬ x2 = 0 then ((f_Y_sum F q5.2).bind fun q10 => (some (q10, q5.2))) else ((f_Y_leaps F q5.2).bind fun q13 => (some (q13, q5.2)))) else (some ((-2), q5.2)))) else (some ((-1), I))))))
def f_X_overAt (F : Nat) (x1 : Int) (x2 : Int) (rv : Nat) (I : MI) : Option (Int × MI) :=
  (if x1 < 0 then (some ((-1), I)) else (if 1 < x1 then (some ((-1), I)) else (if 0 ≤ x2 then ((f_X_findWayOver F x1 rv I).bind fun q4 => (if ¬ q4.1 = 0 then (if (q4.2 244 2) ≤ x2 then (some ((-1), q4.2)) else (if 0 ≤ x2 ∧ x2 < 96 then ((f_X_cellName F (q4.2 246 (x2).toNat) q4.2).bind fun q11 => (some (q11, q4.2))) else none)) else (some ((-2), q4.2)))) else (some ((-1), I)))))
def f_X_findLack (F : Nat) (rv : Nat) (I : MI) : Option (MI) :=
  ((f_B_weighLack F 49 rv I).bind fun q1 => ((f_Y_find F rv 1000 1 q1).bind fun q4 => (some q4.2)))
def f_X_lack (F : Nat) (x1 : Int) (rv : Nat) (I : MI) : Option (Int × MI) :=
  (if x1 < 0 then (some ((-1), I)) else (if x1 ≤ 1 then ((f_X_findLack F rv I).bind fun q3 => (if ¬ x1 = 0 then ((f_Y_leaps F q3).bind fun q7 => (some (q7, q3))) else ((f_Y_sum F q3).bind fun q10 => (some (q10, q3))))) else (some ((-1), I))))
def f_X_lackAt (F : Nat) (x1 : Int) (rv : Nat) (I : MI) : Option (Int × MI) :=
  (if 0 ≤ x1 then ((f_X_findLack F rv I).bind fun q2 => (if (q2 244 2) ≤ x1 then (some ((-1), q2)) else (if 0 ≤ x1 ∧ x1 < 96 then ((f_X_cellName F (q2 246 (x1).toNat) q2).bind fun q8 => (some (q8, q2))) else none))) else (some ((-1), I)))
def f_X_findGivers (F : Nat) (rv : Nat) (I : MI) : Option (Int × MI) :=
  ((f_X_findLack F rv I).bind fun q1 => ((f_V_settle F rv 49 q1).bind fun q4 => (some (q4.1, q4.2))))
def f_X_grief (F : Nat) (rv : Nat) (I : MI) : Option (Int × MI) :=
  ((f_X_findGivers F rv I).bind fun q1 => (if q1.1 = 0 then (some ((-2), q1.2)) else ((f_V_sum F q1.2).bind fun q5 => (some (q5, q1.2)))))
def f_X_gives (F : Nat) (x1 : Int) (rv : Nat) (I : MI) : Option (Int × MI) :=
  ((f_X_isLeaver F x1 rv I).bind fun q1 => (if ¬ q1 = 0 then ((f_X_findGivers F rv I).bind fun q5 => (if q5.1 = 0 then (some ((-2), q5.2)) else (if 0 ≤ x1 ∧ x1 < 8 then (some ((q5.2 269 (x1).toNat), q5.2)) else none))) else (some ((-1), I))))
def f_X_isWayOver (F : Nat) (r1 : Nat) (rv : Nat) (I : MI) : Option (Int × MI) :=
  ((f_B_weighSteps F r1 rv I).bind fun q1 => ((f_Y_leadOver F rv q1).bind fun q4 => (some (q4.1, q4.2))))
def f_X_needed_L17 (F : Nat) (x1 : Int) (x2 : Int) (rv : Nat) (I : MI) : Option ((Int × MI) ⊕ (Int × Int × MI)) :=
  (if (I rv 5) ≤ x2 then (some (.inl (x1, I))) else ((f_B_weighWithout F 49 rv x2 I).bind fun q7 => ((f_Y_leadOver F rv q7).bind fun q10 => (if ¬ q10.1 = 0 then (some (.inr (x1, (w32 (x2 + 1)), q10.2))) else (some (.inr ((or32 x1 (shl32 1 x2)), (w32 (x2 + 1)), q10.2)))))))
def f_X_needed (F : Nat) (rv : Nat) (I : MI) : Option (Int × MI) :=
  ((f_X_isWayOver F 49 rv I).bind fun q1 => (if ¬ q1.1 = 0 then ((iter (fun s : Int × Int × MI => f_X_needed_L17 F s.1 s.2.1 rv s.2.2) F (0, 0, q1.2)).bind fun e14 => (some (e14.1, e14.2))) else (some (0, q1.2))))
def f_X_alone_L4 (F : Nat) (x1 : Int) (x2 : Int) (rv : Nat) (I : MI) : Option ((Int × MI) ⊕ (Int × Int × MI)) :=
  (if (I rv 5) ≤ x2 then (some (.inl (x1, I))) else ((f_B_weighAlone F 49 rv x2 I).bind fun q3 => ((f_Y_leadOver F rv q3).bind fun q6 => (if q6.1 = 0 then (some (.inr (x1, (w32 (x2 + 1)), q6.2))) else (some (.inr ((or32 x1 (shl32 1 x2)), (w32 (x2 + 1)), q6.2)))))))
def f_X_alone (F : Nat) (rv : Nat) (I : MI) : Option (Int × MI) :=
  ((iter (fun s : Int × Int × MI => f_X_alone_L4 F s.1 s.2.1 rv s.2.2) F (0, 0, I)).bind fun e10 => (some (e10.1, e10.2)))
def f_X_breaks_L27 (F : Nat) (x1 : Int) (rv : Nat) (I : MI) : Option (((Int × MI) ⊕ (MI)) ⊕ (Int × MI)) :=
  (if 200 ≤ x1 then (some (.inl (.inr I))) else ((f_B_passDay F 56 rv 0 (I rv 1) I).bind fun q10 => (if q10.1 = 0 then (some (.inr ((w32 (x1 + 1)), q10.2))) else ((f_X_isWayOver F 56 rv q10.2).bind fun q14 => (if ¬ q14.1 = 0 then (some (.inr ((w32 (x1 + 1)), q14.2))) else (some (.inl (.inl ((I 56 0), q14.2)))))))))
def f_X_breaks (F : Nat) (rv : Nat) (I : MI) : Option (Int × MI) :=
  ((f_X_isWayOver F 49 rv I).bind fun q1 => (if ¬ q1.1 = 0 then ((f_B_copyFrom F 56 49 q1.2).bind fun q5 => ((iter (fun s : Int × MI => f_X_breaks_L27 F s.1 rv s.2) F (0, q5)).bind fun e18 => (match e18 with | .inl e20 => (some (e20.1, e20.2)) | .inr o21 => (some ((-2), o21))))) else (some ((-3), q1.2))))
def f_X_fords (F : Nat) (rv : Nat) (I : MI) : Option (Int × MI) :=
  ((f_R_isLeptAtOnce F rv I).bind fun q1 => (if q1 = 0 then ((f_B_weighSteps F 49 rv I).bind fun q5 => ((f_F_most F rv q5).bind fun q8 => (some (q8.1, q8.2)))) else (some ((-2), I))))
def f_X_tell (F : Nat) (x1 : Int) (x2 : Int) (x3 : Int) (rv : Nat) (I : MI) : Option (Int × MI) :=
  (if 20 ≤ (I 1 12) then (some ((-1), I)) else ((f_R_has F rv x1 x2 I).bind fun q3 => (if q3 = 0 then (some ((-1), I)) else (if x3 < 0 then (some ((-1), I)) else (if x3 ≤ 99 then ((f_X_cellNumber F x1 x2 I).bind fun q9 => (if 0 ≤ (I 1 12) ∧ (I 1 12) < 20 then (if 0 ≤ ((up2 I 242 ((I 1 12)).toNat q9) 1 12) ∧ ((up2 I 242 ((I 1 12)).toNat q9) 1 12) < 20 then (some ((w32 (((up2 (up2 (up2 I 242 ((I 1 12)).toNat q9) 243 (((up2 I 242 ((I 1 12)).toNat q9) 1 12)).toNat x3) 1 12 (w32 (((up2 (up2 I 242 ((I 1 12)).toNat q9) 243 (((up2 I 242 ((I 1 12)).toNat q9) 1 12)).toNat x3) 1 12) + 1))) 1 12) - 1)), (up2 (up2 (up2 I 242 ((I 1 12)).toNat q9) 243 (((up2 I 242 ((I 1 12)).toNat q9) 1 12)).toNat x3) 1 12 (w32 (((up2 (up2 I 242 ((I 1 12)).toNat q9) 243 (((up2 I 242 ((I 1 12)).toNat q9) 1 12)).toNat x3) 1 12) + 1))))) else none) else none)) else (some ((-1), I)))))))
def f_X_forget (F : Nat) (I : MI) : Option (Int × MI) :=
  (some ((I 1 12), (up2 I 1 12 0)))
def f_X_isKnownOf_L2 (F : Nat) (x1 : Int) (x2 : Int) (x3 : Int) (I : MI) : Option (((Unit) ⊕ (Unit)) ⊕ (Int)) :=
  (if x1 ≤ x3 then (some (.inl (.inr ()))) else (if 20 ≤ x3 then (some (.inl (.inr ()))) else (if 0 ≤ x3 ∧ x3 < 20 then (if ¬ (div32 (I 242 (x3).toNat) 12) = x2 then (some (.inr (w32 (x3 + 1)))) else (some (.inl (.inl ())))) else none)))
def f_X_isKnownOf (F : Nat) (x1 : Int) (x2 : Int) (I : MI) : Option (Int) :=
  ((iter (fun s : Int => f_X_isKnownOf_L2 F x1 x2 s I) F 0).bind fun e6 => (match e6 with | .inl e8 => (some 1) | .inr o9 => (some 0)))
def f_X_isKnownSo_L2 (F : Nat) (x1 : Int) (x2 : Int) (x3 : Int) (I : MI) : Option (((Unit) ⊕ (Unit)) ⊕ (Int)) :=
  (if x1 ≤ x3 then (some (.inl (.inr ()))) else (if 20 ≤ x3 then (some (.inl (.inr ()))) else (if 0 ≤ x3 ∧ x3 < 20 then (if ¬ (div32 (I 242 (x3).toNat) 12) = x2 then (some (.inr (w32 (x3 + 1)))) else (if 0 ≤ (I 242 (x3).toNat) ∧ (I 242 (x3).toNat) < 96 then (if (I (56 + 1) ((I 242 (x3).toNat)).toNat) = (I 243 (x3).toNat) then (some (.inr (w32 (x3 + 1)))) else (some (.inl (.inl ())))) else none)) else none)))
def f_X_isKnownSo (F : Nat) (x1 : Int) (x2 : Int) (I : MI) : Option (Int) :=
  ((iter (fun s : Int => f_X_isKnownSo_L2 F x1 x2 s I) F 0).bind fun e8 => (match e8 with | .inl e10 => (some 0) | .inr o11 => (some 1)))
def f_X_fitsAt (F : Nat) (x1 : Int) (x2 : Int) (x3 : Int) (x4 : Int) (x5 : Int) (rv : Nat) (I : MI) : Option (Int × MI) :=
  ((f_X_isKnownOf F x4 x3 I).bind fun q1 => (if ¬ q1 = 0 then ((f_B_copyFrom F 56 49 I).bind fun q5 => ((f_B_throwStone F 56 rv x1 x2 x3 q5).bind fun q8 => ((f_B_passDays F 56 rv x5 x3 (w32 (x3 + 1)) q8.2).bind fun q11 => ((f_X_isKnownSo F x4 x3 q11).bind fun q14 => (some (q14, q11)))))) else (some (1, I))))
def f_X_rowsWrongWithout_L36 (F : Nat) (x1 : Int) (x3 : Int) (x4 : Int) (rv : Nat) (I : MI) : Option ((Int) ⊕ (Int × Int)) :=
  (if (I rv 1) ≤ x4 then (some (.inl x3)) else ((f_X_isKnownSo F x1 x4 I).bind fun q10 => (if ¬ q10 = 0 then (some (.inr (x3, (w32 (x4 + 1))))) else (some (.inr ((or32 x3 (shl32 1 x4)), (w32 (x4 + 1))))))))
def f_X_rowsWrongWithout (F : Nat) (x1 : Int) (x2 : Int) (rv : Nat) (I : MI) : Option (Int × MI) :=
  ((f_B_copyFrom F 56 49 I).bind fun q1 => ((f_B_passDays F 56 rv x2 0 (q1 rv 1) q1).bind fun q5 => ((iter (fun s : Int × Int => f_X_rowsWrongWithout_L36 F x1 s.1 s.2 rv q5) F (0, 0)).bind fun e14 => (some (e14, q5)))))
def f_X_fits_L99 (F : Nat) (x1 : Int) (x2 : Int) (x3 : Int) (x4 : Int) (x5 : Int) (x6 : Int) (x7 : Int) (x8 : Int) (rv : Nat) (I : MI) : Option (((Int × MI) ⊕ (Int × MI)) ⊕ (Int × Int × MI)) :=
  (if (I rv 0) ≤ x8 then (some (.inl (.inr (x6, I)))) else ((f_X_fitsAt F x1 x8 x7 x2 x3 rv I).bind fun q23 => (if ¬ q23.1 = 0 then (if ¬ x6 = x4 then (some (.inr ((w32 (x6 + 1)), (w32 (x8 + 1)), q23.2))) else (some (.inl (.inl (x8, q23.2))))) else (some (.inr (x6, (w32 (x8 + 1)), q23.2))))))
def f_X_fits_L69 (F : Nat) (x1 : Int) (x2 : Int) (x3 : Int) (x4 : Int) (x5 : Int) (x6 : Int) (x7 : Int) (rv : Nat) (I : MI) : Option (((Int × Int × MI) ⊕ (Int × MI)) ⊕ (Int × Int × MI)) :=
  (if (I rv 1) ≤ x7 then (some (.inl (.inr (x6, I)))) else (if (and32 x5 (xor32 (shl32 1 x7) (-1))) = 0 then ((iter (fun s : Int × Int × MI => f_X_fits_L99 F x1 x2 x3 x4 x5 s.1 x7 s.2.1 rv s.2.2) F (x6, 0, I)).bind fun e28 => (match e28 with | .inl e30 => (some (.inl (.inl (x7, e30.1, e30.2)))) | .inr o31 => (some (.inr (o31.1, (w32 (x7 + 1)), o31.2))))) else (some (.inr (x6, (w32 (x7 + 1)), I)))))
def f_X_fits (F : Nat) (x1 : Int) (x2 : Int) (x3 : Int) (x4 : Int) (rv : Nat) (I : MI) : Option (Int × MI) :=
  ((f_X_isLeaver F x1 rv I).bind fun q1 => (if q1 = 0 then (some ((-1), I)) else ((f_B_mayThrow F 49 rv x1 I).bind fun q5 => (if ¬ q5 = 0 then (if x2 < 0 then (some ((-1), I)) else (if (I 1 12) < x2 then (some ((-1), I)) else (if x3 < 0 then (some ((-1), I)) else (if 60 < x3 then (some ((-1), I)) else (if (-1) ≤ x4 then ((f_X_rowsWrongWithout F x2 x3 rv I).bind fun q15 => ((iter (fun s : Int × Int × MI => f_X_fits_L69 F x1 x2 x3 x4 q15.1 s.1 s.2.1 rv s.2.2) F (0, 0, q15.2)).bind fun e34 => (match e34 with | .inl e36 => ((f_X_cellNumber F e36.2.1 e36.1 e36.2.2).bind fun q39 => ((f_X_cellName F q39 e36.2.2).bind fun q42 => (some (q42, e36.2.2)))) | .inr o37 => (if ¬ x4 = (-1) then (some ((-1), o37.2)) else (some (o37.1, o37.2)))))) else (some ((-1), I))))))) else (some ((-1), I))))))
