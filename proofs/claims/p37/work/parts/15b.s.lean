set_option maxRecDepth 100000 in
theorem s_Tape_add {d : Nat} {I : IM} {D : DY} {Q : Option PV → PM → Prop} (p1 : Int32) (h : brP ((I 46 4) < 160)
 (tsP (inB (I 46 4) 160) (Q (some (vI ((I 46 4) + 1))) (mm (up2 (up2 I 47 (ixN (I 46 4)) p1) 46 4 ((I 46 4) + 1)) D)))
 (Q (some (vI (-3))) (mm I D))) :
  Mt GG d 13 [vR (some 46), vI p1] (mm I D) Q := runC_m (cut := (fun _ => false)) 21 h
set_option maxRecDepth 100000 in
theorem s_Tape_begin {d : Nat} {I : IM} {D : DY} {Q : Option PV → PM → Prop}  (h : Q none (mm (up2 (up2 I 46 5 0) 46 6 (-1)) D)) :
  Mt GG d 16 [vR (some 46)] (mm I D) Q := runC_m (cut := (fun _ => false)) 7 h
set_option maxRecDepth 100000 in
theorem s_Tape_command {d : Nat} {I : IM} {D : DY} {Q : Option PV → PM → Prop} (p1 : Int32) (h : CI d 18 [vR (some 46), vR (some 7)] (mm I D) (fun x1 I1 => brP (x1 = (-1))
 (CAN (mkN (mm I1 D) 2 4) (fun I2 D1 => tsP (pKd (mm I2 D1) (dZ D) = 2) (AV d 25 [vR (some (dZ D)), vI 8, vI 0, vI 0, vR none] (mm I2 D1) (fun I3 D2 => Q (some (vR (some (dZ D)))) (mm I3 D2)))))
 (brP (¬ x1 = 7)
 (CV d 26 [vR (some 46), vI 32] (mm I1 D) (fun I4 => brP (p1 = 0)
 (CI d 32 [vR (some 46), vI 999] (mm I4 D) (fun x4 I5 => brP (¬ x1 = 6)
 (CAN (mkN (mm I5 D) 2 4) (fun I6 D3 => tsP (pKd (mm I6 D3) (dZ D) = 2) (AV d 25 [vR (some (dZ D)), vI x1, vI x4, vI 0, vR none] (mm I6 D3) (fun I7 D4 => Q (some (vR (some (dZ D)))) (mm I7 D4)))))
 (CV d 26 [vR (some 46), vI 32] (mm I5 D) (fun I8 => CI d 18 [vR (some 46), vR (some 15)] (mm I8 D) (fun x7 I9 => CV d 26 [vR (some 46), vI 32] (mm I9 D) (fun I10 => CI d 32 [vR (some 46), vI 7] (mm I10 D) (fun x9 I11 => CAN (mkN (mm I11 D) 2 4) (fun I12 D5 => tsP (pKd (mm I12 D5) (dZ D) = 2) (AV d 25 [vR (some (dZ D)), vI x1, vI x4, vI x9, vR none] (mm I12 D5) (fun I13 D6 => Q (some (vR (some (dZ D)))) (mm I13 D6)))))))))))
 (CI d 27 [vR (some 46)] (mm I4 D) (fun x11 I14 => brP (¬ x11 = 40)
 (CI d 32 [vR (some 46), vI 999] (mm I14 D) (fun x12 I15 => brP (¬ x1 = 6)
 (CAN (mkN (mm I15 D) 2 4) (fun I16 D7 => tsP (pKd (mm I16 D7) (dZ D) = 2) (AV d 25 [vR (some (dZ D)), vI x1, vI x12, vI 0, vR none] (mm I16 D7) (fun I17 D8 => Q (some (vR (some (dZ D)))) (mm I17 D8)))))
 (CV d 26 [vR (some 46), vI 32] (mm I15 D) (fun I18 => CI d 18 [vR (some 46), vR (some 15)] (mm I18 D) (fun x15 I19 => CV d 26 [vR (some 46), vI 32] (mm I19 D) (fun I20 => CI d 32 [vR (some 46), vI 7] (mm I20 D) (fun x17 I21 => CAN (mkN (mm I21 D) 2 4) (fun I22 D9 => tsP (pKd (mm I22 D9) (dZ D) = 2) (AV d 25 [vR (some (dZ D)), vI x1, vI x12, vI x17, vR none] (mm I22 D9) (fun I23 D10 => Q (some (vR (some (dZ D)))) (mm I23 D10)))))))))))
 (AR d 28 [vR (some 46), vR (some 1), vI 1] (mm (up2 I14 46 5 ((I14 46 5) + 1)) D) (fun x19 I24 D11 => CV d 26 [vR (some 46), vI 41] (mm I24 D11) (fun I25 => brP (¬ x1 = 6)
 (CAN (mkN (mm I25 D11) 2 4) (fun I26 D12 => tsP (pKd (mm I26 D12) (dZ D11) = 2) (AV d 25 [vR (some (dZ D11)), vI x1, vI 0, vI 0, vR x19] (mm I26 D12) (fun I27 D13 => Q (some (vR (some (dZ D11)))) (mm I27 D13)))))
 (CV d 26 [vR (some 46), vI 32] (mm I25 D11) (fun I28 => CI d 18 [vR (some 46), vR (some 15)] (mm I28 D11) (fun x23 I29 => CV d 26 [vR (some 46), vI 32] (mm I29 D11) (fun I30 => CI d 32 [vR (some 46), vI 7] (mm I30 D11) (fun x25 I31 => CAN (mkN (mm I31 D11) 2 4) (fun I32 D14 => tsP (pKd (mm I32 D14) (dZ D11) = 2) (AV d 25 [vR (some (dZ D11)), vI x1, vI 0, vI x25, vR x19] (mm I32 D14) (fun I33 D15 => Q (some (vR (some (dZ D11)))) (mm I33 D15))))))))))))))))
 (CAN (mkN (mm I1 D) 2 4) (fun I34 D16 => tsP (pKd (mm I34 D16) (dZ D) = 2) (AV d 25 [vR (some (dZ D)), vI 8, vI 0, vI 0, vR none] (mm I34 D16) (fun I35 D17 => Q (some (vR (some (dZ D)))) (mm I35 D17)))))))) :
  Mt GG (d + 1) 17 [vR (some 46), vI p1] (mm I D) Q := runC_m (cut := (fun _ => false)) 65 h
set_option maxRecDepth 100000 in
theorem s_Tape_word {d : Nat} {I : IM} {D : DY} {Q : Option PV → PM → Prop} (p1 : Option Nat) (h : CI d 19 [vR (some 46)] (mm I D) (fun x1 I1 => Wp GG (d + 1) 18 19 [vR (some 46), vR p1, vI (I 46 5), vI x1, vI 0, vI 0, vI 0] [] (mm I1 D) Q)) :
  Mt GG (d + 1) 18 [vR (some 46), vR p1] (mm I D) Q := runC_m (cut := (fun pc => [19].contains pc)) 13 h
set_option maxRecDepth 100000 in
theorem s_Tape_word_19 {d : Nat} {I : IM} {D : DY} {Q : Option PV → PM → Prop} (p1 : Option Nat) (l2 : Int32) (l3 : Int32) (l4 : Int32) (l5 : Int32) (l6 : Int32) (h : onR False p1 (fun a1 => tsP (pKd (mm I D) a1 = 13) (CI d 7 [vR (some a1)] (mm I D) (fun x1 I1 => brP (x1 < l6)
 (CV d 24 [vR (some 46), vI l2] (mm I1 D) (fun I2 => Q (some (vI (-1))) (mm I2 D)))
 (onR False p1 (fun a2 => tsP (pKd (mm I1 D) a2 = 13) (CI d 7 [vR (some a2)] (mm I1 D) (fun x3 I3 => brP (l6 = x3)
 (brP (¬ (l6 - l4) = (l3 - l2))
 (Wp GG (d + 1) 18 19 [vR (some 46), vR p1, vI l2, vI l3, vI (l6 + 1), vI (l5 + 1), vI (l6 + 1)] [] (mm I3 D) Q)
 (CI d 23 [vR (some 46), vR p1, vI l4, vI l6, vI l2] (mm I3 D) (fun x4 I4 => brP (x4 = 0)
 (Wp GG (d + 1) 18 19 [vR (some 46), vR p1, vI l2, vI l3, vI (l6 + 1), vI (l5 + 1), vI (l6 + 1)] [] (mm I4 D) Q)
 (Q (some (vI l5)) (mm (up2 I4 46 5 l3) D)))))
 (onR False p1 (fun a3 => tsP (pKd (mm I3 D) a3 = 13) (CI d 20 [vR (some a3), vI l6] (mm I3 D) (fun x5 I5 => brP (¬ x5 = 32)
 (Wp GG (d + 1) 18 19 [vR (some 46), vR p1, vI l2, vI l3, vI l4, vI l5, vI (l6 + 1)] [] (mm I5 D) Q)
 (brP (¬ (l6 - l4) = (l3 - l2))
 (Wp GG (d + 1) 18 19 [vR (some 46), vR p1, vI l2, vI l3, vI (l6 + 1), vI (l5 + 1), vI (l6 + 1)] [] (mm I5 D) Q)
 (CI d 23 [vR (some 46), vR p1, vI l4, vI l6, vI l2] (mm I5 D) (fun x6 I6 => brP (x6 = 0)
 (Wp GG (d + 1) 18 19 [vR (some 46), vR p1, vI l2, vI l3, vI (l6 + 1), vI (l5 + 1), vI (l6 + 1)] [] (mm I6 D) Q)
 (Q (some (vI l5)) (mm (up2 I6 46 5 l3) D))))))))))))))))) :
  Wp GG (d + 1) 18 19 [vR (some 46), vR p1, vI l2, vI l3, vI l4, vI l5, vI l6] [] (mm I D) Q := runC_p (cut := (fun pc => [19].contains pc)) 35 h
set_option maxRecDepth 100000 in
theorem s_Tape_wordEnd {d : Nat} {I : IM} {D : DY} {Q : Option PV → PM → Prop}  (h : Wp GG d 19 5 [vR (some 46), vI (I 46 5)] [] (mm I D) Q) :
  Mt GG d 19 [vR (some 46)] (mm I D) Q := runC_m (cut := (fun pc => [5].contains pc)) 4 h
set_option maxRecDepth 100000 in
theorem s_Tape_wordEnd_5 {d : Nat} {I : IM} {D : DY} {Q : Option PV → PM → Prop} (l1 : Int32) (h : brP ((I 46 4) ≤ l1)
 (Q (some (vI l1)) (mm I D))
 (brP ((160 : Int32) ≤ l1)
 (Q (some (vI l1)) (mm I D))
 (tsP (inB l1 160) (brP ((I 47 (ixN l1)) < 97)
 (Q (some (vI l1)) (mm I D))
 (tsP (inB l1 160) (brP ((122 : Int32) < (I 47 (ixN l1)))
 (Q (some (vI l1)) (mm I D))
 (Wp GG d 19 5 [vR (some 46), vI (l1 + 1)] [] (mm I D) Q))))))) :
  Wp GG d 19 5 [vR (some 46), vI l1] [] (mm I D) Q := runC_p (cut := (fun pc => [5].contains pc)) 24 h
set_option maxRecDepth 100000 in
theorem s_Tape_isSame {d : Nat} {I : IM} {D : DY} {Q : Option PV → PM → Prop} (p1 : Option Nat) (p2 : Int32) (p3 : Int32) (p4 : Int32) (h : Wp GG (d + 1) 23 3 [vR (some 46), vR p1, vI p2, vI p3, vI p4, vI p2, vT] [] (mm I D) Q) :
  Mt GG (d + 1) 23 [vR (some 46), vR p1, vI p2, vI p3, vI p4] (mm I D) Q := runC_m (cut := (fun pc => [3].contains pc)) 3 h
set_option maxRecDepth 100000 in
theorem s_Tape_isSame_3 {d : Nat} {I : IM} {D : DY} {Q : Option PV → PM → Prop} (p1 : Option Nat) (p2 : Int32) (p3 : Int32) (p4 : Int32) (l5 : Int32) (w6 : PV) (h : brP (p3 ≤ l5)
 (Q (some (vI 1)) (mm I D))
 (brP (((p4 + l5) - p2) < 0)
 (Q (some (vI 0)) (mm I D))
 (brP ((160 : Int32) ≤ ((p4 + l5) - p2))
 (Q (some (vI 0)) (mm I D))
 (tsP (inB ((p4 + l5) - p2) 160) (onR False p1 (fun a1 => tsP (pKd (mm I D) a1 = 13) (CI d 20 [vR (some a1), vI l5] (mm I D) (fun x1 I1 => brP ((I 47 (ixN ((p4 + l5) - p2))) = x1)
 (Wp GG (d + 1) 23 3 [vR (some 46), vR p1, vI p2, vI p3, vI p4, vI (l5 + 1), vI ((p4 + l5) - p2)] [] (mm I1 D) Q)
 (Q (some (vI 0)) (mm I1 D)))))))))) :
  Wp GG (d + 1) 23 3 [vR (some 46), vR p1, vI p2, vI p3, vI p4, vI l5, w6] [] (mm I D) Q := runC_p (cut := (fun pc => [3].contains pc)) 27 h
set_option maxRecDepth 100000 in
theorem s_Tape_fail {d : Nat} {I : IM} {D : DY} {Q : Option PV → PM → Prop} (p1 : Int32) (h : brP (¬ (I 46 6) = (-1))
 (Q none (mm (up2 I 46 5 (I 46 4)) D))
 (Q none (mm (up2 (up2 I 46 6 p1) 46 5 (I 46 4)) D))) :
  Mt GG d 24 [vR (some 46), vI p1] (mm I D) Q := runC_m (cut := (fun _ => false)) 12 h
set_option maxRecDepth 100000 in
theorem s_Tape_take {d : Nat} {I : IM} {D : DY} {Q : Option PV → PM → Prop} (p1 : Int32) (h : CI d 27 [vR (some 46)] (mm I D) (fun x1 I1 => brP (¬ x1 = p1)
 (CV d 24 [vR (some 46), vI (I1 46 5)] (mm I1 D) (fun I2 => Q none (mm I2 D)))
 (Q none (mm (up2 I1 46 5 ((I1 46 5) + 1)) D)))) :
  Mt GG (d + 1) 26 [vR (some 46), vI p1] (mm I D) Q := runC_m (cut := (fun _ => false)) 12 h
set_option maxRecDepth 100000 in
theorem s_Tape_peek {d : Nat} {I : IM} {D : DY} {Q : Option PV → PM → Prop}  (h : brP ((I 46 5) < 0)
 (Q (some (vI 0)) (mm I D))
 (brP ((I 46 4) ≤ (I 46 5))
 (Q (some (vI 0)) (mm I D))
 (brP ((160 : Int32) ≤ (I 46 5))
 (Q (some (vI 0)) (mm I D))
 (tsP (inB (I 46 5) 160) (Q (some (vI (I 47 (ixN (I 46 5))))) (mm I D)))))) :
  Mt GG d 27 [vR (some 46)] (mm I D) Q := runC_m (cut := (fun _ => false)) 21 h
set_option maxRecDepth 100000 in
theorem s_Tape_formula {d : Nat} {I : IM} {D : DY} {Q : Option PV → PM → Prop} (p1 : Option Nat) (p2 : Int32) (h : CV d 29 [vR (some 46), vI 0, vI p2] (setR (mm (up2 I 46 3 0) D) 46 2 p1) (fun I1 => CAN (mkN (setR (mm I1 D) 46 2 p1) 4 2) (fun I2 D1 => AR d 43 [vR (some 48), vI (I2 46 3)] (mm I2 D1) (fun x2 I3 D2 => tsP (pKd (mm I3 D2) (dZ D) = 4) (AV d 44 [vR (some (dZ D)), vR x2] (mm I3 D2) (fun I4 D3 => Q (some (vR (some (dZ D)))) (mm I4 D3))))))) :
  Mt GG (d + 1) 28 [vR (some 46), vR p1, vI p2] (mm I D) Q := runC_m (cut := (fun _ => false)) 19 h
set_option maxRecDepth 100000 in
theorem s_Tape_part {d : Nat} {I : IM} {D : DY} {Q : Option PV → PM → Prop} (p1 : Int32) (p2 : Int32) (h : brP (p1 ≤ 2)
 (CV d 29 [vR (some 46), vI (p1 + 1), vI p2] (mm I D) (fun I1 => brP (¬ p1 = 0)
 (Wp GG (d + 1) 29 34 [vR (some 46), vI p1, vI p2, vI 160, vI 0, vT] [] (mm I1 D) Q)
 (Wp GG (d + 1) 29 34 [vR (some 46), vI p1, vI p2, vI 1, vI 0, vT] [] (mm I1 D) Q)))
 (CV d 30 [vR (some 46), vI p2] (mm I D) (fun I2 => Q none (mm I2 D)))) :
  Mt GG (d + 1) 29 [vR (some 46), vI p1, vI p2] (mm I D) Q := runC_m (cut := (fun pc => [34].contains pc)) 17 h
set_option maxRecDepth 100000 in
theorem s_Tape_part_34 {d : Nat} {I : IM} {D : DY} {Q : Option PV → PM → Prop} (p1 : Int32) (p2 : Int32) (l3 : Int32) (l4 : Int32) (w5 : PV) (h : brP (l3 ≤ l4)
 (Q none (mm I D))
 (CI d 27 [vR (some 46)] (mm I D) (fun x1 I1 => CR d 42 [vI p1] (mm I1 D) (fun x2 I2 => onR False x2 (fun a1 => tsP (pKd (mm I2 D) a1 = 13) (CI d 35 [vR (some a1), vI ((Int32.toUInt32 x1 % 65536).toInt32)] (mm I2 D) (fun x3 I3 => brP ((0 : Int32) ≤ x3)
 (CV d 29 [vR (some 46), vI (p1 + 1), vI p2] (mm (up2 I3 46 5 ((I3 46 5) + 1)) D) (fun I4 => CV d 33 [vR (some 46), vI (-x1)] (mm I4 D) (fun I5 => Wp GG (d + 1) 29 34 [vR (some 46), vI p1, vI p2, vI l3, vI (l4 + 1), vI x1] [] (mm I5 D) Q)))
 (Q none (mm I3 D))))))))) :
  Wp GG (d + 1) 29 34 [vR (some 46), vI p1, vI p2, vI l3, vI l4, w5] [] (mm I D) Q := runC_p (cut := (fun pc => [34].contains pc)) 31 h
set_option maxRecDepth 100000 in
theorem s_Tape_operand {d : Nat} {I : IM} {D : DY} {Q : Option PV → PM → Prop} (p1 : Int32) (h : CI d 27 [vR (some 46)] (mm I D) (fun x1 I1 => CI d 31 [vI x1] (mm I1 D) (fun x2 I2 => brP (x2 = 0)
 (brP (x1 = 45)
 (brP (p1 < 6)
 (brP (¬ x1 = 45)
 (CV d 29 [vR (some 46), vI 0, vI (p1 + 1)] (mm (up2 I2 46 5 ((I2 46 5) + 1)) D) (fun I3 => CV d 26 [vR (some 46), vI 41] (mm I3 D) (fun I4 => Q none (mm I4 D))))
 (CV d 30 [vR (some 46), vI (p1 + 1)] (mm (up2 I2 46 5 ((I2 46 5) + 1)) D) (fun I5 => CV d 33 [vR (some 46), vI (-1000)] (mm I5 D) (fun I6 => Q none (mm I6 D)))))
 (CV d 24 [vR (some 46), vI (I2 46 5)] (mm I2 D) (fun I7 => Q none (mm I7 D))))
 (brP (x1 = 40)
 (brP (p1 < 6)
 (brP (¬ x1 = 45)
 (CV d 29 [vR (some 46), vI 0, vI (p1 + 1)] (mm (up2 I2 46 5 ((I2 46 5) + 1)) D) (fun I8 => CV d 26 [vR (some 46), vI 41] (mm I8 D) (fun I9 => Q none (mm I9 D))))
 (CV d 30 [vR (some 46), vI (p1 + 1)] (mm (up2 I2 46 5 ((I2 46 5) + 1)) D) (fun I10 => CV d 33 [vR (some 46), vI (-1000)] (mm I10 D) (fun I11 => Q none (mm I11 D)))))
 (CV d 24 [vR (some 46), vI (I2 46 5)] (mm I2 D) (fun I12 => Q none (mm I12 D))))
 (CV d 34 [vR (some 46)] (mm I2 D) (fun I13 => Q none (mm I13 D)))))
 (CI d 32 [vR (some 46), vI 9999] (mm I2 D) (fun x14 I14 => CV d 33 [vR (some 46), vI x14] (mm I14 D) (fun I15 => Q none (mm I15 D))))))) :
  Mt GG (d + 1) 30 [vR (some 46), vI p1] (mm I D) Q := runC_m (cut := (fun _ => false)) 34 h
set_option maxRecDepth 100000 in
theorem s_Tape_isFigure {d : Nat} {I : IM} {D : DY} {Q : Option PV → PM → Prop} (p1 : Int32) (h : brP (p1 < 48)
 (Q (some (vI 0)) (mm I D))
 (brP ((57 : Int32) < p1)
 (Q (some (vI 0)) (mm I D))
 (Q (some (vI 1)) (mm I D)))) :
  Mt GG d 31 [vI p1] (mm I D) Q := runC_m (cut := (fun _ => false)) 9 h
set_option maxRecDepth 100000 in
theorem s_Tape_number {d : Nat} {I : IM} {D : DY} {Q : Option PV → PM → Prop} (p1 : Int32) (h : Wp GG (d + 1) 32 10 [vR (some 46), vI p1, vI (I 46 5), vI 0, vI 0] [] (mm I D) Q) :
  Mt GG (d + 1) 32 [vR (some 46), vI p1] (mm I D) Q := runC_m (cut := (fun pc => [10].contains pc)) 8 h
set_option maxRecDepth 100000 in
theorem s_Tape_number_10 {d : Nat} {I : IM} {D : DY} {Q : Option PV → PM → Prop} (p1 : Int32) (l2 : Int32) (l3 : Int32) (l4 : Int32) (h : brP ((4 : Int32) ≤ l4)
 (brP (l4 = 0)
 (CV d 24 [vR (some 46), vI l2] (mm I D) (fun I1 => Q (some (vI 0)) (mm I1 D)))
 (brP (l3 ≤ p1)
 (Q (some (vI l3)) (mm I D))
 (CV d 24 [vR (some 46), vI l2] (mm I D) (fun I2 => Q (some (vI 0)) (mm I2 D)))))
 (CI d 27 [vR (some 46)] (mm I D) (fun x3 I3 => CI d 31 [vI x3] (mm I3 D) (fun x4 I4 => brP (x4 = 0)
 (brP (l4 = 0)
 (CV d 24 [vR (some 46), vI l2] (mm I4 D) (fun I5 => Q (some (vI 0)) (mm I5 D)))
 (brP (l3 ≤ p1)
 (Q (some (vI l3)) (mm I4 D))
 (CV d 24 [vR (some 46), vI l2] (mm I4 D) (fun I6 => Q (some (vI 0)) (mm I6 D)))))
 (CI d 27 [vR (some 46)] (mm I4 D) (fun x7 I7 => Wp GG (d + 1) 32 10 [vR (some 46), vI p1, vI l2, vI (((l3 * 10) + x7) - 48), vI (l4 + 1)] [] (mm (up2 I7 46 5 ((I7 46 5) + 1)) D) Q)))))) :
  Wp GG (d + 1) 32 10 [vR (some 46), vI p1, vI l2, vI l3, vI l4] [] (mm I D) Q := runC_p (cut := (fun pc => [10].contains pc)) 25 h
set_option maxRecDepth 100000 in
theorem s_Tape_emit {d : Nat} {I : IM} {D : DY} {Q : Option PV → PM → Prop} (p1 : Int32) (h : brP ((160 : Int32) ≤ (I 46 3))
 (Q none (mm I D))
 (tsP (inB (I 46 3) 160) (Q none (mm (up2 (up2 I 48 (ixN (I 46 3)) p1) 46 3 ((I 46 3) + 1)) D)))) :
  Mt GG d 33 [vR (some 46), vI p1] (mm I D) Q := runC_m (cut := (fun _ => false)) 19 h
set_option maxRecDepth 100000 in
theorem s_Tape_letter {d : Nat} {I : IM} {D : DY} {Q : Option PV → PM → Prop}  (h : CI d 27 [vR (some 46)] (mm I D) (fun x1 I1 => onR False (dR D 46 2) (fun a1 => tsP (pKd (mm I1 D) a1 = 13) (CI d 35 [vR (some a1), vI ((Int32.toUInt32 x1 % 65536).toInt32)] (mm I1 D) (fun x2 I2 => brP (x2 < 0)
 (CV d 24 [vR (some 46), vI (I2 46 5)] (mm I2 D) (fun I3 => Q none (mm I3 D)))
 (CI d 19 [vR (some 46)] (mm I2 D) (fun x4 I4 => brP (x4 = ((I4 46 5) + 1))
 (CV d 33 [vR (some 46), vI (10000 + x2)] (mm (up2 I4 46 5 ((I4 46 5) + 1)) D) (fun I5 => Q none (mm I5 D)))
 (CV d 24 [vR (some 46), vI (I4 46 5)] (mm I4 D) (fun I6 => Q none (mm I6 D)))))))))) :
  Mt GG (d + 1) 34 [vR (some 46)] (mm I D) Q := runC_m (cut := (fun _ => false)) 28 h
set_option maxRecDepth 100000 in
theorem s_Tape_signsOf {d : Nat} {I : IM} {D : DY} {Q : Option PV → PM → Prop} (p1 : Int32) (h : brP (¬ p1 = 0)
 (brP (¬ p1 = 1)
 (Q (some (vR (some 13))) (mm I D))
 (Q (some (vR (some 11))) (mm I D)))
 (Q (some (vR (some 9))) (mm I D))) :
  Mt GG d 42 [vI p1] (mm I D) Q := runC_m (cut := (fun _ => false)) 8 h
set_option maxRecDepth 100000 in
theorem s_Tape_end {d : Nat} {I : IM} {D : DY} {Q : Option PV → PM → Prop}  (h : brP ((I 46 4) ≤ (I 46 5))
 (Q (some (vI (I 46 6))) (mm (up2 I 46 4 0) D))
 (CV d 24 [vR (some 46), vI (I 46 5)] (mm I D) (fun I1 => Q (some (vI (I1 46 6))) (mm (up2 I1 46 4 0) D)))) :
  Mt GG (d + 1) 45 [vR (some 46)] (mm I D) Q := runC_m (cut := (fun _ => false)) 15 h
set_option maxRecDepth 100000 in
theorem s_Tape_readLines {d : Nat} {I : IM} {D : DY} {Q : Option PV → PM → Prop}  (h : CV d 65 [vR (some 49)] (mm I D) (fun I1 => Wp GG (d + 1) 64 6 [vR (some 46), vR (some 49), vI 0, vT] [] (mm I1 D) Q)) :
  Mt GG (d + 1) 64 [vR (some 46), vR (some 49)] (mm I D) Q := runC_m (cut := (fun pc => [6].contains pc)) 5 h
set_option maxRecDepth 100000 in
theorem s_Tape_readLines_6 {d : Nat} {I : IM} {D : DY} {Q : Option PV → PM → Prop} (l2 : Int32) (w3 : PV) (h : brP ((40 : Int32) ≤ l2)
 (Q none (mm I D))
 (CI d 32 [vR (some 46), vI 7] (mm I D) (fun x1 I1 => CV d 26 [vR (some 46), vI 58] (mm I1 D) (fun I2 => AR d 17 [vR (some 46), vI 0] (mm I2 D) (fun x3 I3 D1 => AV d 66 [vR (some 49), vI x1, vR x3] (mm I3 D1) (fun I4 D2 => CI d 27 [vR (some 46)] (mm I4 D2) (fun x5 I5 => brP (x5 = 59)
 (Wp GG (d + 1) 64 6 [vR (some 46), vR (some 49), vI (l2 + 1), vI x1] [] (mm (up2 I5 46 5 ((I5 46 5) + 1)) D2) Q)
 (Q none (mm I5 D2))))))))) :
  Wp GG (d + 1) 64 6 [vR (some 46), vR (some 49), vI l2, w3] [] (mm I D) Q := runC_p (cut := (fun pc => [6].contains pc)) 29 h
set_option maxRecDepth 100000 in
theorem s_Tape_projection {d : Nat} {I : IM} {D : DY} {Q : Option PV → PM → Prop}  (h : CI d 18 [vR (some 46), vR (some 23)] (mm I D) (fun x1 I1 => CV d 26 [vR (some 46), vI 32] (mm I1 D) (fun I2 => CI d 18 [vR (some 46), vR (some 25)] (mm I2 D) (fun x3 I3 => CV d 26 [vR (some 46), vI 32] (mm I3 D) (fun I4 => CI d 112 [vR (some 46)] (mm I4 D) (fun x5 I5 => CV d 26 [vR (some 46), vI 32] (mm I5 D) (fun I6 => CI d 18 [vR (some 46), vR (some 31)] (mm I6 D) (fun x7 I7 => CV d 26 [vR (some 46), vI 32] (mm I7 D) (fun I8 => CI d 18 [vR (some 46), vR (some 33)] (mm I8 D) (fun x9 I9 => AR d 113 [] (mm I9 D) (fun x10 I10 D1 => CI d 27 [vR (some 46)] (mm I10 D1) (fun x11 I11 => brP (¬ x11 = 32)
 (CAN (mkN (mm I11 D1) 7 7) (fun I12 D2 => tsP (pKd (mm I12 D2) (dZ D1) = 7) (AV d 114 [vR (some (dZ D1)), vI x1, vI x5, vI x9, vR x10] (mm I12 D2) (fun I13 D3 => Q (some (vR (some (dZ D1)))) (mm I13 D3)))))
 (CI d 18 [vR (some 46), vR (some 35)] (mm (up2 I11 46 5 ((I11 46 5) + 1)) D1) (fun x13 I14 => CV d 26 [vR (some 46), vI 32] (mm I14 D1) (fun I15 => AR d 28 [vR (some 46), vR (some 1), vI 0] (mm I15 D1) (fun x15 I16 D4 => CAN (mkN (mm I16 D4) 7 7) (fun I17 D5 => tsP (pKd (mm I17 D5) (dZ D4) = 7) (AV d 114 [vR (some (dZ D4)), vI x1, vI x5, vI x9, vR x15] (mm I17 D5) (fun I18 D6 => Q (some (vR (some (dZ D4)))) (mm I18 D6)))))))))))))))))))) :
  Mt GG (d + 1) 111 [vR (some 46)] (mm I D) Q := runC_m (cut := (fun _ => false)) 63 h
set_option maxRecDepth 100000 in
theorem s_Tape_kinds {d : Nat} {I : IM} {D : DY} {Q : Option PV → PM → Prop}  (h : CI d 18 [vR (some 46), vR (some 27)] (mm I D) (fun x1 I1 => brP (x1 = (-1))
 (Q (some (vI 511)) (mm I1 D))
 (brP (¬ x1 = 9)
 (Wp GG (d + 1) 112 28 [vR (some 46), vI x1, vI (1 <<< x1), vI 0] [] (mm I1 D) Q)
 (Q (some (vI 511)) (mm I1 D))))) :
  Mt GG (d + 1) 112 [vR (some 46)] (mm I D) Q := runC_m (cut := (fun pc => [28].contains pc)) 17 h
set_option maxRecDepth 100000 in
theorem s_Tape_kinds_28 {d : Nat} {I : IM} {D : DY} {Q : Option PV → PM → Prop} (l1 : Int32) (l2 : Int32) (l3 : Int32) (h : brP ((160 : Int32) ≤ l3)
 (Q (some (vI l2)) (mm I D))
 (CI d 27 [vR (some 46)] (mm I D) (fun x1 I1 => brP (x1 = 43)
 (CI d 18 [vR (some 46), vR (some 29)] (mm (up2 I1 46 5 ((I1 46 5) + 1)) D) (fun x2 I2 => brP (¬ x2 = (-1))
 (Wp GG (d + 1) 112 28 [vR (some 46), vI x2, vI (l2 ||| (1 <<< x2)), vI (l3 + 1)] [] (mm I2 D) Q)
 (Wp GG (d + 1) 112 28 [vR (some 46), vI x2, vI (l2 ||| 0), vI (l3 + 1)] [] (mm I2 D) Q)))
 (Q (some (vI l2)) (mm I1 D))))) :
  Wp GG (d + 1) 112 28 [vR (some 46), vI l1, vI l2, vI l3] [] (mm I D) Q := runC_p (cut := (fun pc => [28].contains pc)) 29 h
set_option maxRecDepth 100000 in
theorem s_Tape_always {d : Nat} {I : IM} {D : DY} {Q : Option PV → PM → Prop}  (h : CAN (mkN (mm I D) 20 1) (fun I1 D1 => tsP (pKd (mm I1 D1) (dZ D) = kInt) (tsP (inB 0 (pLn (mm I1 D1) (dZ D))) (CAN (mkN (mm (up2 I1 (dZ D) 0 1) D1) 4 2) (fun I2 D2 => tsP (pKd (mm I2 D2) (dZ D1) = 4) (AV d 44 [vR (some (dZ D1)), vR (some (dZ D))] (mm I2 D2) (fun I3 D3 => Q (some (vR (some (dZ D1)))) (mm I3 D3)))))))) :
  Mt GG (d + 1) 113 [] (mm I D) Q := runC_m (cut := (fun _ => false)) 12 h
set_option maxRecDepth 100000 in
theorem s_Tape_policyText {d : Nat} {I : IM} {D : DY} {Q : Option PV → PM → Prop}  (h : CI d 18 [vR (some 46), vR (some 37)] (mm I D) (fun x1 I1 => CV d 26 [vR (some 46), vI 32] (mm I1 D) (fun I2 => CI d 112 [vR (some 46)] (mm I2 D) (fun x3 I3 => CV d 26 [vR (some 46), vI 32] (mm I3 D) (fun I4 => AR d 113 [] (mm I4 D) (fun x5 I5 D1 => CI d 18 [vR (some 46), vR (some 39)] (mm I5 D1) (fun x6 I6 => brP (¬ x6 = 0)
 (CV d 26 [vR (some 46), vI 32] (mm I6 D1) (fun I7 => CAN (mkN (mm I7 D1) 6 6) (fun I8 D2 => AR d 17 [vR (some 46), vI 1] (mm I8 D2) (fun x8 I9 D3 => tsP (pKd (mm I9 D3) (dZ D1) = 6) (AV d 134 [vR (some (dZ D1)), vI x3, vR x5, vR x8] (mm I9 D3) (fun I10 D4 => Q (some (vR (some (dZ D1)))) (mm I10 D4)))))))
 (CV d 26 [vR (some 46), vI 32] (mm I6 D1) (fun I11 => AR d 28 [vR (some 46), vR (some 1), vI 0] (mm I11 D1) (fun x11 I12 D5 => CV d 26 [vR (some 46), vI 32] (mm I12 D5) (fun I13 => CI d 18 [vR (some 46), vR (some 41)] (mm I13 D5) (fun x13 I14 => CV d 26 [vR (some 46), vI 32] (mm I14 D5) (fun I15 => CAN (mkN (mm I15 D5) 6 6) (fun I16 D6 => AR d 17 [vR (some 46), vI 1] (mm I16 D6) (fun x15 I17 D7 => tsP (pKd (mm I17 D7) (dZ D5) = 6) (AV d 134 [vR (some (dZ D5)), vI x3, vR x11, vR x15] (mm I17 D7) (fun I18 D8 => Q (some (vR (some (dZ D5)))) (mm I18 D8)))))))))))))))))) :
  Mt GG (d + 1) 133 [vR (some 46)] (mm I D) Q := runC_m (cut := (fun _ => false)) 46 h
