set_option maxRecDepth 100000 in
theorem s_L_cell {d : Nat} {I : IM} {D : DY} {Q : Option PV → PM → Prop} (p1 : Option Nat) (p2 : Int32) (h : onR False p1 (fun a1 => tsP (19 ≤ pKd (mm I D) a1 ∧ pKd (mm I D) a1 < 26) (brP ((Int32.ofNat (pLn (mm I D) a1)) ≤ p2)
 (Q (some (vI (p2 * 9151))) (mm I D))
 (onR False p1 (fun a2 => tsP (pKd (mm I D) a2 = 19) (tsP (inB p2 (pLn (mm I D) a2)) (Q (some (vI ((I a2 (ixN p2)) &&& 16777215))) (mm I D)))))))) :
  Mt GG d 192 [vR p1, vI p2] (mm I D) Q := runC_m (cut := (fun _ => false)) 11 h
set_option maxRecDepth 100000 in
theorem s_L_tell {d : Nat} {I : IM} {D : DY} {Q : Option PV → PM → Prop} (p2 : Option Nat) (h : Wp GG (d + 1) 193 2 [vR (some 45), vR p2, vI 0] [] (mm I D) Q) :
  Mt GG (d + 1) 193 [vR (some 45), vR p2] (mm I D) Q := runC_m (cut := (fun pc => [2].contains pc)) 3 h
set_option maxRecDepth 100000 in
theorem s_L_tell_2 {d : Nat} {I : IM} {D : DY} {Q : Option PV → PM → Prop} (p2 : Option Nat) (l2 : Int32) (h : onR False p2 (fun a1 => tsP (pKd (mm I D) a1 = 13) (CI d 7 [vR (some a1)] (mm I D) (fun x1 I1 => brP (x1 ≤ l2)
 (CI d 162 [vR (some 45), vI 2] (mm I1 D) (fun x2 I2 => onR False p2 (fun a2 => tsP (pKd (mm I2 D) a2 = 13) (CI d 7 [vR (some a2)] (mm I2 D) (fun x3 I3 => brP (¬ x2 = x3)
 (Q (some (vI 0)) (mm I3 D))
 (Q (some (vI 1)) (mm I3 D)))))))
 (onR False p2 (fun a3 => tsP (pKd (mm I1 D) a3 = 13) (CI d 20 [vR (some a3), vI l2] (mm I1 D) (fun x4 I4 => CI d 11 [vR (some 45), vI x4] (mm I4 D) (fun x5 I5 => brP (x5 = (l2 + 1))
 (Wp GG (d + 1) 193 2 [vR (some 45), vR p2, vI (l2 + 1)] [] (mm I5 D) Q)
 (Q (some (vI 0)) (mm I5 D))))))))))) :
  Wp GG (d + 1) 193 2 [vR (some 45), vR p2, vI l2] [] (mm I D) Q := runC_p (cut := (fun pc => [2].contains pc)) 16 h
set_option maxRecDepth 100000 in
theorem s_L_asks {d : Nat} {I : IM} {D : DY} {Q : Option PV → PM → Prop} (p2 : Option Nat) (p3 : Int32) (p4 : Int32) (p5 : Int32) (p6 : Int32) (h : CI d 193 [vR (some 45), vR p2] (mm I D) (fun x1 I1 => brP (x1 = 0)
 (Q (some (vI 0)) (mm I1 D))
 (AI d 14 [vR (some 45), vI p3, vI p4, vI p5] (mm I1 D) (fun x2 I2 D1 => brP (¬ x2 = p6)
 (Q (some (vI 0)) (mm I2 D1))
 (CI d 162 [vR (some 45), vI 2] (mm I2 D1) (fun x3 I3 => brP (¬ x3 = 0)
 (Q (some (vI 0)) (mm I3 D1))
 (Q (some (vI 1)) (mm I3 D1)))))))) :
  Mt GG (d + 1) 194 [vR (some 45), vR p2, vI p3, vI p4, vI p5, vI p6] (mm I D) Q := runC_m (cut := (fun _ => false)) 18 h
set_option maxRecDepth 100000 in
theorem s_L_bins {d : Nat} {I : IM} {D : DY} {Q : Option PV → PM → Prop}  (h : CAN (mkG (mm I D) 8 5) (fun I1 D1 => Q (some (vR (some (dZ D)))) (mm I1 D1))) :
  Mt GG d 195 [] (mm I D) Q := runC_m (cut := (fun _ => false)) 4 h
set_option maxRecDepth 100000 in
theorem s_L_streamOf {d : Nat} {I : IM} {D : DY} {Q : Option PV → PM → Prop} (p1 : Int32) (h : Q (some (vI (p1 - p1 / 3 * 3))) (mm I D)) :
  Mt GG d 196 [vI p1] (mm I D) Q := runC_m (cut := (fun _ => false)) 4 h
set_option maxRecDepth 100000 in
theorem s_L_kindOf {d : Nat} {I : IM} {D : DY} {Q : Option PV → PM → Prop} (p1 : Int32) (h : brP (¬ (p1 &&& 64) = 0)
 (Q (some (vI ((p1 >>> 7) - (p1 >>> 7) / 8 * 8))) (mm I D))
 (Q (some (vI 1)) (mm I D))) :
  Mt GG d 197 [vI p1] (mm I D) Q := runC_m (cut := (fun _ => false)) 10 h
set_option maxRecDepth 100000 in
theorem s_L_amountOf {d : Nat} {I : IM} {D : DY} {Q : Option PV → PM → Prop} (p1 : Int32) (h : CI d 197 [vI p1] (mm I D) (fun x1 I1 => brP (¬ x1 = 7)
 (Q (some (vI ((p1 >>> 10) - (p1 >>> 10) / 40 * 40))) (mm I1 D))
 (Q (some (vI 0)) (mm I1 D)))) :
  Mt GG (d + 1) 198 [vI p1] (mm I D) Q := runC_m (cut := (fun _ => false)) 10 h
set_option maxRecDepth 100000 in
theorem s_L_targetOf {d : Nat} {I : IM} {D : DY} {Q : Option PV → PM → Prop} (p1 : Int32) (h : Q (some (vI ((p1 >>> 16) - (p1 >>> 16) / 3 * 3))) (mm I D)) :
  Mt GG d 199 [vI p1] (mm I D) Q := runC_m (cut := (fun _ => false)) 6 h
set_option maxRecDepth 100000 in
theorem s_L_text {d : Nat} {I : IM} {D : DY} {Q : Option PV → PM → Prop} (p1 : Int32) (h : CAN (mkN (mm I D) 26 8) (fun I1 D1 => tsP (pKd (mm I1 D1) (dZ D) = 26 ∧ pKd (mm I1 D1) 21 = 13) (tsP (inB 0 (pLn (mm I1 D1) (dZ D))) (tsP (pKd (setR (mm I1 D1) (dZ D) 0 (some 21)) (dZ D) = 26 ∧ pKd (setR (mm I1 D1) (dZ D) 0 (some 21)) 43 = 13) (tsP (inB 1 (pLn (setR (mm I1 D1) (dZ D) 0 (some 21)) (dZ D))) (tsP (pKd (setR (setR (mm I1 D1) (dZ D) 0 (some 21)) (dZ D) 1 (some 43)) (dZ D) = 26 ∧ pKd (setR (setR (mm I1 D1) (dZ D) 0 (some 21)) (dZ D) 1 (some 43)) 106 = 13) (tsP (inB 2 (pLn (setR (setR (mm I1 D1) (dZ D) 0 (some 21)) (dZ D) 1 (some 43)) (dZ D))) (tsP (pKd (setR (setR (setR (mm I1 D1) (dZ D) 0 (some 21)) (dZ D) 1 (some 43)) (dZ D) 2 (some 106)) (dZ D) = 26 ∧ pKd (setR (setR (setR (mm I1 D1) (dZ D) 0 (some 21)) (dZ D) 1 (some 43)) (dZ D) 2 (some 106)) 108 = 13) (tsP (inB 3 (pLn (setR (setR (setR (mm I1 D1) (dZ D) 0 (some 21)) (dZ D) 1 (some 43)) (dZ D) 2 (some 106)) (dZ D))) (tsP (pKd (setR (setR (setR (setR (mm I1 D1) (dZ D) 0 (some 21)) (dZ D) 1 (some 43)) (dZ D) 2 (some 106)) (dZ D) 3 (some 108)) (dZ D) = 26 ∧ pKd (setR (setR (setR (setR (mm I1 D1) (dZ D) 0 (some 21)) (dZ D) 1 (some 43)) (dZ D) 2 (some 106)) (dZ D) 3 (some 108)) 110 = 13) (tsP (inB 4 (pLn (setR (setR (setR (setR (mm I1 D1) (dZ D) 0 (some 21)) (dZ D) 1 (some 43)) (dZ D) 2 (some 106)) (dZ D) 3 (some 108)) (dZ D))) (tsP (pKd (setR (setR (setR (setR (setR (mm I1 D1) (dZ D) 0 (some 21)) (dZ D) 1 (some 43)) (dZ D) 2 (some 106)) (dZ D) 3 (some 108)) (dZ D) 4 (some 110)) (dZ D) = 26 ∧ pKd (setR (setR (setR (setR (setR (mm I1 D1) (dZ D) 0 (some 21)) (dZ D) 1 (some 43)) (dZ D) 2 (some 106)) (dZ D) 3 (some 108)) (dZ D) 4 (some 110)) 112 = 13) (tsP (inB 5 (pLn (setR (setR (setR (setR (setR (mm I1 D1) (dZ D) 0 (some 21)) (dZ D) 1 (some 43)) (dZ D) 2 (some 106)) (dZ D) 3 (some 108)) (dZ D) 4 (some 110)) (dZ D))) (tsP (pKd (setR (setR (setR (setR (setR (setR (mm I1 D1) (dZ D) 0 (some 21)) (dZ D) 1 (some 43)) (dZ D) 2 (some 106)) (dZ D) 3 (some 108)) (dZ D) 4 (some 110)) (dZ D) 5 (some 112)) (dZ D) = 26 ∧ pKd (setR (setR (setR (setR (setR (setR (mm I1 D1) (dZ D) 0 (some 21)) (dZ D) 1 (some 43)) (dZ D) 2 (some 106)) (dZ D) 3 (some 108)) (dZ D) 4 (some 110)) (dZ D) 5 (some 112)) 114 = 13) (tsP (inB 6 (pLn (setR (setR (setR (setR (setR (setR (mm I1 D1) (dZ D) 0 (some 21)) (dZ D) 1 (some 43)) (dZ D) 2 (some 106)) (dZ D) 3 (some 108)) (dZ D) 4 (some 110)) (dZ D) 5 (some 112)) (dZ D))) (tsP (pKd (setR (setR (setR (setR (setR (setR (setR (mm I1 D1) (dZ D) 0 (some 21)) (dZ D) 1 (some 43)) (dZ D) 2 (some 106)) (dZ D) 3 (some 108)) (dZ D) 4 (some 110)) (dZ D) 5 (some 112)) (dZ D) 6 (some 114)) (dZ D) = 26 ∧ pKd (setR (setR (setR (setR (setR (setR (setR (mm I1 D1) (dZ D) 0 (some 21)) (dZ D) 1 (some 43)) (dZ D) 2 (some 106)) (dZ D) 3 (some 108)) (dZ D) 4 (some 110)) (dZ D) 5 (some 112)) (dZ D) 6 (some 114)) 116 = 13) (tsP (inB 7 (pLn (setR (setR (setR (setR (setR (setR (setR (mm I1 D1) (dZ D) 0 (some 21)) (dZ D) 1 (some 43)) (dZ D) 2 (some 106)) (dZ D) 3 (some 108)) (dZ D) 4 (some 110)) (dZ D) 5 (some 112)) (dZ D) 6 (some 114)) (dZ D))) (CI d 197 [vI p1] (setR (setR (setR (setR (setR (setR (setR (setR (mm I1 D1) (dZ D) 0 (some 21)) (dZ D) 1 (some 43)) (dZ D) 2 (some 106)) (dZ D) 3 (some 108)) (dZ D) 4 (some 110)) (dZ D) 5 (some 112)) (dZ D) 6 (some 114)) (dZ D) 7 (some 116)) (fun x1 I2 => tsP (pKd (setR (setR (setR (setR (setR (setR (setR (setR (mm I2 D1) (dZ D) 0 (some 21)) (dZ D) 1 (some 43)) (dZ D) 2 (some 106)) (dZ D) 3 (some 108)) (dZ D) 4 (some 110)) (dZ D) 5 (some 112)) (dZ D) 6 (some 114)) (dZ D) 7 (some 116)) (dZ D) = 26) (tsP (inB x1 (pLn (setR (setR (setR (setR (setR (setR (setR (setR (mm I2 D1) (dZ D) 0 (some 21)) (dZ D) 1 (some 43)) (dZ D) 2 (some 106)) (dZ D) 3 (some 108)) (dZ D) 4 (some 110)) (dZ D) 5 (some 112)) (dZ D) 6 (some 114)) (dZ D) 7 (some 116)) (dZ D))) (CI d 197 [vI p1] (setR (setR (setR (setR (setR (setR (setR (setR (mm I2 D1) (dZ D) 0 (some 21)) (dZ D) 1 (some 43)) (dZ D) 2 (some 106)) (dZ D) 3 (some 108)) (dZ D) 4 (some 110)) (dZ D) 5 (some 112)) (dZ D) 6 (some 114)) (dZ D) 7 (some 116)) (fun x2 I3 => brP ((7 : Int32) ≤ x2)
 (Wp GG (d + 1) 200 91 [vI p1, vR (some (dZ D)), vR (pR (setR (setR (setR (setR (setR (setR (setR (setR (mm I2 D1) (dZ D) 0 (some 21)) (dZ D) 1 (some 43)) (dZ D) 2 (some 106)) (dZ D) 3 (some 108)) (dZ D) 4 (some 110)) (dZ D) 5 (some 112)) (dZ D) 6 (some 114)) (dZ D) 7 (some 116)) (dZ D) (ixN x1))] [] (setR (setR (setR (setR (setR (setR (setR (setR (mm I3 D1) (dZ D) 0 (some 21)) (dZ D) 1 (some 43)) (dZ D) 2 (some 106)) (dZ D) 3 (some 108)) (dZ D) 4 (some 110)) (dZ D) 5 (some 112)) (dZ D) 6 (some 114)) (dZ D) 7 (some 116)) Q)
 (Wp GG (d + 1) 200 64 [vI p1, vR (some (dZ D)), vR (pR (setR (setR (setR (setR (setR (setR (setR (setR (mm I2 D1) (dZ D) 0 (some 21)) (dZ D) 1 (some 43)) (dZ D) 2 (some 106)) (dZ D) 3 (some 108)) (dZ D) 4 (some 110)) (dZ D) 5 (some 112)) (dZ D) 6 (some 114)) (dZ D) 7 (some 116)) (dZ D) (ixN x1))] [] (setR (setR (setR (setR (setR (setR (setR (setR (mm I3 D1) (dZ D) 0 (some 21)) (dZ D) 1 (some 43)) (dZ D) 2 (some 106)) (dZ D) 3 (some 108)) (dZ D) 4 (some 110)) (dZ D) 5 (some 112)) (dZ D) 6 (some 114)) (dZ D) 7 (some 116)) Q))))))))))))))))))))))) :
  Mt GG (d + 1) 200 [vI p1] (mm I D) Q := runC_m (cut := (fun pc => [64, 91, 100].contains pc)) 45 h
set_option maxRecDepth 100000 in
theorem s_L_text_64 {d : Nat} {I : IM} {D : DY} {Q : Option PV → PM → Prop} (p1 : Int32) (l1 : Option Nat) (l2 : Option Nat) (h : CAN (mkN (mm I D) 12 4) (fun I1 D1 => tsP (pKd (mm I1 D1) (dZ D) = 12) (AV d 167 [vR (some (dZ D))] (mm I1 D1) (fun I2 D2 => tsP (pKd (mm I2 D2) (dZ D) = 12) (AR d 168 [vR (some (dZ D)), vR l2] (mm I2 D2) (fun x2 I3 D3 => onR False x2 (fun a1 => tsP (pKd (mm I3 D3) a1 = 12) (AR d 168 [vR (some a1), vR (some 118)] (mm I3 D3) (fun x3 I4 D4 => CI d 198 [vI p1] (mm I4 D4) (fun x4 I5 => onR False x3 (fun a2 => tsP (pKd (mm I5 D4) a2 = 12) (AR d 169 [vR (some a2), vI x4] (mm I5 D4) (fun x5 I6 D5 => onR False x5 (fun a3 => tsP (pKd (mm I6 D5) a3 = 12) (AR d 170 [vR (some a3)] (mm I6 D5) (fun x6 I7 D6 => Wp GG (d + 1) 200 91 [vI p1, vR l1, vR x6] [] (mm I7 D6) Q)))))))))))))))) :
  Wp GG (d + 1) 200 64 [vI p1, vR l1, vR l2] [] (mm I D) Q := runC_p (cut := (fun pc => [64, 91, 100].contains pc)) 13 h
set_option maxRecDepth 100000 in
theorem s_L_text_91 {d : Nat} {I : IM} {D : DY} {Q : Option PV → PM → Prop} (p1 : Int32) (l1 : Option Nat) (l2 : Option Nat) (h : CI d 197 [vI p1] (mm I D) (fun x1 I1 => brP (¬ x1 = 6)
 (Q (some (vR l2)) (mm I1 D))
 (Wp GG (d + 1) 200 100 [vI p1, vR l1, vR l2] [] (mm I1 D) Q))) :
  Wp GG (d + 1) 200 91 [vI p1, vR l1, vR l2] [] (mm I D) Q := runC_p (cut := (fun pc => [64, 91, 100].contains pc)) 6 h
set_option maxRecDepth 100000 in
theorem s_L_text_100 {d : Nat} {I : IM} {D : DY} {Q : Option PV → PM → Prop} (p1 : Int32) (l1 : Option Nat) (l2 : Option Nat) (h : CAN (mkN (mm I D) 12 4) (fun I1 D1 => tsP (pKd (mm I1 D1) (dZ D) = 12) (AV d 167 [vR (some (dZ D))] (mm I1 D1) (fun I2 D2 => tsP (pKd (mm I2 D2) (dZ D) = 12) (AR d 168 [vR (some (dZ D)), vR l2] (mm I2 D2) (fun x2 I3 D3 => onR False x2 (fun a1 => tsP (pKd (mm I3 D3) a1 = 12) (AR d 168 [vR (some a1), vR (some 120)] (mm I3 D3) (fun x3 I4 D4 => CI d 199 [vI p1] (mm I4 D4) (fun x4 I5 => onR False x3 (fun a2 => tsP (pKd (mm I5 D4) a2 = 12) (AR d 169 [vR (some a2), vI x4] (mm I5 D4) (fun x5 I6 D5 => onR False x5 (fun a3 => tsP (pKd (mm I6 D5) a3 = 12) (AR d 170 [vR (some a3)] (mm I6 D5) (fun x6 I7 D6 => Q (some (vR x6)) (mm I7 D6))))))))))))))))) :
  Wp GG (d + 1) 200 100 [vI p1, vR l1, vR l2] [] (mm I D) Q := runC_p (cut := (fun pc => [64, 91, 100].contains pc)) 13 h
set_option maxRecDepth 100000 in
theorem s_L_isSo {d : Nat} {I : IM} {D : DY} {Q : Option PV → PM → Prop} (p2 : Option Nat) (h : Wp GG (d + 1) 201 2 [vR (some 45), vR p2, vI 0, vT] [] (mm I D) Q) :
  Mt GG (d + 1) 201 [vR (some 45), vR p2] (mm I D) Q := runC_m (cut := (fun pc => [2, 9].contains pc)) 3 h
set_option maxRecDepth 100000 in
theorem s_L_isSo_2 {d : Nat} {I : IM} {D : DY} {Q : Option PV → PM → Prop} (p2 : Option Nat) (l2 : Int32) (w3 : PV) (h : brP ((3 : Int32) ≤ l2)
 (Q (some (vI 1)) (mm I D))
 (Wp GG (d + 1) 201 9 [vR (some 45), vR p2, vI l2, vI 0] [] (mm I D) Q)) :
  Wp GG (d + 1) 201 2 [vR (some 45), vR p2, vI l2, w3] [] (mm I D) Q := runC_p (cut := (fun pc => [2, 9].contains pc)) 6 h
set_option maxRecDepth 100000 in
theorem s_L_isSo_9 {d : Nat} {I : IM} {D : DY} {Q : Option PV → PM → Prop} (p2 : Option Nat) (l2 : Int32) (l3 : Int32) (h : brP ((5 : Int32) ≤ l3)
 (Wp GG (d + 1) 201 2 [vR (some 45), vR p2, vI (l2 + 1), vI l3] [] (mm I D) Q)
 (CI d 87 [vR (some 45), vI l2, vI l3] (mm I D) (fun x1 I1 => onR False p2 (fun a1 => tsP (pKd (mm I1 D) a1 = 27) (tsP (inB l2 (pLn (mm I1 D) a1)) (onR False (pR (mm I1 D) a1 (ixN l2)) (fun a2 => tsP (pKd (mm I1 D) a2 = 20) (tsP (inB l3 (pLn (mm I1 D) a2)) (brP (x1 = (I1 a2 (ixN l3)))
 (Wp GG (d + 1) 201 9 [vR (some 45), vR p2, vI l2, vI (l3 + 1)] [] (mm I1 D) Q)
 (Q (some (vI 0)) (mm I1 D))))))))))) :
  Wp GG (d + 1) 201 9 [vR (some 45), vR p2, vI l2, vI l3] [] (mm I D) Q := runC_p (cut := (fun pc => [2, 9].contains pc)) 16 h
set_option maxRecDepth 100000 in
theorem s_L_opened {d : Nat} {I : IM} {D : DY} {Q : Option PV → PM → Prop} (p2 : Option Nat) (h : onR False p2 (fun a1 => tsP (pKd (mm I D) a1 = 27) (tsP (inB 0 (pLn (mm I D) a1)) (onR False (pR (mm I D) a1 0) (fun a2 => tsP (pKd (mm I D) a2 = kInt) (tsP (inB 0 (pLn (mm I D) a2)) (onR False p2 (fun a3 => tsP (pKd (mm (up2 I a2 0 1) D) a3 = 27) (tsP (inB 0 (pLn (mm (up2 I a2 0 1) D) a3)) (onR False (pR (mm (up2 I a2 0 1) D) a3 0) (fun a4 => tsP (pKd (mm (up2 I a2 0 1) D) a4 = kInt) (tsP (inB 3 (pLn (mm (up2 I a2 0 1) D) a4)) (onR False p2 (fun a5 => tsP (pKd (mm (up2 (up2 I a2 0 1) a4 3 7) D) a5 = 27) (tsP (inB 0 (pLn (mm (up2 (up2 I a2 0 1) a4 3 7) D) a5)) (onR False (pR (mm (up2 (up2 I a2 0 1) a4 3 7) D) a5 0) (fun a6 => tsP (pKd (mm (up2 (up2 I a2 0 1) a4 3 7) D) a6 = kInt) (tsP (inB 4 (pLn (mm (up2 (up2 I a2 0 1) a4 3 7) D) a6)) (onR False p2 (fun a7 => tsP (pKd (mm (up2 (up2 (up2 I a2 0 1) a4 3 7) a6 4 1) D) a7 = 27) (tsP (inB 1 (pLn (mm (up2 (up2 (up2 I a2 0 1) a4 3 7) a6 4 1) D) a7)) (onR False (pR (mm (up2 (up2 (up2 I a2 0 1) a4 3 7) a6 4 1) D) a7 1) (fun a8 => tsP (pKd (mm (up2 (up2 (up2 I a2 0 1) a4 3 7) a6 4 1) D) a8 = kInt) (tsP (inB 0 (pLn (mm (up2 (up2 (up2 I a2 0 1) a4 3 7) a6 4 1) D) a8)) (onR False p2 (fun a9 => tsP (pKd (mm (up2 (up2 (up2 (up2 I a2 0 1) a4 3 7) a6 4 1) a8 0 1) D) a9 = 27) (tsP (inB 1 (pLn (mm (up2 (up2 (up2 (up2 I a2 0 1) a4 3 7) a6 4 1) a8 0 1) D) a9)) (onR False (pR (mm (up2 (up2 (up2 (up2 I a2 0 1) a4 3 7) a6 4 1) a8 0 1) D) a9 1) (fun a10 => tsP (pKd (mm (up2 (up2 (up2 (up2 I a2 0 1) a4 3 7) a6 4 1) a8 0 1) D) a10 = kInt) (tsP (inB 3 (pLn (mm (up2 (up2 (up2 (up2 I a2 0 1) a4 3 7) a6 4 1) a8 0 1) D) a10)) (onR False p2 (fun a11 => tsP (pKd (mm (up2 (up2 (up2 (up2 (up2 I a2 0 1) a4 3 7) a6 4 1) a8 0 1) a10 3 5) D) a11 = 27) (tsP (inB 1 (pLn (mm (up2 (up2 (up2 (up2 (up2 I a2 0 1) a4 3 7) a6 4 1) a8 0 1) a10 3 5) D) a11)) (onR False (pR (mm (up2 (up2 (up2 (up2 (up2 I a2 0 1) a4 3 7) a6 4 1) a8 0 1) a10 3 5) D) a11 1) (fun a12 => tsP (pKd (mm (up2 (up2 (up2 (up2 (up2 I a2 0 1) a4 3 7) a6 4 1) a8 0 1) a10 3 5) D) a12 = kInt) (tsP (inB 4 (pLn (mm (up2 (up2 (up2 (up2 (up2 I a2 0 1) a4 3 7) a6 4 1) a8 0 1) a10 3 5) D) a12)) (AI d 194 [vR (some 45), vR (some 122), vI 0, vI 0, vI 0, vI 1] (mm (up2 (up2 (up2 (up2 (up2 (up2 I a2 0 1) a4 3 7) a6 4 1) a8 0 1) a10 3 5) a12 4 1) D) (fun x1 I1 D1 => brP (x1 = 0)
 (Q (some (vI 0)) (mm I1 D1))
 (AI d 194 [vR (some 45), vR (some 124), vI 1, vI (-1), vI 0, vI 1] (mm I1 D1) (fun x2 I2 D2 => brP (x2 = 0)
 (Q (some (vI 0)) (mm I2 D2))
 (CI d 201 [vR (some 45), vR p2] (mm I2 D2) (fun x3 I3 => brP (x3 = 0)
 (Q (some (vI 0)) (mm I3 D2))
 (Q (some (vI 1)) (mm I3 D2)))))))))))))))))))))))))))))))))))))))))))) :
  Mt GG (d + 1) 202 [vR (some 45), vR p2] (mm I D) Q := runC_m (cut := (fun _ => false)) 59 h
set_option maxRecDepth 100000 in
theorem s_L_isFolded {d : Nat} {I : IM} {D : DY} {Q : Option PV → PM → Prop}  (h : AR d 195 [] (mm I D) (fun x1 I1 D1 => Wp GG (d + 1) 203 6 [vR (some 45), vR x1, vI 1, vT, vT, vT, vT] [] (mm I1 D1) Q)) :
  Mt GG (d + 1) 203 [vR (some 45)] (mm I D) Q := runC_m (cut := (fun pc => [6, 15, 50, 68, 81, 125, 157, 182, 229, 232].contains pc)) 5 h
set_option maxRecDepth 100000 in
theorem s_L_isFolded_6 {d : Nat} {I : IM} {D : DY} {Q : Option PV → PM → Prop} (l1 : Option Nat) (l2 : Int32) (w3 : PV) (w4 : PV) (w5 : PV) (w6 : PV) (h : CI d 162 [vR (some 45), vI 0] (mm I D) (fun x1 I1 => brP (x1 < l2)
 (CI d 201 [vR (some 45), vR l1] (mm I1 D) (fun x2 I2 => rtP 2 x2 (Q (some (vI x2)) (mm I2 D))))
 (Wp GG (d + 1) 203 15 [vR (some 45), vR l1, vI l2, w3, w4, w5, w6] [] (mm I1 D) Q))) :
  Wp GG (d + 1) 203 6 [vR (some 45), vR l1, vI l2, w3, w4, w5, w6] [] (mm I D) Q := runC_p (cut := (fun pc => [6, 15, 50, 68, 81, 125, 157, 182, 229, 232].contains pc)) 9 h
set_option maxRecDepth 100000 in
theorem s_L_isFolded_15 {d : Nat} {I : IM} {D : DY} {Q : Option PV → PM → Prop} (l1 : Option Nat) (l2 : Int32) (w3 : PV) (w4 : PV) (w5 : PV) (w6 : PV) (h : CI d 99 [vR (some 45), vI l2, vI 0] (mm I D) (fun x1 I1 => CI d 99 [vR (some 45), vI l2, vI 2] (mm I1 D) (fun x2 I2 => CI d 99 [vR (some 45), vI l2, vI 6] (mm I2 D) (fun x3 I3 => brP (¬ x2 = 0)
 (Wp GG (d + 1) 203 50 [vR (some 45), vR l1, vI l2, vI x1, vI x2, vI x3, w6] [] (mm I3 D) Q)
 (onR False l1 (fun a1 => tsP (pKd (mm I3 D) a1 = 27) (tsP (inB x1 (pLn (mm I3 D) a1)) (onR False (pR (mm I3 D) a1 (ixN x1)) (fun a2 => tsP (pKd (mm I3 D) a2 = kInt) (tsP (inB 0 (pLn (mm I3 D) a2)) (Wp GG (d + 1) 203 50 [vR (some 45), vR l1, vI l2, vI x1, vI x2, vI x3, w6] [] (mm (up2 I3 a2 0 1) D) Q))))))))))) :
  Wp GG (d + 1) 203 15 [vR (some 45), vR l1, vI l2, w3, w4, w5, w6] [] (mm I D) Q := runC_p (cut := (fun pc => [6, 15, 50, 68, 81, 125, 157, 182, 229, 232].contains pc)) 24 h
set_option maxRecDepth 100000 in
theorem s_L_isFolded_50 {d : Nat} {I : IM} {D : DY} {Q : Option PV → PM → Prop} (l1 : Option Nat) (l2 : Int32) (l3 : Int32) (l4 : Int32) (l5 : Int32) (w6 : PV) (h : brP (l4 = 0)
 (onR False l1 (fun a1 => tsP (pKd (mm I D) a1 = 27) (tsP (inB l3 (pLn (mm I D) a1)) (onR False (pR (mm I D) a1 (ixN l3)) (fun a2 => tsP (pKd (mm I D) a2 = kInt) (tsP (inB 3 (pLn (mm I D) a2)) (Wp GG (d + 1) 203 68 [vR (some 45), vR l1, vI l2, vI l3, vI l4, vI l5, w6] [] (mm (up2 I a2 3 l5) D) Q)))))))
 (brP (¬ l4 = 5)
 (Wp GG (d + 1) 203 68 [vR (some 45), vR l1, vI l2, vI l3, vI l4, vI l5, w6] [] (mm I D) Q)
 (onR False l1 (fun a3 => tsP (pKd (mm I D) a3 = 27) (tsP (inB l3 (pLn (mm I D) a3)) (onR False (pR (mm I D) a3 (ixN l3)) (fun a4 => tsP (pKd (mm I D) a4 = kInt) (tsP (inB 3 (pLn (mm I D) a4)) (Wp GG (d + 1) 203 68 [vR (some 45), vR l1, vI l2, vI l3, vI l4, vI l5, w6] [] (mm (up2 I a4 3 l5) D) Q))))))))) :
  Wp GG (d + 1) 203 50 [vR (some 45), vR l1, vI l2, vI l3, vI l4, vI l5, w6] [] (mm I D) Q := runC_p (cut := (fun pc => [6, 15, 50, 68, 81, 125, 157, 182, 229, 232].contains pc)) 12 h
set_option maxRecDepth 100000 in
theorem s_L_isFolded_68 {d : Nat} {I : IM} {D : DY} {Q : Option PV → PM → Prop} (l1 : Option Nat) (l2 : Int32) (l3 : Int32) (l4 : Int32) (l5 : Int32) (w6 : PV) (h : brP (¬ l4 = 8)
 (Wp GG (d + 1) 203 81 [vR (some 45), vR l1, vI l2, vI l3, vI l4, vI l5, w6] [] (mm I D) Q)
 (onR False l1 (fun a1 => tsP (pKd (mm I D) a1 = 27) (tsP (inB l3 (pLn (mm I D) a1)) (onR False (pR (mm I D) a1 (ixN l3)) (fun a2 => tsP (pKd (mm I D) a2 = kInt) (tsP (inB 0 (pLn (mm I D) a2)) (Wp GG (d + 1) 203 81 [vR (some 45), vR l1, vI l2, vI l3, vI l4, vI l5, w6] [] (mm (up2 I a2 0 2) D) Q)))))))) :
  Wp GG (d + 1) 203 68 [vR (some 45), vR l1, vI l2, vI l3, vI l4, vI l5, w6] [] (mm I D) Q := runC_p (cut := (fun pc => [6, 15, 50, 68, 81, 125, 157, 182, 229, 232].contains pc)) 10 h
set_option maxRecDepth 100000 in
theorem s_L_isFolded_81 {d : Nat} {I : IM} {D : DY} {Q : Option PV → PM → Prop} (l1 : Option Nat) (l2 : Int32) (l3 : Int32) (l4 : Int32) (l5 : Int32) (w6 : PV) (h : onR False l1 (fun a1 => tsP (pKd (mm I D) a1 = 27) (tsP (inB l3 (pLn (mm I D) a1)) (onR False (pR (mm I D) a1 (ixN l3)) (fun a2 => tsP (pKd (mm I D) a2 = 20) (tsP (inB 1 (pLn (mm I D) a2)) (brP (l4 = 1)
 (Wp GG (d + 1) 203 125 [vR (some 45), vR l1, vI l2, vI l3, vI l4, vI l5, w6] [vI l5, vI (I a2 1), vI 1, vR (pR (mm I D) a1 (ixN l3))] (mm I D) Q)
 (brP (¬ l4 = 7)
 (brP (l4 = 2)
 (Wp GG (d + 1) 203 125 [vR (some 45), vR l1, vI l2, vI l3, vI l4, vI l5, w6] [vI (-l5), vI (I a2 1), vI 1, vR (pR (mm I D) a1 (ixN l3))] (mm I D) Q)
 (brP (¬ l4 = 6)
 (Wp GG (d + 1) 203 125 [vR (some 45), vR l1, vI l2, vI l3, vI l4, vI l5, w6] [vI 0, vI (I a2 1), vI 1, vR (pR (mm I D) a1 (ixN l3))] (mm I D) Q)
 (Wp GG (d + 1) 203 125 [vR (some 45), vR l1, vI l2, vI l3, vI l4, vI l5, w6] [vI (-l5), vI (I a2 1), vI 1, vR (pR (mm I D) a1 (ixN l3))] (mm I D) Q)))
 (Wp GG (d + 1) 203 125 [vR (some 45), vR l1, vI l2, vI l3, vI l4, vI l5, w6] [vI l5, vI (I a2 1), vI 1, vR (pR (mm I D) a1 (ixN l3))] (mm I D) Q))))))))) :
  Wp GG (d + 1) 203 81 [vR (some 45), vR l1, vI l2, vI l3, vI l4, vI l5, w6] [] (mm I D) Q := runC_p (cut := (fun pc => [6, 15, 50, 68, 81, 125, 157, 182, 229, 232].contains pc)) 22 h
set_option maxRecDepth 100000 in
theorem s_L_isFolded_125 {d : Nat} {I : IM} {D : DY} {Q : Option PV → PM → Prop} (l1 : Option Nat) (l2 : Int32) (l3 : Int32) (l4 : Int32) (l5 : Int32) (w6 : PV) (l0 : Option Nat) (t1 : Int32) (t2 : Int32) (t3 : Int32) (h : onR False l0 (fun a1 => tsP (pKd (mm I D) a1 = kInt) (tsP (inB t1 (pLn (mm I D) a1)) (onR False l1 (fun a2 => tsP (pKd (mm (up2 I a1 (ixN t1) (t2 + t3)) D) a2 = 27) (tsP (inB l3 (pLn (mm (up2 I a1 (ixN t1) (t2 + t3)) D) a2)) (onR False (pR (mm (up2 I a1 (ixN t1) (t2 + t3)) D) a2 (ixN l3)) (fun a3 => tsP (pKd (mm (up2 I a1 (ixN t1) (t2 + t3)) D) a3 = 20) (tsP (inB 2 (pLn (mm (up2 I a1 (ixN t1) (t2 + t3)) D) a3)) (brP (¬ l4 = 3)
 (brP (¬ l4 = 4)
 (Wp GG (d + 1) 203 157 [vR (some 45), vR l1, vI l2, vI l3, vI l4, vI l5, w6] [vI 0, vI ((up2 I a1 (ixN t1) (t2 + t3)) a3 2), vI 2, vR (pR (mm (up2 I a1 (ixN t1) (t2 + t3)) D) a2 (ixN l3))] (mm (up2 I a1 (ixN t1) (t2 + t3)) D) Q)
 (Wp GG (d + 1) 203 157 [vR (some 45), vR l1, vI l2, vI l3, vI l4, vI l5, w6] [vI (-l5), vI ((up2 I a1 (ixN t1) (t2 + t3)) a3 2), vI 2, vR (pR (mm (up2 I a1 (ixN t1) (t2 + t3)) D) a2 (ixN l3))] (mm (up2 I a1 (ixN t1) (t2 + t3)) D) Q))
 (Wp GG (d + 1) 203 157 [vR (some 45), vR l1, vI l2, vI l3, vI l4, vI l5, w6] [vI l5, vI ((up2 I a1 (ixN t1) (t2 + t3)) a3 2), vI 2, vR (pR (mm (up2 I a1 (ixN t1) (t2 + t3)) D) a2 (ixN l3))] (mm (up2 I a1 (ixN t1) (t2 + t3)) D) Q))))))))))) :
  Wp GG (d + 1) 203 125 [vR (some 45), vR l1, vI l2, vI l3, vI l4, vI l5, w6] [vI t3, vI t2, vI t1, vR l0] (mm I D) Q := runC_p (cut := (fun pc => [6, 15, 50, 68, 81, 125, 157, 182, 229, 232].contains pc)) 18 h
set_option maxRecDepth 100000 in
theorem s_L_isFolded_157 {d : Nat} {I : IM} {D : DY} {Q : Option PV → PM → Prop} (l1 : Option Nat) (l2 : Int32) (l3 : Int32) (l4 : Int32) (l5 : Int32) (w6 : PV) (l0 : Option Nat) (t1 : Int32) (t2 : Int32) (t3 : Int32) (h : onR False l0 (fun a1 => tsP (pKd (mm I D) a1 = kInt) (tsP (inB t1 (pLn (mm I D) a1)) (onR False l1 (fun a2 => tsP (pKd (mm (up2 I a1 (ixN t1) (t2 + t3)) D) a2 = 27) (tsP (inB l3 (pLn (mm (up2 I a1 (ixN t1) (t2 + t3)) D) a2)) (onR False (pR (mm (up2 I a1 (ixN t1) (t2 + t3)) D) a2 (ixN l3)) (fun a3 => tsP (pKd (mm (up2 I a1 (ixN t1) (t2 + t3)) D) a3 = 20) (tsP (inB 4 (pLn (mm (up2 I a1 (ixN t1) (t2 + t3)) D) a3)) (onR False (pR (mm (up2 I a1 (ixN t1) (t2 + t3)) D) a2 (ixN l3)) (fun a4 => tsP (pKd (mm (up2 I a1 (ixN t1) (t2 + t3)) D) a4 = kInt) (tsP (inB 4 (pLn (mm (up2 I a1 (ixN t1) (t2 + t3)) D) a4)) (CI d 99 [vR (some 45), vI l2, vI 1] (mm (up2 (up2 I a1 (ixN t1) (t2 + t3)) a4 4 (((up2 I a1 (ixN t1) (t2 + t3)) a3 4) + 1)) D) (fun x1 I1 => onR False l1 (fun a5 => tsP (pKd (mm I1 D) a5 = 27) (tsP (inB l3 (pLn (mm I1 D) a5)) (onR False (pR (mm I1 D) a5 (ixN l3)) (fun a6 => tsP (pKd (mm I1 D) a6 = 20) (tsP (inB 4 (pLn (mm I1 D) a6)) (brP (¬ x1 = (I1 a6 4))
 (Q (some (vI 0)) (mm I1 D))
 (Wp GG (d + 1) 203 182 [vR (some 45), vR l1, vI l2, vI l3, vI l4, vI l5, w6] [] (mm I1 D) Q))))))))))))))))))))) :
  Wp GG (d + 1) 203 157 [vR (some 45), vR l1, vI l2, vI l3, vI l4, vI l5, w6] [vI t3, vI t2, vI t1, vR l0] (mm I D) Q := runC_p (cut := (fun pc => [6, 15, 50, 68, 81, 125, 157, 182, 229, 232].contains pc)) 23 h
set_option maxRecDepth 100000 in
theorem s_L_isFolded_182 {d : Nat} {I : IM} {D : DY} {Q : Option PV → PM → Prop} (l1 : Option Nat) (l2 : Int32) (l3 : Int32) (l4 : Int32) (l5 : Int32) (w6 : PV) (h : onR False l1 (fun a1 => tsP (pKd (mm I D) a1 = 27) (tsP (inB l3 (pLn (mm I D) a1)) (onR False (pR (mm I D) a1 (ixN l3)) (fun a2 => tsP (pKd (mm I D) a2 = 20) (tsP (inB 4 (pLn (mm I D) a2)) (CI d 106 [vR (some 45), vI l3, vI (I a2 4)] (mm I D) (fun x1 I1 => brP (¬ x1 = l2)
 (Q (some (vI 0)) (mm I1 D))
 (onR False l1 (fun a3 => tsP (pKd (mm I1 D) a3 = 27) (tsP (inB l3 (pLn (mm I1 D) a3)) (onR False (pR (mm I1 D) a3 (ixN l3)) (fun a4 => tsP (pKd (mm I1 D) a4 = 20) (tsP (inB 4 (pLn (mm I1 D) a4)) (CI d 91 [vR (some 45), vI l3, vI (I1 a4 4)] (mm I1 D) (fun x2 I2 => brP (x2 < 0)
 (Q (some (vI 0)) (mm I2 D))
 (onR False l1 (fun a5 => tsP (pKd (mm I2 D) a5 = 27) (tsP (inB l3 (pLn (mm I2 D) a5)) (onR False (pR (mm I2 D) a5 (ixN l3)) (fun a6 => tsP (pKd (mm I2 D) a6 = 20) (tsP (inB 4 (pLn (mm I2 D) a6)) (CI d 91 [vR (some 45), vI l3, vI (I2 a6 4)] (mm I2 D) (fun x3 I3 => onR False l1 (fun a7 => tsP (pKd (mm I3 D) a7 = 27) (tsP (inB l3 (pLn (mm I3 D) a7)) (onR False (pR (mm I3 D) a7 (ixN l3)) (fun a8 => tsP (pKd (mm I3 D) a8 = 20) (tsP (inB 4 (pLn (mm I3 D) a8)) (brP (x3 ≤ (I3 a8 4))
 (Wp GG (d + 1) 203 229 [vR (some 45), vR l1, vI l2, vI l3, vI l4, vI l5, w6] [] (mm I3 D) Q)
 (Q (some (vI 0)) (mm I3 D)))))))))))))))))))))))))))))))) :
  Wp GG (d + 1) 203 182 [vR (some 45), vR l1, vI l2, vI l3, vI l4, vI l5, w6] [] (mm I D) Q := runC_p (cut := (fun pc => [6, 15, 50, 68, 81, 125, 157, 182, 229, 232].contains pc)) 35 h
set_option maxRecDepth 100000 in
theorem s_L_isFolded_229 {d : Nat} {I : IM} {D : DY} {Q : Option PV → PM → Prop} (l1 : Option Nat) (l2 : Int32) (l3 : Int32) (l4 : Int32) (l5 : Int32) (w6 : PV) (h : Wp GG (d + 1) 203 232 [vR (some 45), vR l1, vI l2, vI l3, vI l4, vI l5, vI 0] [] (mm I D) Q) :
  Wp GG (d + 1) 203 229 [vR (some 45), vR l1, vI l2, vI l3, vI l4, vI l5, w6] [] (mm I D) Q := runC_p (cut := (fun pc => [6, 15, 50, 68, 81, 125, 157, 182, 229, 232].contains pc)) 3 h
set_option maxRecDepth 100000 in
theorem s_L_isFolded_232 {d : Nat} {I : IM} {D : DY} {Q : Option PV → PM → Prop} (l1 : Option Nat) (l2 : Int32) (l3 : Int32) (l4 : Int32) (l5 : Int32) (l6 : Int32) (h : brP ((4 : Int32) ≤ l6)
 (Wp GG (d + 1) 203 6 [vR (some 45), vR l1, vI (l2 + 1), vI l3, vI l4, vI l5, vI l6] [] (mm I D) Q)
 (onR False l1 (fun a1 => tsP (pKd (mm I D) a1 = 27) (tsP (inB l3 (pLn (mm I D) a1)) (onR False (pR (mm I D) a1 (ixN l3)) (fun a2 => tsP (pKd (mm I D) a2 = 20) (tsP (inB 4 (pLn (mm I D) a2)) (CI d 88 [vR (some 45), vI l3, vI (I a2 4), vI l6] (mm I D) (fun x1 I1 => onR False l1 (fun a3 => tsP (pKd (mm I1 D) a3 = 27) (tsP (inB l3 (pLn (mm I1 D) a3)) (onR False (pR (mm I1 D) a3 (ixN l3)) (fun a4 => tsP (pKd (mm I1 D) a4 = 20) (tsP (inB l6 (pLn (mm I1 D) a4)) (brP (x1 = (I1 a4 (ixN l6)))
 (Wp GG (d + 1) 203 232 [vR (some 45), vR l1, vI l2, vI l3, vI l4, vI l5, vI (l6 + 1)] [] (mm I1 D) Q)
 (Q (some (vI 0)) (mm I1 D))))))))))))))))) :
  Wp GG (d + 1) 203 232 [vR (some 45), vR l1, vI l2, vI l3, vI l4, vI l5, vI l6] [] (mm I D) Q := runC_p (cut := (fun pc => [6, 15, 50, 68, 81, 125, 157, 182, 229, 232].contains pc)) 21 h
