set_option maxRecDepth 100000 in
theorem s_String_length {d : Nat} {I : IM} {D : DY} {Q : Option PV → PM → Prop} (a : Nat) (h : tsP (pKd (mm I D) a = 13) (onR False (pR (mm I D) a 0) (fun a1 => tsP (19 ≤ pKd (mm I D) a1 ∧ pKd (mm I D) a1 < 26) (tsP (pKd (mm I D) a = 13) (CI d 8 [vR (some a)] (mm I D) (fun x1 I1 => Q (some (vI ((Int32.ofNat (pLn (mm I D) a1)) >>> x1))) (mm I1 D))))))) :
  Mt GG (d + 1) 7 [vR (some a)] (mm I D) Q := runC_m (cut := (fun _ => false)) 7 h
set_option maxRecDepth 100000 in
theorem s_String_coder {d : Nat} {I : IM} {D : DY} {Q : Option PV → PM → Prop} (a : Nat) (h : tsP (pKd (mm I D) a = 13) (rtP 4 (I a 1) (Q (some (vI (I a 1))) (mm I D)))) :
  Mt GG d 8 [vR (some a)] (mm I D) Q := runC_m (cut := (fun _ => false)) 6 h
set_option maxRecDepth 100000 in
theorem s_Arrays_fill {d : Nat} {I : IM} {D : DY} {Q : Option PV → PM → Prop} (p1 : Option Nat) (p2 : Int32) (h : onR False p1 (fun a1 => tsP (19 ≤ pKd (mm I D) a1 ∧ pKd (mm I D) a1 < 26) (Wp GG d 10 5 [vR p1, vI p2, vI 0, vI (Int32.ofNat (pLn (mm I D) a1))] [] (mm I D) Q))) :
  Mt GG d 10 [vR p1, vI p2] (mm I D) Q := runC_m (cut := (fun pc => [5].contains pc)) 6 h
set_option maxRecDepth 100000 in
theorem s_Arrays_fill_5 {d : Nat} {I : IM} {D : DY} {Q : Option PV → PM → Prop} (p1 : Option Nat) (p2 : Int32) (l2 : Int32) (l3 : Int32) (h : brP (l3 ≤ l2)
 (Q none (mm I D))
 (onR False p1 (fun a1 => tsP (pKd (mm I D) a1 = kInt) (tsP (inB l2 (pLn (mm I D) a1)) (Wp GG d 10 5 [vR p1, vI p2, vI (l2 + 1), vI l3] [] (mm (up2 I a1 (ixN l2) p2) D) Q))))) :
  Wp GG d 10 5 [vR p1, vI p2, vI l2, vI l3] [] (mm I D) Q := runC_p (cut := (fun pc => [5].contains pc)) 10 h
set_option maxRecDepth 100000 in
theorem s_String_charAt {d : Nat} {I : IM} {D : DY} {Q : Option PV → PM → Prop} (a : Nat) (p1 : Int32) (h : tsP (pKd (mm I D) a = 13) (CI d 21 [vR (some a)] (mm I D) (fun x1 I1 => brP (x1 = 0)
 (tsP (pKd (mm I1 D) a = 13) (False))
 (tsP (pKd (mm I1 D) a = 13) (CI d 22 [vR (pR (mm I1 D) a 0), vI p1] (mm I1 D) (fun x2 I2 => rtP 3 x2 (Q (some (vI x2)) (mm I2 D)))))))) :
  Mt GG (d + 1) 20 [vR (some a), vI p1] (mm I D) Q := runC_m (cut := (fun _ => false)) 8 h
set_option maxRecDepth 100000 in
theorem s_String_isLatin1 {d : Nat} {I : IM} {D : DY} {Q : Option PV → PM → Prop} (a : Nat) (h : tsP (pKd (mm I D) a = 13) (brP (¬ (I a 1) = 0)
 (Q (some (vI 0)) (mm I D))
 (Q (some (vI 1)) (mm I D)))) :
  Mt GG d 21 [vR (some a)] (mm I D) Q := runC_m (cut := (fun _ => false)) 8 h
set_option maxRecDepth 100000 in
theorem s_StringLatin1_charAt {d : Nat} {I : IM} {D : DY} {Q : Option PV → PM → Prop} (p1 : Option Nat) (p2 : Int32) (h : onR False p1 (fun a1 => tsP (19 ≤ pKd (mm I D) a1 ∧ pKd (mm I D) a1 < 26) (tsP (0 ≤ Int32.toInt p2 ∧ Int32.toInt p2 < Int32.toInt (Int32.ofNat (pLn (mm I D) a1))) (onR False p1 (fun a2 => tsP (pKd (mm I D) a2 = kByt) (tsP (inB p2 (pLn (mm I D) a2)) (rtP 3 ((Int32.toUInt32 ((I a2 (ixN p2)) &&& 255) % 65536).toInt32) (Q (some (vI ((Int32.toUInt32 ((I a2 (ixN p2)) &&& 255) % 65536).toInt32))) (mm I D))))))))) :
  Mt GG (d + 2) 22 [vR p1, vI p2] (mm I D) Q := runC_m (cut := (fun _ => false)) 11 h
set_option maxRecDepth 100000 in
theorem s_Command_init {d : Nat} {I : IM} {D : DY} {Q : Option PV → PM → Prop} (a : Nat) (p1 : Int32) (p2 : Int32) (p3 : Int32) (p4 : Option Nat) (h : tsP (pKd (mm I D) a = 2) (tsP (pKd (mm (up2 I a 0 p1) D) a = 2) (tsP (pKd (mm (up2 (up2 I a 0 p1) a 1 p2) D) a = 2) (tsP (pKd (mm (up2 (up2 (up2 I a 0 p1) a 1 p2) a 2 p3) D) a = 2) (Q none (setR (mm (up2 (up2 (up2 I a 0 p1) a 1 p2) a 2 p3) D) a 3 p4)))))) :
  Mt GG (d + 1) 25 [vR (some a), vI p1, vI p2, vI p3, vR p4] (mm I D) Q := runC_m (cut := (fun _ => false)) 15 h
set_option maxRecDepth 100000 in
theorem s_String_indexOf0 {d : Nat} {I : IM} {D : DY} {Q : Option PV → PM → Prop} (a : Nat) (p1 : Int32) (h : tsP (pKd (mm I D) a = 13) (CI d 36 [vR (some a), vI p1, vI 0] (mm I D) (fun x1 I1 => Q (some (vI x1)) (mm I1 D)))) :
  Mt GG (d + 1) 35 [vR (some a), vI p1] (mm I D) Q := runC_m (cut := (fun _ => false)) 5 h
set_option maxRecDepth 100000 in
theorem s_String_indexOf1 {d : Nat} {I : IM} {D : DY} {Q : Option PV → PM → Prop} (a : Nat) (p1 : Int32) (p2 : Int32) (h : tsP (pKd (mm I D) a = 13) (CI d 21 [vR (some a)] (mm I D) (fun x1 I1 => brP (x1 = 0)
 (tsP (pKd (mm I1 D) a = 13) (tsP (pKd (mm I1 D) a = 13) (CI d 7 [vR (some a)] (mm I1 D) (fun x2 I2 => False))))
 (tsP (pKd (mm I1 D) a = 13) (tsP (pKd (mm I1 D) a = 13) (CI d 7 [vR (some a)] (mm I1 D) (fun x3 I3 => CI d 37 [vR (pR (mm I1 D) a 0), vI p1, vI p2, vI x3] (mm I3 D) (fun x4 I4 => Q (some (vI x4)) (mm I4 D))))))))) :
  Mt GG (d + 1) 36 [vR (some a), vI p1, vI p2] (mm I D) Q := runC_m (cut := (fun _ => false)) 12 h
set_option maxRecDepth 100000 in
theorem s_StringLatin1_indexOf {d : Nat} {I : IM} {D : DY} {Q : Option PV → PM → Prop} (p1 : Option Nat) (p2 : Int32) (p3 : Int32) (p4 : Int32) (h : CI d 38 [vI p2] (mm I D) (fun x1 I1 => brP (¬ x1 = 0)
 (CI d 39 [vI p3, vI 0] (mm I1 D) (fun x2 I2 => onR False p1 (fun a1 => tsP (19 ≤ pKd (mm I2 D) a1 ∧ pKd (mm I2 D) a1 < 26) (CI d 40 [vI p4, vI (Int32.ofNat (pLn (mm I2 D) a1))] (mm I2 D) (fun x3 I3 => brP (x2 < x3)
 (CI d 41 [vR p1, vI p2, vI x2, vI x3] (mm I3 D) (fun x4 I4 => Q (some (vI x4)) (mm I4 D)))
 (Q (some (vI (-1))) (mm I3 D)))))))
 (Q (some (vI (-1))) (mm I1 D)))) :
  Mt GG (d + 1) 37 [vR p1, vI p2, vI p3, vI p4] (mm I D) Q := runC_m (cut := (fun _ => false)) 21 h
set_option maxRecDepth 100000 in
theorem s_StringLatin1_canEncode {d : Nat} {I : IM} {D : DY} {Q : Option PV → PM → Prop} (p1 : Int32) (h : brP (p1 < 0)
 (Q (some (vI 0)) (mm I D))
 (brP ((255 : Int32) < p1)
 (Q (some (vI 0)) (mm I D))
 (Q (some (vI 1)) (mm I D)))) :
  Mt GG d 38 [vI p1] (mm I D) Q := runC_m (cut := (fun _ => false)) 8 h
set_option maxRecDepth 100000 in
theorem s_Math_max {d : Nat} {I : IM} {D : DY} {Q : Option PV → PM → Prop} (p1 : Int32) (p2 : Int32) (h : brP (p1 < p2)
 (Q (some (vI p2)) (mm I D))
 (Q (some (vI p1)) (mm I D))) :
  Mt GG d 39 [vI p1, vI p2] (mm I D) Q := runC_m (cut := (fun _ => false)) 6 h
set_option maxRecDepth 100000 in
theorem s_Math_min {d : Nat} {I : IM} {D : DY} {Q : Option PV → PM → Prop} (p1 : Int32) (p2 : Int32) (h : brP (p2 < p1)
 (Q (some (vI p2)) (mm I D))
 (Q (some (vI p1)) (mm I D))) :
  Mt GG d 40 [vI p1, vI p2] (mm I D) Q := runC_m (cut := (fun _ => false)) 6 h
set_option maxRecDepth 100000 in
theorem s_StringLatin1_indexOfChar {d : Nat} {I : IM} {D : DY} {Q : Option PV → PM → Prop} (p1 : Option Nat) (p2 : Int32) (p3 : Int32) (p4 : Int32) (h : Wp GG d 41 7 [vR p1, vI p2, vI p3, vI p4, vI ((Int32.toInt8 p2).toInt32), vI p3] [] (mm I D) Q) :
  Mt GG d 41 [vR p1, vI p2, vI p3, vI p4] (mm I D) Q := runC_m (cut := (fun pc => [7].contains pc)) 6 h
set_option maxRecDepth 100000 in
theorem s_StringLatin1_indexOfChar_7 {d : Nat} {I : IM} {D : DY} {Q : Option PV → PM → Prop} (p1 : Option Nat) (p2 : Int32) (p3 : Int32) (p4 : Int32) (l4 : Int32) (l5 : Int32) (h : brP (p4 ≤ l5)
 (Q (some (vI (-1))) (mm I D))
 (onR False p1 (fun a1 => tsP (pKd (mm I D) a1 = kByt) (tsP (inB l5 (pLn (mm I D) a1)) (brP (¬ (I a1 (ixN l5)) = l4)
 (Wp GG d 41 7 [vR p1, vI p2, vI p3, vI p4, vI l4, vI (l5 + 1)] [] (mm I D) Q)
 (Q (some (vI l5)) (mm I D))))))) :
  Wp GG d 41 7 [vR p1, vI p2, vI p3, vI p4, vI l4, vI l5] [] (mm I D) Q := runC_p (cut := (fun pc => [7].contains pc)) 11 h
set_option maxRecDepth 100000 in
theorem s_Arrays_copyOf {d : Nat} {I : IM} {D : DY} {Q : Option PV → PM → Prop} (p1 : Option Nat) (p2 : Int32) (h : onR False p1 (fun a1 => tsP (19 ≤ pKd (mm I D) a1 ∧ pKd (mm I D) a1 < 26) (brP (¬ p2 = (Int32.ofNat (pLn (mm I D) a1)))
 (tsP (0 ≤ Int32.toInt p2 ∧ Int32.toInt p2 ≤ 100000) (CAN (mkN (mm I D) 20 (ixN p2)) (fun I1 D1 => onR False p1 (fun a2 => tsP (19 ≤ pKd (mm I1 D1) a2 ∧ pKd (mm I1 D1) a2 < 26) (CI d 40 [vI (Int32.ofNat (pLn (mm I1 D1) a2)), vI p2] (mm I1 D1) (fun x1 I2 => onR False p1 (fun a3 => tsP (pKd (mm I2 D1) a3 = kInt ∧ pKd (mm I2 D1) (dZ D) = kInt) (tsP (0 ≤ Int32.toInt 0 ∧ 0 ≤ Int32.toInt 0 ∧ 0 ≤ Int32.toInt x1 ∧ Int32.toInt 0 + Int32.toInt x1 ≤ ((pLn (mm I2 D1) a3 : Nat) : Int) ∧ Int32.toInt 0 + Int32.toInt x1 ≤ ((pLn (mm I2 D1) (dZ D) : Nat) : Int)) (Q (some (vR (some (dZ D)))) (mm (cpI I2 a3 (dZ D) 0 0 (ixN x1)) D1))))))))))
 (onR False p1 (fun a4 => tsP (pKd (mm I D) a4 = kInt) (CAN (cpyM (mkN (mm I D) kInt (pLn (mm I D) a4)) a4 (pSz (mm I D)) 0 0 (pLn (mm I D) a4)) (fun I3 D2 => tsP (pKd (mm I3 D2) (dZ D) = kInt) (Q (some (vR (some (dZ D)))) (mm I3 D2))))))))) :
  Mt GG (d + 1) 43 [vR p1, vI p2] (mm I D) Q := runC_m (cut := (fun _ => false)) 18 h
set_option maxRecDepth 100000 in
theorem s_Formula_init {d : Nat} {I : IM} {D : DY} {Q : Option PV → PM → Prop} (a : Nat) (p1 : Option Nat) (h : tsP (pKd (mm I D) a = 4) (CAN (mkN (setR (mm I D) a 0 p1) 20 32) (fun I1 D1 => tsP (pKd (mm I1 D1) a = 4) (Q none (setR (mm I1 D1) a 1 (some (dZ D))))))) :
  Mt GG (d + 1) 44 [vR (some a), vR p1] (mm I D) Q := runC_m (cut := (fun _ => false)) 10 h
set_option maxRecDepth 100000 in
theorem s_Log_versionOf {d : Nat} {I : IM} {D : DY} {Q : Option PV → PM → Prop} (p1 : Int32) (h : brP (p1 < 0)
 (Q (some (vI 0)) (mm I D))
 (brP ((8 : Int32) ≤ p1)
 (Q (some (vI 0)) (mm I D))
 (tsP (inB p1 8) (Q (some (vI (I 57 (ixN p1)))) (mm I D))))) :
  Mt GG d 48 [vR (some 55), vI p1] (mm I D) Q := runC_m (cut := (fun _ => false)) 13 h
set_option maxRecDepth 100000 in
theorem s_Bins_refusal {d : Nat} {I : IM} {D : DY} {Q : Option PV → PM → Prop} (b : Nat) (p1 : Int32) (p2 : Option Nat) (p3 : Int32) (h : tsP (pKd (mm I D) b = 1) (CI d 51 [vR (some b), vI p1, vI 0] (mm I D) (fun x1 I1 => onR False p2 (fun a1 => tsP (pKd (mm I1 D) a1 = 2) (brP (¬ (I1 a1 0) = 0)
 (brP (x1 = 1)
 (tsP (pKd (mm I1 D) b = 1) (CI d 51 [vR (some b), vI p1, vI 1] (mm I1 D) (fun x2 I2 => tsP (pKd (mm I2 D) b = 1) (CI d 51 [vR (some b), vI p1, vI 2] (mm I2 D) (fun x3 I3 => brP (p3 ≤ (x2 - x3))
 (onR False p2 (fun a2 => tsP (pKd (mm I3 D) a2 = 2) (brP ((I3 a2 0) = (2 : Int32))
 (Q (some (vI 0)) (mm I3 D))
 (brP ((I3 a2 0) = ((2 : Int32) + 1))
 (Q (some (vI 0)) (mm I3 D))
 (brP ((I3 a2 0) = (((2 : Int32) + 1) + 1))
 (tsP (pKd (mm I3 D) b = 1) (CI d 51 [vR (some b), vI p1, vI 2] (mm I3 D) (fun x4 I4 => brP (p3 ≤ x4)
 (Q (some (vI 0)) (mm I4 D))
 (Q (some (vI 23)) (mm I4 D)))))
 (brP ((I3 a2 0) = ((((2 : Int32) + 1) + 1) + 1))
 (Q (some (vI 0)) (mm I3 D))
 (brP ((I3 a2 0) = (((((2 : Int32) + 1) + 1) + 1) + 1))
 (onR False p2 (fun a3 => tsP (pKd (mm I3 D) a3 = 2) (brP ((I3 a3 2) = p1)
 (Q (some (vI 25)) (mm I3 D))
 (onR False p2 (fun a4 => tsP (pKd (mm I3 D) a4 = 2) (tsP (pKd (mm I3 D) b = 1) (CI d 51 [vR (some b), vI (I3 a4 2), vI 0] (mm I3 D) (fun x5 I5 => brP (x5 = 1)
 (Q (some (vI 0)) (mm I5 D))
 (Q (some (vI 25)) (mm I5 D))))))))))
 (brP ((I3 a2 0) = ((((((2 : Int32) + 1) + 1) + 1) + 1) + 1))
 (Q (some (vI 0)) (mm I3 D))
 (brP ((I3 a2 0) = (((((((2 : Int32) + 1) + 1) + 1) + 1) + 1) + 1))
 (tsP (pKd (mm I3 D) b = 1) (CI d 51 [vR (some b), vI p1, vI 1] (mm I3 D) (fun x6 I6 => brP (¬ x6 = 0)
 (Q (some (vI 24)) (mm I6 D))
 (Q (some (vI 0)) (mm I6 D)))))
 (Q (some (vI 0)) (mm I3 D)))))))))))
 (onR False p2 (fun a5 => tsP (pKd (mm I3 D) a5 = 2) (brP ((I3 a5 0) = (2 : Int32))
 (Q (some (vI 23)) (mm I3 D))
 (brP ((I3 a5 0) = ((2 : Int32) + 1))
 (Q (some (vI 23)) (mm I3 D))
 (brP ((I3 a5 0) = (((2 : Int32) + 1) + 1))
 (tsP (pKd (mm I3 D) b = 1) (CI d 51 [vR (some b), vI p1, vI 2] (mm I3 D) (fun x7 I7 => brP (p3 ≤ x7)
 (Q (some (vI 0)) (mm I7 D))
 (Q (some (vI 23)) (mm I7 D)))))
 (brP ((I3 a5 0) = ((((2 : Int32) + 1) + 1) + 1))
 (Q (some (vI 0)) (mm I3 D))
 (brP ((I3 a5 0) = (((((2 : Int32) + 1) + 1) + 1) + 1))
 (onR False p2 (fun a6 => tsP (pKd (mm I3 D) a6 = 2) (brP ((I3 a6 2) = p1)
 (Q (some (vI 25)) (mm I3 D))
 (onR False p2 (fun a7 => tsP (pKd (mm I3 D) a7 = 2) (tsP (pKd (mm I3 D) b = 1) (CI d 51 [vR (some b), vI (I3 a7 2), vI 0] (mm I3 D) (fun x8 I8 => brP (x8 = 1)
 (Q (some (vI 23)) (mm I8 D))
 (Q (some (vI 25)) (mm I8 D))))))))))
 (brP ((I3 a5 0) = ((((((2 : Int32) + 1) + 1) + 1) + 1) + 1))
 (Q (some (vI 0)) (mm I3 D))
 (brP ((I3 a5 0) = (((((((2 : Int32) + 1) + 1) + 1) + 1) + 1) + 1))
 (tsP (pKd (mm I3 D) b = 1) (CI d 51 [vR (some b), vI p1, vI 1] (mm I3 D) (fun x9 I9 => brP (¬ x9 = 0)
 (Q (some (vI 24)) (mm I9 D))
 (Q (some (vI 0)) (mm I9 D)))))
 (Q (some (vI 0)) (mm I3 D))))))))))))))))
 (Q (some (vI 21)) (mm I1 D)))
 (brP (¬ x1 = 0)
 (Q (some (vI 22)) (mm I1 D))
 (Q (some (vI 0)) (mm I1 D)))))))) :
  Mt GG (d + 1) 50 [vR (some b), vI p1, vR p2, vI p3] (mm I D) Q := runC_m (cut := (fun _ => false)) 44 h
set_option maxRecDepth 100000 in
theorem s_Bins_get {d : Nat} {I : IM} {D : DY} {Q : Option PV → PM → Prop} (b : Nat) (p1 : Int32) (p2 : Int32) (h : brP (((p1 * 4) + p2) < 0)
 (Q (some (vI 0)) (mm I D))
 (tsP (pKd (mm I D) b = 1) (onR False (pR (mm I D) b 0) (fun a1 => tsP (19 ≤ pKd (mm I D) a1 ∧ pKd (mm I D) a1 < 26) (brP ((Int32.ofNat (pLn (mm I D) a1)) ≤ ((p1 * 4) + p2))
 (Q (some (vI 0)) (mm I D))
 (tsP (pKd (mm I D) b = 1) (onR False (pR (mm I D) b 0) (fun a2 => tsP (pKd (mm I D) a2 = 20) (tsP (inB ((p1 * 4) + p2) (pLn (mm I D) a2)) (Q (some (vI (I a2 (ixN ((p1 * 4) + p2))))) (mm I D))))))))))) :
  Mt GG d 51 [vR (some b), vI p1, vI p2] (mm I D) Q := runC_m (cut := (fun _ => false)) 19 h
set_option maxRecDepth 100000 in
theorem s_Command_events {d : Nat} {I : IM} {D : DY} {Q : Option PV → PM → Prop} (a : Nat) (h : tsP (pKd (mm I D) a = 2) (brP (¬ (I a 0) = 6)
 (Q (some (vI 1)) (mm I D))
 (Q (some (vI 2)) (mm I D)))) :
  Mt GG d 52 [vR (some a)] (mm I D) Q := runC_m (cut := (fun _ => false)) 7 h
set_option maxRecDepth 100000 in
theorem s_Log_room {d : Nat} {I : IM} {D : DY} {Q : Option PV → PM → Prop}  (h : Q (some (vI (240 - (I 55 4)))) (mm I D)) :
  Mt GG d 53 [vR (some 55)] (mm I D) Q := runC_m (cut := (fun _ => false)) 5 h
set_option maxRecDepth 100000 in
theorem s_Formats_formatOf {d : Nat} {I : IM} {D : DY} {Q : Option PV → PM → Prop} (p1 : Int32) (h : brP (p1 < 0)
 (Q (some (vI 1)) (mm I D))
 (brP ((9 : Int32) ≤ p1)
 (Q (some (vI 1)) (mm I D))
 (tsP (inB p1 9) (Q (some (vI ((I 64 (ixN p1)) + 1))) (mm I D))))) :
  Mt GG d 55 [vR (some 63), vI p1] (mm I D) Q := runC_m (cut := (fun _ => false)) 15 h
set_option maxRecDepth 100000 in
theorem s_Log_add {d : Nat} {I : IM} {D : DY} {Q : Option PV → PM → Prop} (p1 : Int32) (p2 : Int32) (p3 : Int32) (p4 : Int32) (p5 : Int32) (h : CI d 53 [vR (some 55)] (mm I D) (fun x1 I1 => brP (x1 < 1)
 (Q none (mm I1 D))
 (brP (p1 < 0)
 (Q none (mm I1 D))
 (brP (p1 < 8)
 (tsP (inB p1 8) (tsP (inB p1 8) (CV d 57 [vR (some 55), vI 0, vI p1] (mm (up2 (up2 I1 55 4 ((I1 55 4) + 1)) 57 (ixN p1) ((I1 57 (ixN p1)) + 1)) D) (fun I2 => tsP (inB p1 8) (CV d 57 [vR (some 55), vI 1, vI (I2 57 (ixN p1))] (mm I2 D) (fun I3 => CV d 57 [vR (some 55), vI 2, vI p2] (mm I3 D) (fun I4 => CV d 57 [vR (some 55), vI 3, vI p3] (mm I4 D) (fun I5 => CV d 57 [vR (some 55), vI 4, vI p4] (mm I5 D) (fun I6 => CV d 57 [vR (some 55), vI 5, vI p5] (mm I6 D) (fun I7 => Q none (mm I7 D)))))))))))
 (Q none (mm I1 D)))))) :
  Mt GG (d + 1) 56 [vR (some 55), vI p1, vI p2, vI p3, vI p4, vI p5] (mm I D) Q := runC_m (cut := (fun _ => false)) 53 h
set_option maxRecDepth 100000 in
theorem s_Log_put {d : Nat} {I : IM} {D : DY} {Q : Option PV → PM → Prop} (p1 : Int32) (p2 : Int32) (h : brP ((((I 55 4) * 6) + p1) < 0)
 (Q none (mm I D))
 (brP ((1446 : Int32) ≤ (((I 55 4) * 6) + p1))
 (Q none (mm I D))
 (tsP (inB (((I 55 4) * 6) + p1) 1446) (Q none (mm (up2 I 56 (ixN (((I 55 4) * 6) + p1)) p2) D))))) :
  Mt GG d 57 [vR (some 55), vI p1, vI p2] (mm I D) Q := runC_m (cut := (fun _ => false)) 20 h
set_option maxRecDepth 100000 in
theorem s_Bins_change {d : Nat} {I : IM} {D : DY} {Q : Option PV → PM → Prop} (b : Nat) (p1 : Int32) (p2 : Int32) (p3 : Int32) (h : brP (p2 = (0 : Int32))
 (tsP (pKd (mm I D) b = 1) (CV d 59 [vR (some b), vI p1, vI 0, vI 1] (mm I D) (fun I1 => tsP (pKd (mm I1 D) b = 1) (CV d 59 [vR (some b), vI p1, vI 3, vI p3] (mm I1 D) (fun I2 => Q none (mm I2 D))))))
 (brP (p2 = ((0 : Int32) + 1))
 (tsP (pKd (mm I D) b = 1) (CV d 60 [vR (some b), vI p1, vI 1, vI p3] (mm I D) (fun I3 => Q none (mm I3 D))))
 (brP (p2 = (((0 : Int32) + 1) + 1))
 (tsP (pKd (mm I D) b = 1) (CV d 60 [vR (some b), vI p1, vI 1, vI (-p3)] (mm I D) (fun I4 => Q none (mm I4 D))))
 (brP (p2 = ((((0 : Int32) + 1) + 1) + 1))
 (tsP (pKd (mm I D) b = 1) (CV d 60 [vR (some b), vI p1, vI 2, vI p3] (mm I D) (fun I5 => Q none (mm I5 D))))
 (brP (p2 = (((((0 : Int32) + 1) + 1) + 1) + 1))
 (tsP (pKd (mm I D) b = 1) (CV d 60 [vR (some b), vI p1, vI 2, vI (-p3)] (mm I D) (fun I6 => Q none (mm I6 D))))
 (brP (p2 = ((((((0 : Int32) + 1) + 1) + 1) + 1) + 1))
 (tsP (pKd (mm I D) b = 1) (CV d 59 [vR (some b), vI p1, vI 3, vI p3] (mm I D) (fun I7 => Q none (mm I7 D))))
 (brP (p2 = (((((((0 : Int32) + 1) + 1) + 1) + 1) + 1) + 1))
 (tsP (pKd (mm I D) b = 1) (CV d 60 [vR (some b), vI p1, vI 1, vI (-p3)] (mm I D) (fun I8 => Q none (mm I8 D))))
 (brP (p2 = ((((((((0 : Int32) + 1) + 1) + 1) + 1) + 1) + 1) + 1))
 (tsP (pKd (mm I D) b = 1) (CV d 60 [vR (some b), vI p1, vI 1, vI p3] (mm I D) (fun I9 => Q none (mm I9 D))))
 (brP (p2 = (((((((((0 : Int32) + 1) + 1) + 1) + 1) + 1) + 1) + 1) + 1))
 (tsP (pKd (mm I D) b = 1) (CV d 59 [vR (some b), vI p1, vI 0, vI 2] (mm I D) (fun I10 => Q none (mm I10 D))))
 (Q none (mm I D))))))))))) :
  Mt GG (d + 1) 58 [vR (some b), vI p1, vI p2, vI p3] (mm I D) Q := runC_m (cut := (fun _ => false)) 14 h
set_option maxRecDepth 100000 in
theorem s_Bins_put {d : Nat} {I : IM} {D : DY} {Q : Option PV → PM → Prop} (b : Nat) (p1 : Int32) (p2 : Int32) (p3 : Int32) (h : brP (((p1 * 4) + p2) < 0)
 (Q none (mm I D))
 (tsP (pKd (mm I D) b = 1) (onR False (pR (mm I D) b 0) (fun a1 => tsP (19 ≤ pKd (mm I D) a1 ∧ pKd (mm I D) a1 < 26) (brP ((Int32.ofNat (pLn (mm I D) a1)) ≤ ((p1 * 4) + p2))
 (Q none (mm I D))
 (tsP (pKd (mm I D) b = 1) (onR False (pR (mm I D) b 0) (fun a2 => tsP (pKd (mm I D) a2 = kInt) (tsP (inB ((p1 * 4) + p2) (pLn (mm I D) a2)) (Q none (mm (up2 I a2 (ixN ((p1 * 4) + p2)) p3) D))))))))))) :
  Mt GG d 59 [vR (some b), vI p1, vI p2, vI p3] (mm I D) Q := runC_m (cut := (fun _ => false)) 19 h
set_option maxRecDepth 100000 in
theorem s_Bins_more {d : Nat} {I : IM} {D : DY} {Q : Option PV → PM → Prop} (b : Nat) (p1 : Int32) (p2 : Int32) (p3 : Int32) (h : tsP (pKd (mm I D) b = 1) (CI d 51 [vR (some b), vI p1, vI p2] (mm I D) (fun x1 I1 => tsP (pKd (mm I1 D) b = 1) (CV d 59 [vR (some b), vI p1, vI p2, vI (x1 + p3)] (mm I1 D) (fun I2 => Q none (mm I2 D)))))) :
  Mt GG (d + 1) 60 [vR (some b), vI p1, vI p2, vI p3] (mm I D) Q := runC_m (cut := (fun _ => false)) 11 h
set_option maxRecDepth 100000 in
theorem s_Snapshots_add {d : Nat} {I : IM} {D : DY} {Q : Option PV → PM → Prop} (p1 : Int32) (p2 : Int32) (p3 : Int32) (h : brP (p1 < 0)
 (Q none (mm I D))
 (brP (p1 < 8)
 (tsP (inB p1 8) (brP ((I 71 (ixN p1)) < 4)
 (tsP (inB p1 8) (brP (((p1 * 4) + (I 71 (ixN p1))) < 0)
 (Q none (mm I D))
 (brP ((32 : Int32) ≤ ((p1 * 4) + (I 71 (ixN p1))))
 (Q none (mm I D))
 (brP ((32 : Int32) ≤ ((p1 * 4) + (I 71 (ixN p1))))
 (Q none (mm I D))
 (tsP (inB ((p1 * 4) + (I 71 (ixN p1))) 32) (tsP (inB ((p1 * 4) + (I 71 (ixN p1))) 32) (tsP (inB p1 8) (tsP (inB p1 8) (Q none (mm (up2 (up2 (up2 I 69 (ixN ((p1 * 4) + (I 71 (ixN p1)))) p2) 70 (ixN ((p1 * 4) + (I 71 (ixN p1)))) p3) 71 (ixN p1) ((I 71 (ixN p1)) + 1)) D))))))))))
 (CV d 62 [vR (some 68), vI (p1 * 4)] (mm I D) (fun I1 => tsP (inB p1 8) (tsP (inB p1 8) (brP (((p1 * 4) + ((up2 I1 71 (ixN p1) 3) 71 (ixN p1))) < 0)
 (Q none (mm (up2 I1 71 (ixN p1) 3) D))
 (brP ((32 : Int32) ≤ ((p1 * 4) + ((up2 I1 71 (ixN p1) 3) 71 (ixN p1))))
 (Q none (mm (up2 I1 71 (ixN p1) 3) D))
 (brP ((32 : Int32) ≤ ((p1 * 4) + ((up2 I1 71 (ixN p1) 3) 71 (ixN p1))))
 (Q none (mm (up2 I1 71 (ixN p1) 3) D))
 (tsP (inB ((p1 * 4) + ((up2 I1 71 (ixN p1) 3) 71 (ixN p1))) 32) (tsP (inB ((p1 * 4) + ((up2 I1 71 (ixN p1) 3) 71 (ixN p1))) 32) (tsP (inB p1 8) (tsP (inB p1 8) (Q none (mm (up2 (up2 (up2 (up2 I1 71 (ixN p1) 3) 69 (ixN ((p1 * 4) + ((up2 I1 71 (ixN p1) 3) 71 (ixN p1)))) p2) 70 (ixN ((p1 * 4) + ((up2 I1 71 (ixN p1) 3) 71 (ixN p1)))) p3) 71 (ixN p1) (((up2 I1 71 (ixN p1) 3) 71 (ixN p1)) + 1)) D))))))))))))))
 (Q none (mm I D)))) :
  Mt GG (d + 1) 61 [vR (some 68), vI p1, vI p2, vI p3] (mm I D) Q := runC_m (cut := (fun _ => false)) 63 h
set_option maxRecDepth 100000 in
theorem s_Snapshots_dropOldest {d : Nat} {I : IM} {D : DY} {Q : Option PV → PM → Prop} (p1 : Int32) (h : Wp GG d 62 2 [vR (some 68), vI p1, vI p1] [] (mm I D) Q) :
  Mt GG d 62 [vR (some 68), vI p1] (mm I D) Q := runC_m (cut := (fun pc => [2].contains pc)) 3 h
set_option maxRecDepth 100000 in
theorem s_Snapshots_dropOldest_2 {d : Nat} {I : IM} {D : DY} {Q : Option PV → PM → Prop} (p1 : Int32) (l2 : Int32) (h : brP (((p1 + 4) - 1) ≤ l2)
 (Q none (mm I D))
 (brP (l2 < 0)
 (Wp GG d 62 2 [vR (some 68), vI p1, vI (l2 + 1)] [] (mm I D) Q)
 (brP ((32 : Int32) ≤ (l2 + 1))
 (Wp GG d 62 2 [vR (some 68), vI p1, vI (l2 + 1)] [] (mm I D) Q)
 (brP ((32 : Int32) ≤ (l2 + 1))
 (Wp GG d 62 2 [vR (some 68), vI p1, vI (l2 + 1)] [] (mm I D) Q)
 (tsP (inB (l2 + 1) 32) (tsP (inB l2 32) (tsP (inB (l2 + 1) 32) (tsP (inB l2 32) (Wp GG d 62 2 [vR (some 68), vI p1, vI (l2 + 1)] [] (mm (up2 (up2 I 69 (ixN l2) (I 69 (ixN (l2 + 1)))) 70 (ixN l2) (I 70 (ixN (l2 + 1)))) D) Q))))))))) :
  Wp GG d 62 2 [vR (some 68), vI p1, vI l2] [] (mm I D) Q := runC_p (cut := (fun pc => [2].contains pc)) 46 h
set_option maxRecDepth 100000 in
theorem s_Batch_clear {d : Nat} {I : IM} {D : DY} {Q : Option PV → PM → Prop}  (h : Q none (mm (up2 I 49 3 0) D)) :
  Mt GG d 65 [vR (some 49)] (mm I D) Q := runC_m (cut := (fun _ => false)) 4 h
set_option maxRecDepth 100000 in
theorem s_Batch_add {d : Nat} {I : IM} {D : DY} {Q : Option PV → PM → Prop} (p1 : Int32) (p2 : Option Nat) (h : brP ((40 : Int32) ≤ (I 49 3))
 (Q none (mm I D))
 (tsP (inB (I 49 3) 40) (tsP (inB (I 49 3) 40) (astP (mm (up2 I 50 (ixN (I 49 3)) p1) D) 51 p2 (Q none (setR (mm (up2 (up2 I 50 (ixN (I 49 3)) p1) 49 3 ((I 49 3) + 1)) D) 51 (ixN (I 49 3)) p2)))))) :
  Mt GG d 66 [vR (some 49), vI p1, vR p2] (mm I D) Q := runC_m (cut := (fun _ => false)) 23 h
set_option maxRecDepth 100000 in
theorem s_Batch_think {d : Nat} {I : IM} {D : DY} {Q : Option PV → PM → Prop} (p2 : Int32) (h : CV d 69 [vR (some 52), vR (some 59)] (mm I D) (fun I1 => Wp GG (d + 1) 68 25 [vR (some 49), vR (some 59), vI p2, vI 0, vT] [] (mm (up2 (up2 (up2 I1 49 4 0) 49 5 0) 49 6 0) D) Q)) :
  Mt GG (d + 1) 68 [vR (some 49), vR (some 59), vI p2] (mm I D) Q := runC_m (cut := (fun pc => [25].contains pc)) 16 h
set_option maxRecDepth 100000 in
theorem s_Batch_think_25 {d : Nat} {I : IM} {D : DY} {Q : Option PV → PM → Prop} (p2 : Int32) (l3 : Int32) (w4 : PV) (h : brP ((I 49 3) ≤ l3)
 (Q none (mm I D))
 (CR d 70 [vR (some 49), vI l3] (mm I D) (fun x1 I1 => brP (x1 = none)
 (Q none (mm I1 D))
 (CI d 71 [vR (some 49), vI l3] (mm I1 D) (fun x2 I2 => onR False x1 (fun a1 => tsP (pKd (mm I2 D) a1 = 2) (CI d 50 [vR (some 52), vI x2, vR x1, vI (I2 a1 1)] (mm I2 D) (fun x3 I3 => brP (x3 ≤ 0)
 (onR False x1 (fun a2 => tsP (pKd (mm I3 D) a2 = 2) (CI d 52 [vR (some a2)] (mm I3 D) (fun x4 I4 => brP (((I3 49 5) + x4) ≤ p2)
 (CI d 71 [vR (some 49), vI l3] (mm I4 D) (fun x5 I5 => CV d 72 [vR (some 49), vI x5, vR x1] (mm I5 D) (fun I6 => onR False x1 (fun a3 => tsP (pKd (mm I6 D) a3 = 2) (CI d 52 [vR (some a3)] (mm I6 D) (fun x7 I7 => Wp GG (d + 1) 68 25 [vR (some 49), vR (some 59), vI p2, vI (l3 + 1), vR x1] [] (mm (up2 (up2 I7 49 5 ((I6 49 5) + x7)) 49 4 ((I7 49 4) + 1)) D) Q))))))
 (Q none (mm I4 D))))))
 (Q none (mm (up2 I3 49 6 1) D)))))))))) :
  Wp GG (d + 1) 68 25 [vR (some 49), vR (some 59), vI p2, vI l3, w4] [] (mm I D) Q := runC_p (cut := (fun pc => [25].contains pc)) 49 h
set_option maxRecDepth 100000 in
theorem s_Bins_copyFrom {d : Nat} {I : IM} {D : DY} {Q : Option PV → PM → Prop} (b : Nat) (p1 : Option Nat) (h : onR False p1 (fun a1 => tsP (pKd (mm I D) a1 = 1) (tsP (pKd (mm I D) b = 1) (tsP (pKd (mm I D) b = 1) (onR False (pR (mm I D) b 0) (fun a2 => tsP (19 ≤ pKd (mm I D) a2 ∧ pKd (mm I D) a2 < 26) (onR False (pR (mm I D) a1 0) (fun a3 => onR False (pR (mm I D) b 0) (fun a4 => tsP (pKd (mm I D) a3 = kInt ∧ pKd (mm I D) a4 = kInt) (tsP (0 ≤ Int32.toInt 0 ∧ 0 ≤ Int32.toInt 0 ∧ 0 ≤ Int32.toInt (Int32.ofNat (pLn (mm I D) a2)) ∧ Int32.toInt 0 + Int32.toInt (Int32.ofNat (pLn (mm I D) a2)) ≤ ((pLn (mm I D) a3 : Nat) : Int) ∧ Int32.toInt 0 + Int32.toInt (Int32.ofNat (pLn (mm I D) a2)) ≤ ((pLn (mm I D) a4 : Nat) : Int)) (Q none (mm (cpI I a3 a4 0 0 (ixN (Int32.ofNat (pLn (mm I D) a2)))) D)))))))))))) :
  Mt GG (d + 1) 69 [vR (some b), vR p1] (mm I D) Q := runC_m (cut := (fun _ => false)) 11 h
set_option maxRecDepth 100000 in
theorem s_Batch_commandOf {d : Nat} {I : IM} {D : DY} {Q : Option PV → PM → Prop} (p1 : Int32) (h : brP (p1 < 0)
 (Q (some (vR none)) (mm I D))
 (brP ((I 49 3) ≤ p1)
 (Q (some (vR none)) (mm I D))
 (brP ((40 : Int32) ≤ p1)
 (Q (some (vR none)) (mm I D))
 (tsP (inB p1 40) (Q (some (vR (dR D 51 (ixN p1)))) (mm I D)))))) :
  Mt GG d 70 [vR (some 49), vI p1] (mm I D) Q := runC_m (cut := (fun _ => false)) 17 h
set_option maxRecDepth 100000 in
theorem s_Batch_streamOf {d : Nat} {I : IM} {D : DY} {Q : Option PV → PM → Prop} (p1 : Int32) (h : brP (p1 < 0)
 (Q (some (vI 0)) (mm I D))
 (brP ((I 49 3) ≤ p1)
 (Q (some (vI 0)) (mm I D))
 (brP ((40 : Int32) ≤ p1)
 (Q (some (vI 0)) (mm I D))
 (tsP (inB p1 40) (Q (some (vI (I 50 (ixN p1)))) (mm I D)))))) :
  Mt GG d 71 [vR (some 49), vI p1] (mm I D) Q := runC_m (cut := (fun _ => false)) 17 h
set_option maxRecDepth 100000 in
theorem s_Batch_carry {d : Nat} {I : IM} {D : DY} {Q : Option PV → PM → Prop} (p1 : Int32) (p2 : Option Nat) (h : onR False p2 (fun a1 => tsP (pKd (mm I D) a1 = 2) (onR False p2 (fun a2 => tsP (pKd (mm I D) a2 = 2) (CV d 58 [vR (some 52), vI p1, vI (I a1 0), vI (I a2 1)] (mm I D) (fun I1 => onR False p2 (fun a3 => tsP (pKd (mm I1 D) a3 = 2) (brP (¬ (I1 a3 0) = 6)
 (Q none (mm I1 D))
 (onR False p2 (fun a4 => tsP (pKd (mm I1 D) a4 = 2) (onR False p2 (fun a5 => tsP (pKd (mm I1 D) a5 = 2) (CV d 58 [vR (some 52), vI (I1 a4 2), vI 7, vI (I1 a5 1)] (mm I1 D) (fun I2 => Q none (mm I2 D))))))))))))))) :
  Mt GG (d + 1) 72 [vR (some 49), vI p1, vR p2] (mm I D) Q := runC_m (cut := (fun _ => false)) 21 h
set_option maxRecDepth 100000 in
theorem s_Formats_add {d : Nat} {I : IM} {D : DY} {Q : Option PV → PM → Prop} (p1 : Int32) (p2 : Option Nat) (p3 : Option Nat) (h : brP (p1 < 0)
 (Q (some (vI (-1))) (mm I D))
 (brP (p1 < 9)
 (tsP (inB p1 9) (brP ((I 64 (ixN p1)) < 3)
 (tsP (inB p1 9) (brP (((p1 * 3) + (I 64 (ixN p1))) < 0)
 (Q (some (vI (-3))) (mm I D))
 (brP ((27 : Int32) ≤ ((p1 * 3) + (I 64 (ixN p1))))
 (Q (some (vI (-3))) (mm I D))
 (brP (((p1 * 3) + (I 64 (ixN p1))) < 27)
 (tsP (inB ((p1 * 3) + (I 64 (ixN p1))) 27) (astP (mm I D) 65 p2 (tsP (inB ((p1 * 3) + (I 64 (ixN p1))) 27) (astP (setR (mm I D) 65 (ixN ((p1 * 3) + (I 64 (ixN p1)))) p2) 66 p3 (tsP (inB p1 9) (tsP (inB p1 9) (CI d 55 [vR (some 63), vI p1] (setR (setR (mm (up2 (up2 I 64 (ixN p1) ((I 64 (ixN p1)) + 1)) 63 4 ((I 63 4) + 1)) D) 65 (ixN ((p1 * 3) + (I 64 (ixN p1)))) p2) 66 (ixN ((p1 * 3) + (I 64 (ixN p1)))) p3) (fun x1 I1 => Q (some (vI x1)) (setR (setR (mm I1 D) 65 (ixN ((p1 * 3) + (I 64 (ixN p1)))) p2) 66 (ixN ((p1 * 3) + (I 64 (ixN p1)))) p3)))))))))
 (Q (some (vI (-3))) (mm I D))))))
 (Q (some (vI (-3))) (mm I D))))
 (Q (some (vI (-1))) (mm I D)))) :
  Mt GG (d + 1) 75 [vR (some 63), vI p1, vR p2, vR p3] (mm I D) Q := runC_m (cut := (fun _ => false)) 62 h
set_option maxRecDepth 100000 in
theorem s_Bins_clear {d : Nat} {I : IM} {D : DY} {Q : Option PV → PM → Prop} (b : Nat) (h : tsP (pKd (mm I D) b = 1) (CV d 10 [vR (pR (mm I D) b 0), vI 0] (mm I D) (fun I1 => Q none (mm I1 D)))) :
  Mt GG (d + 1) 77 [vR (some b)] (mm I D) Q := runC_m (cut := (fun _ => false)) 5 h
set_option maxRecDepth 100000 in
theorem s_Formats_read {d : Nat} {I : IM} {D : DY} {Q : Option PV → PM → Prop} (p2 : Int32) (h : CI d 80 [vR (some 55), vI p2, vI 4] (mm I D) (fun x1 I1 => CI d 80 [vR (some 55), vI p2, vI 5] (mm (up2 I1 67 0 x1) D) (fun x2 I2 => CI d 80 [vR (some 55), vI p2, vI 0] (mm (up2 I2 67 1 x2) D) (fun x3 I3 => CI d 80 [vR (some 55), vI p2, vI 2] (mm (up2 I3 67 2 x3) D) (fun x4 I4 => CI d 80 [vR (some 55), vI p2, vI 3] (mm I4 D) (fun x5 I5 => Wp GG (d + 1) 79 51 [vR (some 63), vR (some 55), vI p2, vI x4, vI x5, vT] [] (mm I5 D) Q)))))) :
  Mt GG (d + 1) 79 [vR (some 63), vR (some 55), vI p2] (mm I D) Q := runC_m (cut := (fun pc => [51].contains pc)) 35 h
set_option maxRecDepth 100000 in
theorem s_Formats_read_51 {d : Nat} {I : IM} {D : DY} {Q : Option PV → PM → Prop} (p2 : Int32) (l3 : Int32) (l4 : Int32) (w5 : PV) (h : CI d 55 [vR (some 63), vI l3] (mm I D) (fun x1 I1 => brP (x1 ≤ l4)
 (Q none (mm I1 D))
 (brP ((((l3 * 3) + l4) - 1) < 0)
 (Wp GG (d + 1) 79 51 [vR (some 63), vR (some 55), vI p2, vI l3, vI (l4 + 1), vI (((l3 * 3) + l4) - 1)] [] (mm I1 D) Q)
 (brP ((27 : Int32) ≤ (((l3 * 3) + l4) - 1))
 (Wp GG (d + 1) 79 51 [vR (some 63), vR (some 55), vI p2, vI l3, vI (l4 + 1), vI (((l3 * 3) + l4) - 1)] [] (mm I1 D) Q)
 (brP ((27 : Int32) ≤ (((l3 * 3) + l4) - 1))
 (Wp GG (d + 1) 79 51 [vR (some 63), vR (some 55), vI p2, vI l3, vI (l4 + 1), vI (((l3 * 3) + l4) - 1)] [] (mm I1 D) Q)
 (tsP (inB (((l3 * 3) + l4) - 1) 27) (tsP (inB (((l3 * 3) + l4) - 1) 27) (CV d 82 [vR (some 63), vR (dR D 65 (ixN (((l3 * 3) + l4) - 1))), vR (dR D 66 (ixN (((l3 * 3) + l4) - 1)))] (mm I1 D) (fun I2 => Wp GG (d + 1) 79 51 [vR (some 63), vR (some 55), vI p2, vI l3, vI (l4 + 1), vI (((l3 * 3) + l4) - 1)] [] (mm I2 D) Q))))))))) :
  Wp GG (d + 1) 79 51 [vR (some 63), vR (some 55), vI p2, vI l3, vI l4, w5] [] (mm I D) Q := runC_p (cut := (fun pc => [51].contains pc)) 38 h
set_option maxRecDepth 100000 in
theorem s_Log_get {d : Nat} {I : IM} {D : DY} {Q : Option PV → PM → Prop} (p1 : Int32) (p2 : Int32) (h : CI d 81 [vR (some 55), vI p1] (mm I D) (fun x1 I1 => brP (x1 = 0)
 (Q (some (vI (I1 56 0))) (mm I1 D))
 (brP (((p1 * 6) + p2) < 0)
 (Q (some (vI 0)) (mm I1 D))
 (brP ((1446 : Int32) ≤ ((p1 * 6) + p2))
 (Q (some (vI 0)) (mm I1 D))
 (tsP (inB ((p1 * 6) + p2) 1446) (Q (some (vI (I1 56 (ixN ((p1 * 6) + p2))))) (mm I1 D))))))) :
  Mt GG (d + 1) 80 [vR (some 55), vI p1, vI p2] (mm I D) Q := runC_m (cut := (fun _ => false)) 24 h
set_option maxRecDepth 100000 in
theorem s_Log_has {d : Nat} {I : IM} {D : DY} {Q : Option PV → PM → Prop} (p1 : Int32) (h : CI d 12 [vI p1, vI 1, vI (I 55 4)] (mm I D) (fun x1 I1 => rtP 2 x1 (Q (some (vI x1)) (mm I1 D)))) :
  Mt GG (d + 1) 81 [vR (some 55), vI p1] (mm I D) Q := runC_m (cut := (fun _ => false)) 6 h
set_option maxRecDepth 100000 in
theorem s_Formats_change {d : Nat} {I : IM} {D : DY} {Q : Option PV → PM → Prop} (p1 : Option Nat) (p2 : Option Nat) (h : brP (p1 = none)
 (Q none (mm I D))
 (brP (p2 = none)
 (Q none (mm I D))
 (onR False p1 (fun a1 => tsP (pKd (mm I D) a1 = 4) (CI d 83 [vR (some a1), vR (some 67)] (mm I D) (fun x1 I1 => onR False p2 (fun a2 => tsP (pKd (mm I1 D) a2 = 4) (CI d 83 [vR (some a2), vR (some 67)] (mm I1 D) (fun x2 I2 => Q none (mm (up2 (up2 I2 67 0 x1) 67 1 x2) D)))))))))) :
  Mt GG (d + 1) 82 [vR (some 63), vR p1, vR p2] (mm I D) Q := runC_m (cut := (fun _ => false)) 25 h
set_option maxRecDepth 100000 in
theorem s_Formula_give {d : Nat} {I : IM} {D : DY} {Q : Option PV → PM → Prop} (a : Nat) (p1 : Option Nat) (h : Wp GG (d + 1) 83 4 [vR (some a), vR p1, vI 0, vI 0, vT] [] (mm I D) Q) :
  Mt GG (d + 1) 83 [vR (some a), vR p1] (mm I D) Q := runC_m (cut := (fun pc => [4].contains pc)) 5 h
set_option maxRecDepth 100000 in
theorem s_Formula_give_4 {d : Nat} {I : IM} {D : DY} {Q : Option PV → PM → Prop} (a : Nat) (p1 : Option Nat) (l2 : Int32) (l3 : Int32) (w4 : PV) (h : tsP (pKd (mm I D) a = 4) (onR False (pR (mm I D) a 0) (fun a1 => tsP (19 ≤ pKd (mm I D) a1 ∧ pKd (mm I D) a1 < 26) (brP ((Int32.ofNat (pLn (mm I D) a1)) ≤ l3)
 (brP (l2 ≤ 0)
 (Q (some (vI 0)) (mm I D))
 (tsP (pKd (mm I D) a = 4) (onR False (pR (mm I D) a 1) (fun a2 => tsP (pKd (mm I D) a2 = 20) (tsP (inB 0 (pLn (mm I D) a2)) (Q (some (vI (I a2 0))) (mm I D)))))))
 (tsP (pKd (mm I D) a = 4) (onR False (pR (mm I D) a 0) (fun a3 => tsP (pKd (mm I D) a3 = 20) (tsP (inB l3 (pLn (mm I D) a3)) (brP ((I a3 (ixN l3)) < 0)
 (brP (¬ (I a3 (ixN l3)) = (-1000))
 (brP (l2 < 2)
 (Q (some (vI 0)) (mm I D))
 (tsP (pKd (mm I D) a = 4) (onR False (pR (mm I D) a 1) (fun a4 => tsP (19 ≤ pKd (mm I D) a4 ∧ pKd (mm I D) a4 < 26) (brP (l2 ≤ (Int32.ofNat (pLn (mm I D) a4)))
 (tsP (pKd (mm I D) a = 4) (tsP (pKd (mm I D) a = 4) (onR False (pR (mm I D) a 1) (fun a5 => tsP (pKd (mm I D) a5 = 20) (tsP (inB ((l2 + (-1)) - 1) (pLn (mm I D) a5)) (tsP (pKd (mm I D) a = 4) (onR False (pR (mm I D) a 1) (fun a6 => tsP (pKd (mm I D) a6 = 20) (tsP (inB (l2 + (-1)) (pLn (mm I D) a6)) (CI d 85 [vI (-(I a3 (ixN l3))), vI (I a5 (ixN ((l2 + (-1)) - 1))), vI (I a6 (ixN (l2 + (-1))))] (mm I D) (fun x1 I1 => onR False (pR (mm I D) a 1) (fun a7 => tsP (pKd (mm I1 D) a7 = kInt) (tsP (inB ((l2 + (-1)) - 1) (pLn (mm I1 D) a7)) (Wp GG (d + 1) 83 4 [vR (some a), vR p1, vI (l2 + (-1)), vI (l3 + 1), vI (I a3 (ixN l3))] [] (mm (up2 I1 a7 (ixN ((l2 + (-1)) - 1)) x1) D) Q))))))))))))))
 (Q (some (vI 0)) (mm I D)))))))
 (brP (l2 < 1)
 (Q (some (vI 0)) (mm I D))
 (tsP (pKd (mm I D) a = 4) (onR False (pR (mm I D) a 1) (fun a8 => tsP (19 ≤ pKd (mm I D) a8 ∧ pKd (mm I D) a8 < 26) (brP (l2 ≤ (Int32.ofNat (pLn (mm I D) a8)))
 (tsP (pKd (mm I D) a = 4) (tsP (pKd (mm I D) a = 4) (onR False (pR (mm I D) a 1) (fun a9 => tsP (pKd (mm I D) a9 = 20) (tsP (inB (l2 - 1) (pLn (mm I D) a9)) (onR False (pR (mm I D) a 1) (fun a10 => tsP (pKd (mm I D) a10 = kInt) (tsP (inB (l2 - 1) (pLn (mm I D) a10)) (Wp GG (d + 1) 83 4 [vR (some a), vR p1, vI l2, vI (l3 + 1), vI (I a3 (ixN l3))] [] (mm (up2 I a10 (ixN (l2 - 1)) (-(I a9 (ixN (l2 - 1))))) D) Q)))))))))
 (Q (some (vI 0)) (mm I D))))))))
 (tsP (pKd (mm I D) a = 4) (onR False (pR (mm I D) a 1) (fun a11 => tsP (19 ≤ pKd (mm I D) a11 ∧ pKd (mm I D) a11 < 26) (brP (l2 < (Int32.ofNat (pLn (mm I D) a11)))
 (tsP (pKd (mm I D) a = 4) (brP ((10000 : Int32) ≤ (I a3 (ixN l3)))
 (CI d 84 [vR p1, vI ((I a3 (ixN l3)) - 10000)] (mm I D) (fun x2 I2 => onR False (pR (mm I D) a 1) (fun a12 => tsP (pKd (mm I2 D) a12 = kInt) (tsP (inB l2 (pLn (mm I2 D) a12)) (Wp GG (d + 1) 83 4 [vR (some a), vR p1, vI (l2 + 1), vI (l3 + 1), vI (I a3 (ixN l3))] [] (mm (up2 I2 a12 (ixN l2) x2) D) Q)))))
 (onR False (pR (mm I D) a 1) (fun a13 => tsP (pKd (mm I D) a13 = kInt) (tsP (inB l2 (pLn (mm I D) a13)) (Wp GG (d + 1) 83 4 [vR (some a), vR p1, vI (l2 + 1), vI (l3 + 1), vI (I a3 (ixN l3))] [] (mm (up2 I a13 (ixN l2) (I a3 (ixN l3))) D) Q))))))
 (Q (some (vI 0)) (mm I D))))))))))))))) :
  Wp GG (d + 1) 83 4 [vR (some a), vR p1, vI l2, vI l3, w4] [] (mm I D) Q := runC_p (cut := (fun pc => [4].contains pc)) 46 h
set_option maxRecDepth 100000 in
theorem s_Formula_letterOf {d : Nat} {I : IM} {D : DY} {Q : Option PV → PM → Prop} (p1 : Option Nat) (p2 : Int32) (h : brP (p2 < 0)
 (Q (some (vI 0)) (mm I D))
 (onR False p1 (fun a1 => tsP (19 ≤ pKd (mm I D) a1 ∧ pKd (mm I D) a1 < 26) (brP ((Int32.ofNat (pLn (mm I D) a1)) ≤ p2)
 (Q (some (vI 0)) (mm I D))
 (onR False p1 (fun a2 => tsP (pKd (mm I D) a2 = 20) (tsP (inB p2 (pLn (mm I D) a2)) (Q (some (vI (I a2 (ixN p2)))) (mm I D))))))))) :
  Mt GG d 84 [vR p1, vI p2] (mm I D) Q := runC_m (cut := (fun _ => false)) 11 h
set_option maxRecDepth 100000 in
theorem s_Formula_join {d : Nat} {I : IM} {D : DY} {Q : Option PV → PM → Prop} (p1 : Int32) (p2 : Int32) (p3 : Int32) (h : brP (p1 = (37 : Int32))
 (brP (¬ p3 = 0)
 (tsP (¬ p3 = 0) (Q (some (vI (p2 - p2 / p3 * p3))) (mm I D)))
 (Q (some (vI 0)) (mm I D)))
 (brP (p1 = ((37 : Int32) + 1))
 (brP (p2 ≤ p3)
 (Q (some (vI 0)) (mm I D))
 (Q (some (vI 1)) (mm I D)))
 (brP (p1 = (((37 : Int32) + 1) + 1))
 (brP (p2 ≤ p3)
 (Q (some (vI 0)) (mm I D))
 (Q (some (vI 1)) (mm I D)))
 (brP (p1 = ((((37 : Int32) + 1) + 1) + 1))
 (brP (p2 ≤ p3)
 (Q (some (vI 0)) (mm I D))
 (Q (some (vI 1)) (mm I D)))
 (brP (p1 = (((((37 : Int32) + 1) + 1) + 1) + 1))
 (brP (p2 ≤ p3)
 (Q (some (vI 0)) (mm I D))
 (Q (some (vI 1)) (mm I D)))
 (brP (p1 = ((((((37 : Int32) + 1) + 1) + 1) + 1) + 1))
 (Q (some (vI (p2 * p3))) (mm I D))
 (brP (p1 = (((((((37 : Int32) + 1) + 1) + 1) + 1) + 1) + 1))
 (Q (some (vI (p2 + p3))) (mm I D))
 (brP (p1 = ((((((((37 : Int32) + 1) + 1) + 1) + 1) + 1) + 1) + 1))
 (brP (p2 ≤ p3)
 (Q (some (vI 0)) (mm I D))
 (Q (some (vI 1)) (mm I D)))
 (brP (p1 = (((((((((37 : Int32) + 1) + 1) + 1) + 1) + 1) + 1) + 1) + 1))
 (Q (some (vI (p2 - p3))) (mm I D))
 (brP (p1 = ((((((((((37 : Int32) + 1) + 1) + 1) + 1) + 1) + 1) + 1) + 1) + 1))
 (brP (p2 ≤ p3)
 (Q (some (vI 0)) (mm I D))
 (Q (some (vI 1)) (mm I D)))
 (brP (p1 = (((((((((((37 : Int32) + 1) + 1) + 1) + 1) + 1) + 1) + 1) + 1) + 1) + 1))
 (brP (¬ p3 = 0)
 (tsP (¬ p3 = 0) (Q (some (vI (p2 / p3))) (mm I D)))
 (Q (some (vI 0)) (mm I D)))
 (brP (p1 = ((((((((((((37 : Int32) + 1) + 1) + 1) + 1) + 1) + 1) + 1) + 1) + 1) + 1) + 1))
 (brP (p2 ≤ p3)
 (Q (some (vI 0)) (mm I D))
 (Q (some (vI 1)) (mm I D)))
 (brP (p1 = (((((((((((((37 : Int32) + 1) + 1) + 1) + 1) + 1) + 1) + 1) + 1) + 1) + 1) + 1) + 1))
 (brP (p2 ≤ p3)
 (Q (some (vI 0)) (mm I D))
 (Q (some (vI 1)) (mm I D)))
 (brP (p1 = ((((((((((((((37 : Int32) + 1) + 1) + 1) + 1) + 1) + 1) + 1) + 1) + 1) + 1) + 1) + 1) + 1))
 (brP (p2 ≤ p3)
 (Q (some (vI 0)) (mm I D))
 (Q (some (vI 1)) (mm I D)))
 (brP (p1 = (((((((((((((((37 : Int32) + 1) + 1) + 1) + 1) + 1) + 1) + 1) + 1) + 1) + 1) + 1) + 1) + 1) + 1))
 (brP (p2 ≤ p3)
 (Q (some (vI 0)) (mm I D))
 (Q (some (vI 1)) (mm I D)))
 (brP (p1 = ((((((((((((((((37 : Int32) + 1) + 1) + 1) + 1) + 1) + 1) + 1) + 1) + 1) + 1) + 1) + 1) + 1) + 1) + 1))
 (brP (p2 ≤ p3)
 (Q (some (vI 0)) (mm I D))
 (Q (some (vI 1)) (mm I D)))
 (brP (p1 = (((((((((((((((((37 : Int32) + 1) + 1) + 1) + 1) + 1) + 1) + 1) + 1) + 1) + 1) + 1) + 1) + 1) + 1) + 1) + 1))
 (brP (p2 ≤ p3)
 (Q (some (vI 0)) (mm I D))
 (Q (some (vI 1)) (mm I D)))
 (brP (p1 = ((((((((((((((((((37 : Int32) + 1) + 1) + 1) + 1) + 1) + 1) + 1) + 1) + 1) + 1) + 1) + 1) + 1) + 1) + 1) + 1) + 1))
 (brP (p2 ≤ p3)
 (Q (some (vI 0)) (mm I D))
 (Q (some (vI 1)) (mm I D)))
 (brP (p1 = (((((((((((((((((((37 : Int32) + 1) + 1) + 1) + 1) + 1) + 1) + 1) + 1) + 1) + 1) + 1) + 1) + 1) + 1) + 1) + 1) + 1) + 1))
 (brP (p2 ≤ p3)
 (Q (some (vI 0)) (mm I D))
 (Q (some (vI 1)) (mm I D)))
 (brP (p1 = ((((((((((((((((((((37 : Int32) + 1) + 1) + 1) + 1) + 1) + 1) + 1) + 1) + 1) + 1) + 1) + 1) + 1) + 1) + 1) + 1) + 1) + 1) + 1))
 (brP (p2 ≤ p3)
 (Q (some (vI 0)) (mm I D))
 (Q (some (vI 1)) (mm I D)))
 (brP (p1 = (((((((((((((((((((((37 : Int32) + 1) + 1) + 1) + 1) + 1) + 1) + 1) + 1) + 1) + 1) + 1) + 1) + 1) + 1) + 1) + 1) + 1) + 1) + 1) + 1))
 (brP (p2 ≤ p3)
 (Q (some (vI 0)) (mm I D))
 (Q (some (vI 1)) (mm I D)))
 (brP (p1 = ((((((((((((((((((((((37 : Int32) + 1) + 1) + 1) + 1) + 1) + 1) + 1) + 1) + 1) + 1) + 1) + 1) + 1) + 1) + 1) + 1) + 1) + 1) + 1) + 1) + 1))
 (brP (p2 ≤ p3)
 (Q (some (vI 0)) (mm I D))
 (Q (some (vI 1)) (mm I D)))
 (brP (p1 = (((((((((((((((((((((((37 : Int32) + 1) + 1) + 1) + 1) + 1) + 1) + 1) + 1) + 1) + 1) + 1) + 1) + 1) + 1) + 1) + 1) + 1) + 1) + 1) + 1) + 1) + 1))
 (brP (p2 ≤ p3)
 (Q (some (vI 0)) (mm I D))
 (Q (some (vI 1)) (mm I D)))
 (brP (p1 = ((((((((((((((((((((((((37 : Int32) + 1) + 1) + 1) + 1) + 1) + 1) + 1) + 1) + 1) + 1) + 1) + 1) + 1) + 1) + 1) + 1) + 1) + 1) + 1) + 1) + 1) + 1) + 1))
 (brP (p3 ≤ p2)
 (Q (some (vI 0)) (mm I D))
 (Q (some (vI 1)) (mm I D)))
 (brP (p1 = (((((((((((((((((((((((((37 : Int32) + 1) + 1) + 1) + 1) + 1) + 1) + 1) + 1) + 1) + 1) + 1) + 1) + 1) + 1) + 1) + 1) + 1) + 1) + 1) + 1) + 1) + 1) + 1) + 1))
 (brP (¬ p2 = p3)
 (Q (some (vI 0)) (mm I D))
 (Q (some (vI 1)) (mm I D)))
 (brP (p2 ≤ p3)
 (Q (some (vI 0)) (mm I D))
 (Q (some (vI 1)) (mm I D)))))))))))))))))))))))))))) :
  Mt GG d 85 [vI p1, vI p2, vI p3] (mm I D) Q := runC_m (cut := (fun _ => false)) 8 h
set_option maxRecDepth 100000 in
theorem s_Formats_letter {d : Nat} {I : IM} {D : DY} {Q : Option PV → PM → Prop} (p1 : Int32) (h : brP (p1 < 0)
 (Q (some (vI 0)) (mm I D))
 (brP ((3 : Int32) ≤ p1)
 (Q (some (vI 0)) (mm I D))
 (tsP (inB p1 3) (Q (some (vI (I 67 (ixN p1)))) (mm I D))))) :
  Mt GG d 86 [vR (some 63), vI p1] (mm I D) Q := runC_m (cut := (fun _ => false)) 13 h
set_option maxRecDepth 100000 in
theorem s_Log_positionOf {d : Nat} {I : IM} {D : DY} {Q : Option PV → PM → Prop} (p1 : Int32) (p2 : Int32) (h : Wp GG (d + 1) 90 2 [vR (some 55), vI p1, vI p2, vI 1] [] (mm I D) Q) :
  Mt GG (d + 1) 90 [vR (some 55), vI p1, vI p2] (mm I D) Q := runC_m (cut := (fun pc => [2].contains pc)) 3 h
set_option maxRecDepth 100000 in
theorem s_Log_positionOf_2 {d : Nat} {I : IM} {D : DY} {Q : Option PV → PM → Prop} (p1 : Int32) (p2 : Int32) (l3 : Int32) (h : brP ((I 55 4) < l3)
 (Q (some (vI (-1))) (mm I D))
 (CI d 80 [vR (some 55), vI l3, vI 0] (mm I D) (fun x1 I1 => brP (¬ x1 = p1)
 (Wp GG (d + 1) 90 2 [vR (some 55), vI p1, vI p2, vI (l3 + 1)] [] (mm I1 D) Q)
 (CI d 80 [vR (some 55), vI l3, vI 1] (mm I1 D) (fun x2 I2 => brP (¬ x2 = p2)
 (Wp GG (d + 1) 90 2 [vR (some 55), vI p1, vI p2, vI (l3 + 1)] [] (mm I2 D) Q)
 (Q (some (vI l3)) (mm I2 D))))))) :
  Wp GG (d + 1) 90 2 [vR (some 55), vI p1, vI p2, vI l3] [] (mm I D) Q := runC_p (cut := (fun pc => [2].contains pc)) 19 h
set_option maxRecDepth 100000 in
theorem s_Snapshots_latestGood {d : Nat} {I : IM} {D : DY} {Q : Option PV → PM → Prop} (p1 : Int32) (p2 : Int32) (p3 : Int32) (h : Wp GG (d + 1) 92 6 [vR (some 68), vI p1, vI p2, vI p3, vI 0, vI 0, vT] [] (mm I D) Q) :
  Mt GG (d + 1) 92 [vR (some 68), vI p1, vI p2, vI p3] (mm I D) Q := runC_m (cut := (fun pc => [6].contains pc)) 5 h
set_option maxRecDepth 100000 in
theorem s_Snapshots_latestGood_6 {d : Nat} {I : IM} {D : DY} {Q : Option PV → PM → Prop} (p1 : Int32) (p2 : Int32) (p3 : Int32) (l4 : Int32) (l5 : Int32) (w6 : PV) (h : CI d 93 [vR (some 68), vI p1] (mm I D) (fun x1 I1 => brP (x1 ≤ l5)
 (Q (some (vI l4)) (mm I1 D))
 (CI d 94 [vR (some 68), vI ((p1 * 4) + l5), vI p3] (mm I1 D) (fun x2 I2 => brP (x2 = 0)
 (Wp GG (d + 1) 92 6 [vR (some 68), vI p1, vI p2, vI p3, vI l4, vI (l5 + 1), vI ((p1 * 4) + l5)] [] (mm I2 D) Q)
 (brP ((32 : Int32) ≤ ((p1 * 4) + l5))
 (Wp GG (d + 1) 92 6 [vR (some 68), vI p1, vI p2, vI p3, vI l4, vI (l5 + 1), vI ((p1 * 4) + l5)] [] (mm I2 D) Q)
 (tsP (inB ((p1 * 4) + l5) 32) (brP (p2 < (I2 69 (ixN ((p1 * 4) + l5))))
 (Wp GG (d + 1) 92 6 [vR (some 68), vI p1, vI p2, vI p3, vI l4, vI (l5 + 1), vI ((p1 * 4) + l5)] [] (mm I2 D) Q)
 (tsP (inB ((p1 * 4) + l5) 32) (CI d 39 [vI l4, vI (I2 69 (ixN ((p1 * 4) + l5)))] (mm I2 D) (fun x3 I3 => Wp GG (d + 1) 92 6 [vR (some 68), vI p1, vI p2, vI p3, vI x3, vI (l5 + 1), vI ((p1 * 4) + l5)] [] (mm I3 D) Q)))))))))) :
  Wp GG (d + 1) 92 6 [vR (some 68), vI p1, vI p2, vI p3, vI l4, vI l5, w6] [] (mm I D) Q := runC_p (cut := (fun pc => [6].contains pc)) 37 h
set_option maxRecDepth 100000 in
theorem s_Snapshots_sizeOf {d : Nat} {I : IM} {D : DY} {Q : Option PV → PM → Prop} (p1 : Int32) (h : brP (p1 < 0)
 (Q (some (vI 0)) (mm I D))
 (brP ((8 : Int32) ≤ p1)
 (Q (some (vI 0)) (mm I D))
 (tsP (inB p1 8) (Q (some (vI (I 71 (ixN p1)))) (mm I D))))) :
  Mt GG d 93 [vR (some 68), vI p1] (mm I D) Q := runC_m (cut := (fun _ => false)) 13 h
set_option maxRecDepth 100000 in
theorem s_Snapshots_isGood {d : Nat} {I : IM} {D : DY} {Q : Option PV → PM → Prop} (p1 : Int32) (p2 : Int32) (h : brP (p1 < 0)
 (Q (some (vI 0)) (mm I D))
 (brP ((32 : Int32) ≤ p1)
 (Q (some (vI 0)) (mm I D))
 (tsP (inB p1 32) (brP (¬ (I 70 (ixN p1)) = p2)
 (Q (some (vI 0)) (mm I D))
 (Q (some (vI 1)) (mm I D)))))) :
  Mt GG d 94 [vR (some 68), vI p1, vI p2] (mm I D) Q := runC_m (cut := (fun _ => false)) 16 h
set_option maxRecDepth 100000 in
theorem s_Integer_bitCount {d : Nat} {I : IM} {D : DY} {Q : Option PV → PM → Prop} (p1 : Int32) (h : Q (some (vI ((((((((p1 - (((Int32.toUInt32 p1 >>> (Int32.toUInt32 1 &&& Int32.toUInt32 31)).toInt32) &&& 1431655765)) &&& 858993459) + (((Int32.toUInt32 (p1 - (((Int32.toUInt32 p1 >>> (Int32.toUInt32 1 &&& Int32.toUInt32 31)).toInt32) &&& 1431655765)) >>> (Int32.toUInt32 2 &&& Int32.toUInt32 31)).toInt32) &&& 858993459)) + ((Int32.toUInt32 (((p1 - (((Int32.toUInt32 p1 >>> (Int32.toUInt32 1 &&& Int32.toUInt32 31)).toInt32) &&& 1431655765)) &&& 858993459) + (((Int32.toUInt32 (p1 - (((Int32.toUInt32 p1 >>> (Int32.toUInt32 1 &&& Int32.toUInt32 31)).toInt32) &&& 1431655765)) >>> (Int32.toUInt32 2 &&& Int32.toUInt32 31)).toInt32) &&& 858993459)) >>> (Int32.toUInt32 4 &&& Int32.toUInt32 31)).toInt32)) &&& 252645135) + ((Int32.toUInt32 (((((p1 - (((Int32.toUInt32 p1 >>> (Int32.toUInt32 1 &&& Int32.toUInt32 31)).toInt32) &&& 1431655765)) &&& 858993459) + (((Int32.toUInt32 (p1 - (((Int32.toUInt32 p1 >>> (Int32.toUInt32 1 &&& Int32.toUInt32 31)).toInt32) &&& 1431655765)) >>> (Int32.toUInt32 2 &&& Int32.toUInt32 31)).toInt32) &&& 858993459)) + ((Int32.toUInt32 (((p1 - (((Int32.toUInt32 p1 >>> (Int32.toUInt32 1 &&& Int32.toUInt32 31)).toInt32) &&& 1431655765)) &&& 858993459) + (((Int32.toUInt32 (p1 - (((Int32.toUInt32 p1 >>> (Int32.toUInt32 1 &&& Int32.toUInt32 31)).toInt32) &&& 1431655765)) >>> (Int32.toUInt32 2 &&& Int32.toUInt32 31)).toInt32) &&& 858993459)) >>> (Int32.toUInt32 4 &&& Int32.toUInt32 31)).toInt32)) &&& 252645135) >>> (Int32.toUInt32 8 &&& Int32.toUInt32 31)).toInt32)) + ((Int32.toUInt32 ((((((p1 - (((Int32.toUInt32 p1 >>> (Int32.toUInt32 1 &&& Int32.toUInt32 31)).toInt32) &&& 1431655765)) &&& 858993459) + (((Int32.toUInt32 (p1 - (((Int32.toUInt32 p1 >>> (Int32.toUInt32 1 &&& Int32.toUInt32 31)).toInt32) &&& 1431655765)) >>> (Int32.toUInt32 2 &&& Int32.toUInt32 31)).toInt32) &&& 858993459)) + ((Int32.toUInt32 (((p1 - (((Int32.toUInt32 p1 >>> (Int32.toUInt32 1 &&& Int32.toUInt32 31)).toInt32) &&& 1431655765)) &&& 858993459) + (((Int32.toUInt32 (p1 - (((Int32.toUInt32 p1 >>> (Int32.toUInt32 1 &&& Int32.toUInt32 31)).toInt32) &&& 1431655765)) >>> (Int32.toUInt32 2 &&& Int32.toUInt32 31)).toInt32) &&& 858993459)) >>> (Int32.toUInt32 4 &&& Int32.toUInt32 31)).toInt32)) &&& 252645135) + ((Int32.toUInt32 (((((p1 - (((Int32.toUInt32 p1 >>> (Int32.toUInt32 1 &&& Int32.toUInt32 31)).toInt32) &&& 1431655765)) &&& 858993459) + (((Int32.toUInt32 (p1 - (((Int32.toUInt32 p1 >>> (Int32.toUInt32 1 &&& Int32.toUInt32 31)).toInt32) &&& 1431655765)) >>> (Int32.toUInt32 2 &&& Int32.toUInt32 31)).toInt32) &&& 858993459)) + ((Int32.toUInt32 (((p1 - (((Int32.toUInt32 p1 >>> (Int32.toUInt32 1 &&& Int32.toUInt32 31)).toInt32) &&& 1431655765)) &&& 858993459) + (((Int32.toUInt32 (p1 - (((Int32.toUInt32 p1 >>> (Int32.toUInt32 1 &&& Int32.toUInt32 31)).toInt32) &&& 1431655765)) >>> (Int32.toUInt32 2 &&& Int32.toUInt32 31)).toInt32) &&& 858993459)) >>> (Int32.toUInt32 4 &&& Int32.toUInt32 31)).toInt32)) &&& 252645135) >>> (Int32.toUInt32 8 &&& Int32.toUInt32 31)).toInt32)) >>> (Int32.toUInt32 16 &&& Int32.toUInt32 31)).toInt32)) &&& 63))) (mm I D)) :
  Mt GG d 127 [vI p1] (mm I D) Q := runC_m (cut := (fun _ => false)) 42 h
set_option maxRecDepth 100000 in
theorem s_Command_amountBy {d : Nat} {I : IM} {D : DY} {Q : Option PV → PM → Prop} (a : Nat) (h : tsP (pKd (mm I D) a = 2) (brP ((pR (mm I D) a 3) = none)
 (tsP (pKd (mm I D) a = 2) (Q (some (vI (I a 1))) (mm I D)))
 (tsP (pKd (mm I D) a = 2) (onR False (pR (mm I D) a 3) (fun a1 => tsP (pKd (mm I D) a1 = 4) (CI d 83 [vR (some a1), vR (some 67)] (mm I D) (fun x1 I1 => CI d 40 [vI 999, vI x1] (mm I1 D) (fun x2 I2 => CI d 39 [vI 0, vI x2] (mm I2 D) (fun x3 I3 => Q (some (vI x3)) (mm I3 D)))))))))) :
  Mt GG (d + 1) 139 [vR (some a), vR (some 67)] (mm I D) Q := runC_m (cut := (fun _ => false)) 12 h
set_option maxRecDepth 100000 in
theorem s_Log_streamsUsed {d : Nat} {I : IM} {D : DY} {Q : Option PV → PM → Prop}  (h : Wp GG d 163 4 [vR (some 55), vI 0, vI 0] [] (mm I D) Q) :
  Mt GG d 163 [vR (some 55)] (mm I D) Q := runC_m (cut := (fun pc => [4].contains pc)) 5 h
set_option maxRecDepth 100000 in
theorem s_Log_streamsUsed_4 {d : Nat} {I : IM} {D : DY} {Q : Option PV → PM → Prop} (l1 : Int32) (l2 : Int32) (h : brP ((8 : Int32) ≤ l2)
 (Q (some (vI l1)) (mm I D))
 (tsP (inB l2 8) (brP ((I 57 (ixN l2)) ≤ 0)
 (Wp GG d 163 4 [vR (some 55), vI (l1 + 0), vI (l2 + 1)] [] (mm I D) Q)
 (Wp GG d 163 4 [vR (some 55), vI (l1 + 1), vI (l2 + 1)] [] (mm I D) Q)))) :
  Wp GG d 163 4 [vR (some 55), vI l1, vI l2] [] (mm I D) Q := runC_p (cut := (fun pc => [4].contains pc)) 18 h
set_option maxRecDepth 100000 in
theorem s_Snapshots_total {d : Nat} {I : IM} {D : DY} {Q : Option PV → PM → Prop}  (h : Wp GG d 165 4 [vR (some 68), vI 0, vI 0] [] (mm I D) Q) :
  Mt GG d 165 [vR (some 68)] (mm I D) Q := runC_m (cut := (fun pc => [4].contains pc)) 5 h
set_option maxRecDepth 100000 in
theorem s_Snapshots_total_4 {d : Nat} {I : IM} {D : DY} {Q : Option PV → PM → Prop} (l1 : Int32) (l2 : Int32) (h : brP ((8 : Int32) ≤ l2)
 (Q (some (vI l1)) (mm I D))
 (tsP (inB l2 8) (Wp GG d 165 4 [vR (some 68), vI (l1 + (I 71 (ixN l2))), vI (l2 + 1)] [] (mm I D) Q))) :
  Wp GG d 165 4 [vR (some 68), vI l1, vI l2] [] (mm I D) Q := runC_p (cut := (fun pc => [4].contains pc)) 15 h
