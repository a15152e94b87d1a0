set_option maxRecDepth 100000 in
theorem s_SB_init {d : Nat} {I : IM} {D : DY} {Q : Option PV → PM → Prop} (a : Nat) (h : tsP (pKd (mm I D) a = 12) (AV d 172 [vR (some a), vI 16] (mm I D) (fun I1 D1 => Q none (mm I1 D1)))) :
  Mt GG (d + 1) 167 [vR (some a)] (mm I D) Q := runC_m (cut := (fun _ => false)) 4 h
set_option maxRecDepth 100000 in
theorem s_SB_appS {d : Nat} {I : IM} {D : DY} {Q : Option PV → PM → Prop} (a : Nat) (p1 : Option Nat) (h : tsP (pKd (mm I D) a = 12) (AR d 173 [vR (some a), vR p1] (mm I D) (fun x1 I1 D1 => Q (some (vR (some a))) (mm I1 D1)))) :
  Mt GG (d + 1) 168 [vR (some a), vR p1] (mm I D) Q := runC_m (cut := (fun _ => false)) 6 h
set_option maxRecDepth 100000 in
theorem s_SB_appI {d : Nat} {I : IM} {D : DY} {Q : Option PV → PM → Prop} (a : Nat) (p1 : Int32) (h : tsP (pKd (mm I D) a = 12) (AR d 174 [vR (some a), vI p1] (mm I D) (fun x1 I1 D1 => Q (some (vR (some a))) (mm I1 D1)))) :
  Mt GG (d + 1) 169 [vR (some a), vI p1] (mm I D) Q := runC_m (cut := (fun _ => false)) 6 h
set_option maxRecDepth 100000 in
theorem s_SB_toString {d : Nat} {I : IM} {D : DY} {Q : Option PV → PM → Prop} (a : Nat) (h : CAN (mkN (mm I D) 13 4) (fun I1 D1 => tsP (pKd (mm I1 D1) (dZ D) = 13) (AV d 182 [vR (some (dZ D)), vR (some a)] (mm I1 D1) (fun I2 D2 => Q (some (vR (some (dZ D)))) (mm I2 D2))))) :
  Mt GG (d + 1) 170 [vR (some a)] (mm I D) Q := runC_m (cut := (fun _ => false)) 5 h
set_option maxRecDepth 100000 in
theorem s_SB_length {d : Nat} {I : IM} {D : DY} {Q : Option PV → PM → Prop} (a : Nat) (h : tsP (pKd (mm I D) a = 12) (CI d 181 [vR (some a)] (mm I D) (fun x1 I1 => Q (some (vI x1)) (mm I1 D)))) :
  Mt GG (d + 1) 171 [vR (some a)] (mm I D) Q := runC_m (cut := (fun _ => false)) 3 h
set_option maxRecDepth 100000 in
theorem s_AB_init {d : Nat} {I : IM} {D : DY} {Q : Option PV → PM → Prop} (a : Nat) (p1 : Int32) (h : tsP (0 ≤ Int32.toInt p1 ∧ Int32.toInt p1 ≤ 100000) (CAN (mkN (mm I D) 21 (ixN p1)) (fun I1 D1 => tsP (pKd (mm I1 D1) a = 12) (tsP (pKd (setR (mm I1 D1) a 0 (some (dZ D))) a = 12) (tsP ((Int32.toInt8 (0 : Int32)).toInt32 = (0 : Int32)) (Q none (setR (mm (up2 I1 a 1 0) D1) a 0 (some (dZ D))))))))) :
  Mt GG (d + 1) 172 [vR (some a), vI p1] (mm I D) Q := runC_m (cut := (fun _ => false)) 13 h
set_option maxRecDepth 100000 in
theorem s_AB_appS {d : Nat} {I : IM} {D : DY} {Q : Option PV → PM → Prop} (a : Nat) (p1 : Option Nat) (h : brP (p1 = none)
 (False)
 (onR False p1 (fun a1 => tsP (pKd (mm I D) a1 = 13) (CI d 7 [vR (some a1)] (mm I D) (fun x1 I1 => tsP (pKd (mm I1 D) a = 12) (tsP (pKd (mm I1 D) a = 12) (AV d 175 [vR (some a), vI ((I1 a 3) + x1)] (mm I1 D) (fun I2 D1 => tsP (pKd (mm I2 D1) a = 12) (tsP (pKd (mm I2 D1) a = 12) (CV d 178 [vR (some a), vI (I2 a 3), vR p1] (mm I2 D1) (fun I3 => tsP (pKd (mm I3 D1) a = 12) (tsP (pKd (mm I3 D1) a = 12) (Q (some (vR (some a))) (mm (up2 I3 a 3 ((I3 a 3) + x1)) D1)))))))))))))) :
  Mt GG (d + 1) 173 [vR (some a), vR p1] (mm I D) Q := runC_m (cut := (fun _ => false)) 24 h
set_option maxRecDepth 100000 in
theorem s_AB_appI {d : Nat} {I : IM} {D : DY} {Q : Option PV → PM → Prop} (a : Nat) (p1 : Int32) (h : tsP (pKd (mm I D) a = 12) (CI d 185 [vI p1] (mm I D) (fun x1 I1 => tsP (pKd (mm I1 D) a = 12) (AV d 175 [vR (some a), vI ((I a 3) + x1)] (mm I1 D) (fun I2 D1 => tsP (pKd (mm I2 D1) a = 12) (CI d 177 [vR (some a)] (mm I2 D1) (fun x3 I3 => brP (x3 = 0)
 (tsP (pKd (mm I3 D1) a = 12) (False))
 (tsP (pKd (mm I3 D1) a = 12) (CI d 186 [vI p1, vI ((I a 3) + x1), vR (pR (mm I3 D1) a 0)] (mm I3 D1) (fun x4 I4 => tsP (pKd (mm I4 D1) a = 12) (Q (some (vR (some a))) (mm (up2 I4 a 3 ((I a 3) + x1)) D1)))))))))))) :
  Mt GG (d + 1) 174 [vR (some a), vI p1] (mm I D) Q := runC_m (cut := (fun _ => false)) 26 h
set_option maxRecDepth 100000 in
theorem s_AB_ensure {d : Nat} {I : IM} {D : DY} {Q : Option PV → PM → Prop} (a : Nat) (p1 : Int32) (h : tsP (pKd (mm I D) a = 12) (onR False (pR (mm I D) a 0) (fun a1 => tsP (19 ≤ pKd (mm I D) a1 ∧ pKd (mm I D) a1 < 26) (tsP (pKd (mm I D) a = 12) (brP ((p1 - ((Int32.ofNat (pLn (mm I D) a1)) >>> (I a 1))) ≤ 0)
 (Q none (mm I D))
 (tsP (pKd (mm I D) a = 12) (tsP (pKd (mm I D) a = 12) (CI d 176 [vR (some a), vI p1] (mm I D) (fun x1 I1 => tsP (pKd (mm I1 D) a = 12) (AR d 187 [vR (pR (mm I D) a 0), vI (x1 <<< (I1 a 1))] (mm I1 D) (fun x2 I2 D1 => tsP (pKd (mm I2 D1) a = 12) (Q none (setR (mm I2 D1) a 0 x2))))))))))))) :
  Mt GG (d + 1) 175 [vR (some a), vI p1] (mm I D) Q := runC_m (cut := (fun _ => false)) 23 h
set_option maxRecDepth 100000 in
theorem s_AB_newCap {d : Nat} {I : IM} {D : DY} {Q : Option PV → PM → Prop} (a : Nat) (p1 : Int32) (h : tsP (pKd (mm I D) a = 12) (onR False (pR (mm I D) a 0) (fun a1 => tsP (19 ≤ pKd (mm I D) a1 ∧ pKd (mm I D) a1 < 26) (tsP (pKd (mm I D) a = 12) (tsP (pKd (mm I D) a = 12) (CI d 191 [vI (Int32.ofNat (pLn (mm I D) a1)), vI ((p1 <<< (I a 1)) - (Int32.ofNat (pLn (mm I D) a1))), vI ((Int32.ofNat (pLn (mm I D) a1)) + (2 <<< (I a 1)))] (mm I D) (fun x1 I1 => brP (¬ x1 = 2147483647)
 (tsP (pKd (mm I1 D) a = 12) (Q (some (vI (x1 >>> (I1 a 1)))) (mm I1 D)))
 (False)))))))) :
  Mt GG (d + 1) 176 [vR (some a), vI p1] (mm I D) Q := runC_m (cut := (fun _ => false)) 31 h
set_option maxRecDepth 100000 in
theorem s_AB_isLatin1 {d : Nat} {I : IM} {D : DY} {Q : Option PV → PM → Prop} (a : Nat) (h : tsP (pKd (mm I D) a = 12) (brP (¬ (I a 1) = 0)
 (Q (some (vI 0)) (mm I D))
 (Q (some (vI 1)) (mm I D)))) :
  Mt GG d 177 [vR (some a)] (mm I D) Q := runC_m (cut := (fun _ => false)) 8 h
set_option maxRecDepth 100000 in
theorem s_AB_putStr {d : Nat} {I : IM} {D : DY} {Q : Option PV → PM → Prop} (a : Nat) (p1 : Int32) (p2 : Option Nat) (h : tsP (pKd (mm I D) a = 12) (CV d 179 [vR (some a), vR p2] (mm I D) (fun I1 => tsP (pKd (mm I1 D) a = 12) (tsP (pKd (mm I1 D) a = 12) (onR False p2 (fun a1 => tsP (pKd (mm I1 D) a1 = 13) (CV d 184 [vR (some a1), vR (pR (mm I1 D) a 0), vI p1, vI (I1 a 1)] (mm I1 D) (fun I2 => Q none (mm I2 D))))))))) :
  Mt GG (d + 1) 178 [vR (some a), vI p1, vR p2] (mm I D) Q := runC_m (cut := (fun _ => false)) 11 h
set_option maxRecDepth 100000 in
theorem s_AB_inflIf {d : Nat} {I : IM} {D : DY} {Q : Option PV → PM → Prop} (a : Nat) (p1 : Option Nat) (h : tsP (pKd (mm I D) a = 12) (onR False p1 (fun a1 => tsP (pKd (mm I D) a1 = 13) (CI d 8 [vR (some a1)] (mm I D) (fun x1 I1 => brP ((I a 1) = x1)
 (Q none (mm I1 D))
 (False)))))) :
  Mt GG (d + 1) 179 [vR (some a), vR p1] (mm I D) Q := runC_m (cut := (fun _ => false)) 9 h
set_option maxRecDepth 100000 in
theorem s_AB_getValue {d : Nat} {I : IM} {D : DY} {Q : Option PV → PM → Prop} (a : Nat) (h : tsP (pKd (mm I D) a = 12) (Q (some (vR (pR (mm I D) a 0))) (mm I D))) :
  Mt GG d 180 [vR (some a)] (mm I D) Q := runC_m (cut := (fun _ => false)) 3 h
set_option maxRecDepth 100000 in
theorem s_AB_length {d : Nat} {I : IM} {D : DY} {Q : Option PV → PM → Prop} (a : Nat) (h : tsP (pKd (mm I D) a = 12) (Q (some (vI (I a 3))) (mm I D))) :
  Mt GG d 181 [vR (some a)] (mm I D) Q := runC_m (cut := (fun _ => false)) 3 h
set_option maxRecDepth 100000 in
theorem s_String_initB {d : Nat} {I : IM} {D : DY} {Q : Option PV → PM → Prop} (a : Nat) (p1 : Option Nat) (h : tsP (pKd (mm I D) a = 13) (AV d 183 [vR (some a), vR p1, vR none] (mm I D) (fun I1 D1 => Q none (mm I1 D1)))) :
  Mt GG (d + 1) 182 [vR (some a), vR p1] (mm I D) Q := runC_m (cut := (fun _ => false)) 5 h
set_option maxRecDepth 100000 in
theorem s_String_initA {d : Nat} {I : IM} {D : DY} {Q : Option PV → PM → Prop} (a : Nat) (p1 : Option Nat) (p2 : Option Nat) (h : onR False p1 (fun a1 => tsP (pKd (mm I D) a1 = 12) (CR d 180 [vR (some a1)] (mm I D) (fun x1 I1 => onR False p1 (fun a2 => tsP (pKd (mm I1 D) a2 = 12) (CI d 171 [vR (some a2)] (mm I1 D) (fun x2 I2 => onR False p1 (fun a3 => tsP (pKd (mm I2 D) a3 = 12) (CI d 177 [vR (some a3)] (mm I2 D) (fun x3 I3 => brP (x3 = 0)
 (onR False p1 (fun a4 => tsP (pKd (mm I3 D) a4 = 12) (brP ((I3 a4 2) = 0)
 (tsP (pKd (mm I3 D) a = 13) (tsP ((Int32.toInt8 (1 : Int32)).toInt32 = (1 : Int32)) (tsP (159 ≤ a) (AR d 188 [vR x1, vI 0, vI (x2 <<< 1)] (mm (up2 I3 a 1 1) D) (fun x4 I4 D1 => tsP (pKd (mm I4 D1) a = 13) (tsP (159 ≤ a) (Q none (setR (mm I4 D1) a 0 x4))))))))
 (False))))
 (tsP (pKd (mm I3 D) a = 13) (tsP ((Int32.toInt8 (0 : Int32)).toInt32 = (0 : Int32)) (tsP (159 ≤ a) (AR d 188 [vR x1, vI 0, vI x2] (mm (up2 I3 a 1 0) D) (fun x5 I5 D2 => tsP (pKd (mm I5 D2) a = 13) (tsP (159 ≤ a) (Q none (setR (mm I5 D2) a 0 x5)))))))))))))))))) :
  Mt GG (d + 1) 183 [vR (some a), vR p1, vR p2] (mm I D) Q := runC_m (cut := (fun _ => false)) 28 h
set_option maxRecDepth 100000 in
theorem s_String_getBytes {d : Nat} {I : IM} {D : DY} {Q : Option PV → PM → Prop} (a : Nat) (p1 : Option Nat) (p2 : Int32) (p3 : Int32) (h : tsP (pKd (mm I D) a = 13) (CI d 8 [vR (some a)] (mm I D) (fun x1 I1 => brP (¬ x1 = p3)
 (tsP (pKd (mm I1 D) a = 13) (tsP (pKd (mm I1 D) a = 13) (onR False (pR (mm I1 D) a 0) (fun a1 => tsP (19 ≤ pKd (mm I1 D) a1 ∧ pKd (mm I1 D) a1 < 26) (False)))))
 (tsP (pKd (mm I1 D) a = 13) (tsP (pKd (mm I1 D) a = 13) (onR False (pR (mm I1 D) a 0) (fun a2 => tsP (19 ≤ pKd (mm I1 D) a2 ∧ pKd (mm I1 D) a2 < 26) (onR False (pR (mm I1 D) a 0) (fun a3 => onR False p1 (fun a4 => tsP (pKd (mm I1 D) a3 = kByt ∧ pKd (mm I1 D) a4 = kByt ∧ 159 ≤ a4) (tsP (0 ≤ Int32.toInt 0 ∧ 0 ≤ Int32.toInt (p2 <<< p3) ∧ 0 ≤ Int32.toInt (Int32.ofNat (pLn (mm I1 D) a2)) ∧ Int32.toInt 0 + Int32.toInt (Int32.ofNat (pLn (mm I1 D) a2)) ≤ ((pLn (mm I1 D) a3 : Nat) : Int) ∧ Int32.toInt (p2 <<< p3) + Int32.toInt (Int32.ofNat (pLn (mm I1 D) a2)) ≤ ((pLn (mm I1 D) a4 : Nat) : Int)) (Q none (mm (cpI I1 a3 a4 0 (ixN (p2 <<< p3)) (ixN (Int32.ofNat (pLn (mm I1 D) a2)))) D))))))))))))) :
  Mt GG (d + 1) 184 [vR (some a), vR p1, vI p2, vI p3] (mm I D) Q := runC_m (cut := (fun _ => false)) 17 h
set_option maxRecDepth 100000 in
theorem s_Integer_size {d : Nat} {I : IM} {D : DY} {Q : Option PV → PM → Prop} (p1 : Int32) (h : brP (p1 < 0)
 (Wp GG d 185 16 [vI p1, vI 1, vI (-10), vI 1] [] (mm I D) Q)
 (Wp GG d 185 16 [vI (-p1), vI 0, vI (-10), vI 1] [] (mm I D) Q)) :
  Mt GG d 185 [vI p1] (mm I D) Q := runC_m (cut := (fun pc => [16].contains pc)) 14 h
set_option maxRecDepth 100000 in
theorem s_Integer_size_16 {d : Nat} {I : IM} {D : DY} {Q : Option PV → PM → Prop} (l0 : Int32) (l1 : Int32) (l2 : Int32) (l3 : Int32) (h : brP ((10 : Int32) ≤ l3)
 (Q (some (vI (10 + l1))) (mm I D))
 (brP (l0 ≤ l2)
 (Wp GG d 185 16 [vI l0, vI l1, vI (10 * l2), vI (l3 + 1)] [] (mm I D) Q)
 (Q (some (vI (l3 + l1))) (mm I D)))) :
  Wp GG d 185 16 [vI l0, vI l1, vI l2, vI l3] [] (mm I D) Q := runC_p (cut := (fun pc => [16].contains pc)) 13 h
set_option maxRecDepth 100000 in
theorem s_Integer_getChars {d : Nat} {I : IM} {D : DY} {Q : Option PV → PM → Prop} (p1 : Int32) (p2 : Int32) (p3 : Option Nat) (h : brP ((0 : Int32) ≤ p1)
 (Wp GG d 186 22 [vI (-p1), vI p2, vR p3, vT, vT, vI p2, vI 0] [] (mm I D) Q)
 (Wp GG d 186 22 [vI p1, vI p2, vR p3, vT, vT, vI p2, vI 1] [] (mm I D) Q)) :
  Mt GG d 186 [vI p1, vI p2, vR p3] (mm I D) Q := runC_m (cut := (fun pc => [22, 43, 56, 72, 85, 104].contains pc)) 12 h
set_option maxRecDepth 100000 in
theorem s_Integer_getChars_22 {d : Nat} {I : IM} {D : DY} {Q : Option PV → PM → Prop} (l0 : Int32) (p2 : Int32) (p3 : Option Nat) (w3 : PV) (w4 : PV) (l5 : Int32) (l6 : Int32) (h : brP ((-100 : Int32) < l0)
 (Wp GG d 186 72 [vI l0, vI p2, vR p3, w3, w4, vI l5, vI l6] [] (mm I D) Q)
 (Wp GG d 186 43 [vI (l0 / 100), vI p2, vR p3, vI (l0 / 100), vI (((l0 / 100) * 100) - l0), vI l5, vI l6] [] (mm I D) Q)) :
  Wp GG d 186 22 [vI l0, vI p2, vR p3, w3, w4, vI l5, vI l6] [] (mm I D) Q := runC_p (cut := (fun pc => [22, 43, 56, 72, 85, 104].contains pc)) 16 h
set_option maxRecDepth 100000 in
theorem s_Integer_getChars_43 {d : Nat} {I : IM} {D : DY} {Q : Option PV → PM → Prop} (l0 : Int32) (p2 : Int32) (p3 : Option Nat) (l3 : Int32) (l4 : Int32) (l5 : Int32) (l6 : Int32) (h : tsP (inB l4 100) (onR False p3 (fun a1 => tsP (pKd (mm I D) a1 = kByt ∧ 159 ≤ a1) (tsP (inB (l5 + (-1)) (pLn (mm I D) a1)) (Wp GG d 186 56 [vI l0, vI p2, vR p3, vI l3, vI l4, vI (l5 + (-1)), vI l6] [] (mm (up2 I a1 (ixN (l5 + (-1))) ((Int32.toInt8 (I 142 (ixN l4))).toInt32)) D) Q))))) :
  Wp GG d 186 43 [vI l0, vI p2, vR p3, vI l3, vI l4, vI l5, vI l6] [] (mm I D) Q := runC_p (cut := (fun pc => [22, 43, 56, 72, 85, 104].contains pc)) 8 h
set_option maxRecDepth 100000 in
theorem s_Integer_getChars_56 {d : Nat} {I : IM} {D : DY} {Q : Option PV → PM → Prop} (l0 : Int32) (p2 : Int32) (p3 : Option Nat) (l3 : Int32) (l4 : Int32) (l5 : Int32) (l6 : Int32) (h : tsP (inB l4 100) (onR False p3 (fun a1 => tsP (pKd (mm I D) a1 = kByt ∧ 159 ≤ a1) (tsP (inB (l5 + (-1)) (pLn (mm I D) a1)) (Wp GG d 186 22 [vI l0, vI p2, vR p3, vI l3, vI l4, vI (l5 + (-1)), vI l6] [] (mm (up2 I a1 (ixN (l5 + (-1))) ((Int32.toInt8 (I 143 (ixN l4))).toInt32)) D) Q))))) :
  Wp GG d 186 56 [vI l0, vI p2, vR p3, vI l3, vI l4, vI l5, vI l6] [] (mm I D) Q := runC_p (cut := (fun pc => [22, 43, 56, 72, 85, 104].contains pc)) 9 h
set_option maxRecDepth 100000 in
theorem s_Integer_getChars_72 {d : Nat} {I : IM} {D : DY} {Q : Option PV → PM → Prop} (l0 : Int32) (p2 : Int32) (p3 : Option Nat) (w3 : PV) (w4 : PV) (l5 : Int32) (l6 : Int32) (h : tsP (inB (-l0) 100) (onR False p3 (fun a1 => tsP (pKd (mm I D) a1 = kByt ∧ 159 ≤ a1) (tsP (inB (l5 + (-1)) (pLn (mm I D) a1)) (Wp GG d 186 85 [vI l0, vI p2, vR p3, w3, w4, vI (l5 + (-1)), vI l6] [] (mm (up2 I a1 (ixN (l5 + (-1))) ((Int32.toInt8 (I 142 (ixN (-l0)))).toInt32)) D) Q))))) :
  Wp GG d 186 72 [vI l0, vI p2, vR p3, w3, w4, vI l5, vI l6] [] (mm I D) Q := runC_p (cut := (fun pc => [22, 43, 56, 72, 85, 104].contains pc)) 9 h
set_option maxRecDepth 100000 in
theorem s_Integer_getChars_85 {d : Nat} {I : IM} {D : DY} {Q : Option PV → PM → Prop} (l0 : Int32) (p2 : Int32) (p3 : Option Nat) (w3 : PV) (w4 : PV) (l5 : Int32) (l6 : Int32) (h : brP ((-9 : Int32) ≤ l0)
 (Wp GG d 186 104 [vI l0, vI p2, vR p3, w3, w4, vI l5, vI l6] [] (mm I D) Q)
 (tsP (inB (-l0) 100) (onR False p3 (fun a1 => tsP (pKd (mm I D) a1 = kByt ∧ 159 ≤ a1) (tsP (inB (l5 + (-1)) (pLn (mm I D) a1)) (Wp GG d 186 104 [vI l0, vI p2, vR p3, w3, w4, vI (l5 + (-1)), vI l6] [] (mm (up2 I a1 (ixN (l5 + (-1))) ((Int32.toInt8 (I 143 (ixN (-l0)))).toInt32)) D) Q)))))) :
  Wp GG d 186 85 [vI l0, vI p2, vR p3, w3, w4, vI l5, vI l6] [] (mm I D) Q := runC_p (cut := (fun pc => [22, 43, 56, 72, 85, 104].contains pc)) 12 h
set_option maxRecDepth 100000 in
theorem s_Integer_getChars_104 {d : Nat} {I : IM} {D : DY} {Q : Option PV → PM → Prop} (l0 : Int32) (p2 : Int32) (p3 : Option Nat) (w3 : PV) (w4 : PV) (l5 : Int32) (l6 : Int32) (h : brP (l6 = 0)
 (Q (some (vI l5)) (mm I D))
 (onR False p3 (fun a1 => tsP (pKd (mm I D) a1 = kByt ∧ 159 ≤ a1) (tsP (inB (l5 + (-1)) (pLn (mm I D) a1)) (Q (some (vI (l5 + (-1)))) (mm (up2 I a1 (ixN (l5 + (-1))) ((Int32.toInt8 (45 : Int32)).toInt32)) D)))))) :
  Wp GG d 186 104 [vI l0, vI p2, vR p3, w3, w4, vI l5, vI l6] [] (mm I D) Q := runC_p (cut := (fun pc => [22, 43, 56, 72, 85, 104].contains pc)) 9 h
set_option maxRecDepth 100000 in
theorem s_Arrays_copyOfB {d : Nat} {I : IM} {D : DY} {Q : Option PV → PM → Prop} (p1 : Option Nat) (p2 : Int32) (h : onR False p1 (fun a1 => tsP (19 ≤ pKd (mm I D) a1 ∧ pKd (mm I D) a1 < 26) (brP (¬ p2 = (Int32.ofNat (pLn (mm I D) a1)))
 (tsP (0 ≤ Int32.toInt p2 ∧ Int32.toInt p2 ≤ 100000) (CAN (mkN (mm I D) 21 (ixN p2)) (fun I1 D1 => onR False p1 (fun a2 => tsP (19 ≤ pKd (mm I1 D1) a2 ∧ pKd (mm I1 D1) a2 < 26) (CI d 40 [vI (Int32.ofNat (pLn (mm I1 D1) a2)), vI p2] (mm I1 D1) (fun x1 I2 => onR False p1 (fun a3 => tsP (pKd (mm I2 D1) a3 = kByt ∧ pKd (mm I2 D1) (dZ D) = kByt ∧ 159 ≤ (dZ D)) (tsP (0 ≤ Int32.toInt 0 ∧ 0 ≤ Int32.toInt 0 ∧ 0 ≤ Int32.toInt x1 ∧ Int32.toInt 0 + Int32.toInt x1 ≤ ((pLn (mm I2 D1) a3 : Nat) : Int) ∧ Int32.toInt 0 + Int32.toInt x1 ≤ ((pLn (mm I2 D1) (dZ D) : Nat) : Int)) (Q (some (vR (some (dZ D)))) (mm (cpI I2 a3 (dZ D) 0 0 (ixN x1)) D1))))))))))
 (onR False p1 (fun a4 => tsP (pKd (mm I D) a4 = kByt ∧ 159 ≤ a4) (CAN (cpyM (mkN (mm I D) kByt (pLn (mm I D) a4)) a4 (pSz (mm I D)) 0 0 (pLn (mm I D) a4)) (fun I3 D2 => tsP (pKd (mm I3 D2) (dZ D) = kByt ∧ 159 ≤ (dZ D)) (Q (some (vR (some (dZ D)))) (mm I3 D2))))))))) :
  Mt GG (d + 1) 187 [vR p1, vI p2] (mm I D) Q := runC_m (cut := (fun _ => false)) 18 h
set_option maxRecDepth 100000 in
theorem s_Arrays_range {d : Nat} {I : IM} {D : DY} {Q : Option PV → PM → Prop} (p1 : Option Nat) (p2 : Int32) (p3 : Int32) (h : brP (¬ p2 = 0)
 (AR d 189 [vR p1, vI p2, vI p3] (mm I D) (fun x1 I1 D1 => Q (some (vR x1)) (mm I1 D1)))
 (onR False p1 (fun a1 => tsP (19 ≤ pKd (mm I D) a1 ∧ pKd (mm I D) a1 < 26) (brP (p3 = (Int32.ofNat (pLn (mm I D) a1)))
 (onR False p1 (fun a2 => tsP (pKd (mm I D) a2 = kByt ∧ 159 ≤ a2) (CAN (cpyM (mkN (mm I D) kByt (pLn (mm I D) a2)) a2 (pSz (mm I D)) 0 0 (pLn (mm I D) a2)) (fun I2 D2 => tsP (pKd (mm I2 D2) (dZ D) = kByt ∧ 159 ≤ (dZ D)) (Q (some (vR (some (dZ D)))) (mm I2 D2))))))
 (AR d 189 [vR p1, vI p2, vI p3] (mm I D) (fun x2 I3 D3 => Q (some (vR x2)) (mm I3 D3))))))) :
  Mt GG (d + 1) 188 [vR p1, vI p2, vI p3] (mm I D) Q := runC_m (cut := (fun _ => false)) 11 h
set_option maxRecDepth 100000 in
theorem s_Arrays_rangeB {d : Nat} {I : IM} {D : DY} {Q : Option PV → PM → Prop} (p1 : Option Nat) (p2 : Int32) (p3 : Int32) (h : CV d 190 [vI p2, vI p3] (mm I D) (fun I1 => tsP (0 ≤ Int32.toInt (p3 - p2) ∧ Int32.toInt (p3 - p2) ≤ 100000) (CAN (mkN (mm I1 D) 21 (ixN (p3 - p2))) (fun I2 D1 => onR False p1 (fun a1 => tsP (19 ≤ pKd (mm I2 D1) a1 ∧ pKd (mm I2 D1) a1 < 26) (CI d 40 [vI ((Int32.ofNat (pLn (mm I2 D1) a1)) - p2), vI (p3 - p2)] (mm I2 D1) (fun x2 I3 => onR False p1 (fun a2 => tsP (pKd (mm I3 D1) a2 = kByt ∧ pKd (mm I3 D1) (dZ D) = kByt ∧ 159 ≤ (dZ D)) (tsP (0 ≤ Int32.toInt p2 ∧ 0 ≤ Int32.toInt 0 ∧ 0 ≤ Int32.toInt x2 ∧ Int32.toInt p2 + Int32.toInt x2 ≤ ((pLn (mm I3 D1) a2 : Nat) : Int) ∧ Int32.toInt 0 + Int32.toInt x2 ≤ ((pLn (mm I3 D1) (dZ D) : Nat) : Int)) (Q (some (vR (some (dZ D)))) (mm (cpI I3 a2 (dZ D) (ixN p2) 0 (ixN x2)) D1))))))))))) :
  Mt GG (d + 1) 189 [vR p1, vI p2, vI p3] (mm I D) Q := runC_m (cut := (fun _ => false)) 23 h
set_option maxRecDepth 100000 in
theorem s_Arrays_chkLen {d : Nat} {I : IM} {D : DY} {Q : Option PV → PM → Prop} (p1 : Int32) (p2 : Int32) (h : brP (p1 ≤ p2)
 (Q none (mm I D))
 (False)) :
  Mt GG (d + 1) 190 [vI p1, vI p2] (mm I D) Q := runC_m (cut := (fun _ => false)) 4 h
set_option maxRecDepth 100000 in
theorem s_AS_newLength {d : Nat} {I : IM} {D : DY} {Q : Option PV → PM → Prop} (p1 : Int32) (p2 : Int32) (p3 : Int32) (h : CI d 39 [vI p2, vI p3] (mm I D) (fun x1 I1 => brP ((p1 + x1) ≤ (0 : Int32))
 (False)
 (brP ((2147483639 : Int32) < (p1 + x1))
 (False)
 (Q (some (vI (p1 + x1))) (mm I1 D))))) :
  Mt GG (d + 1) 191 [vI p1, vI p2, vI p3] (mm I D) Q := runC_m (cut := (fun _ => false)) 15 h
