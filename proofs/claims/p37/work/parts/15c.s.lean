set_option maxRecDepth 100000 in
theorem s_S_feed {d : Nat} {I : IM} {D : DY} {Q : Option PV → PM → Prop} (p1 : Int32) (h : CI d 12 [vI p1, vI 1, vI 255] (mm I D) (fun x1 I1 => brP (x1 = 0)
 (Q (some (vI (-1))) (mm I1 D))
 (CI d 13 [vR (some 46), vI p1] (mm I1 D) (fun x2 I2 => Q (some (vI x2)) (mm I2 D))))) :
  Mt GG (d + 1) 11 [vR (some 45), vI p1] (mm I D) Q := runC_m (cut := (fun _ => false)) 11 h
set_option maxRecDepth 100000 in
theorem s_S_within {d : Nat} {I : IM} {D : DY} {Q : Option PV → PM → Prop} (p1 : Int32) (p2 : Int32) (p3 : Int32) (h : brP (p1 < p2)
 (Q (some (vI 0)) (mm I D))
 (brP (p3 < p1)
 (Q (some (vI 0)) (mm I D))
 (Q (some (vI 1)) (mm I D)))) :
  Mt GG d 12 [vI p1, vI p2, vI p3] (mm I D) Q := runC_m (cut := (fun _ => false)) 9 h
set_option maxRecDepth 100000 in
theorem s_S_ask {d : Nat} {I : IM} {D : DY} {Q : Option PV → PM → Prop} (p1 : Int32) (p2 : Int32) (p3 : Int32) (h : CI d 15 [vI p1] (mm I D) (fun x1 I1 => brP (x1 = 0)
 (Q (some (vI (-1))) (mm I1 D))
 (brP (p2 < (-1))
 (Q (some (vI (-1))) (mm I1 D))
 (CI d 12 [vI p3, vI 0, vI 999] (mm I1 D) (fun x2 I2 => brP (¬ x2 = 0)
 (CV d 16 [vR (some 46)] (mm I2 D) (fun I3 => AR d 17 [vR (some 46), vI 0] (mm I3 D) (fun x4 I4 D1 => CI d 45 [vR (some 46)] (mm I4 D1) (fun x5 I5 => brP (x5 < 0)
 (CI d 46 [vR (some 54), vI p1, vI p2, vI p3, vR x4] (mm I5 D1) (fun x6 I6 => Q (some (vI x6)) (mm I6 D1)))
 (Q (some (vI ((-100) - x5))) (mm I5 D1))))))
 (Q (some (vI (-1))) (mm I2 D))))))) :
  Mt GG (d + 1) 14 [vR (some 45), vI p1, vI p2, vI p3] (mm I D) Q := runC_m (cut := (fun _ => false)) 33 h
set_option maxRecDepth 100000 in
theorem s_S_isStream {d : Nat} {I : IM} {D : DY} {Q : Option PV → PM → Prop} (p1 : Int32) (h : CI d 12 [vI p1, vI 0, vI 7] (mm I D) (fun x1 I1 => rtP 2 x1 (Q (some (vI x1)) (mm I1 D)))) :
  Mt GG (d + 1) 15 [vI p1] (mm I D) Q := runC_m (cut := (fun _ => false)) 5 h
set_option maxRecDepth 100000 in
theorem s_Store_asked {d : Nat} {I : IM} {D : DY} {Q : Option PV → PM → Prop} (p1 : Int32) (p2 : Int32) (p3 : Int32) (p4 : Option Nat) (h : brP (p3 ≤ 0)
 (brP (p2 = (-1))
 (onR False p4 (fun a1 => tsP (pKd (mm I D) a1 = 2) (CI d 49 [vR (some 54), vI p1, vR p4, vI (I a1 1)] (mm I D) (fun x1 I1 => Q (some (vI x1)) (mm I1 D)))))
 (CI d 48 [vR (some 55), vI p1] (mm I D) (fun x2 I2 => brP (p2 = x2)
 (onR False p4 (fun a2 => tsP (pKd (mm I2 D) a2 = 2) (CI d 49 [vR (some 54), vI p1, vR p4, vI (I2 a2 1)] (mm I2 D) (fun x3 I3 => Q (some (vI x3)) (mm I3 D)))))
 (CV d 47 [vR (some 54), vI 2] (mm I2 D) (fun I4 => Q (some (vI (-4))) (mm I4 D))))))
 (brP ((1000 : Int32) ≤ p3)
 (brP (p2 = (-1))
 (onR False p4 (fun a3 => tsP (pKd (mm I D) a3 = 2) (CI d 49 [vR (some 54), vI p1, vR p4, vI (I a3 1)] (mm I D) (fun x5 I5 => Q (some (vI x5)) (mm I5 D)))))
 (CI d 48 [vR (some 55), vI p1] (mm I D) (fun x6 I6 => brP (p2 = x6)
 (onR False p4 (fun a4 => tsP (pKd (mm I6 D) a4 = 2) (CI d 49 [vR (some 54), vI p1, vR p4, vI (I6 a4 1)] (mm I6 D) (fun x7 I7 => Q (some (vI x7)) (mm I7 D)))))
 (CV d 47 [vR (some 54), vI 2] (mm I6 D) (fun I8 => Q (some (vI (-4))) (mm I8 D))))))
 (tsP (inB p3 1000) (brP ((I 72 (ixN p3)) ≤ 0)
 (brP (p2 = (-1))
 (onR False p4 (fun a5 => tsP (pKd (mm I D) a5 = 2) (CI d 49 [vR (some 54), vI p1, vR p4, vI (I a5 1)] (mm I D) (fun x9 I9 => brP (x9 ≤ 0)
 (Q (some (vI x9)) (mm I9 D))
 (tsP (inB p3 1000) (Q (some (vI x9)) (mm (up2 I9 72 (ixN p3) x9) D)))))))
 (CI d 48 [vR (some 55), vI p1] (mm I D) (fun x10 I10 => brP (p2 = x10)
 (onR False p4 (fun a6 => tsP (pKd (mm I10 D) a6 = 2) (CI d 49 [vR (some 54), vI p1, vR p4, vI (I10 a6 1)] (mm I10 D) (fun x11 I11 => brP (x11 ≤ 0)
 (Q (some (vI x11)) (mm I11 D))
 (tsP (inB p3 1000) (Q (some (vI x11)) (mm (up2 I11 72 (ixN p3) x11) D)))))))
 (CV d 47 [vR (some 54), vI 2] (mm I10 D) (fun I12 => Q (some (vI (-4))) (mm I12 D))))))
 (CV d 47 [vR (some 54), vI 1] (mm I D) (fun I13 => tsP (inB p3 1000) (Q (some (vI (I13 72 (ixN p3)))) (mm I13 D)))))))) :
  Mt GG (d + 1) 46 [vR (some 54), vI p1, vI p2, vI p3, vR p4] (mm I D) Q := runC_m (cut := (fun _ => false)) 44 h
set_option maxRecDepth 100000 in
theorem s_Store_tell {d : Nat} {I : IM} {D : DY} {Q : Option PV → PM → Prop} (p1 : Int32) (h : brP (p1 < 0)
 (Q none (mm I D))
 (brP ((7 : Int32) ≤ p1)
 (Q none (mm I D))
 (tsP (inB p1 7) (tsP (inB p1 7) (Q none (mm (up2 I 78 (ixN p1) ((I 78 (ixN p1)) + 1)) D)))))) :
  Mt GG d 47 [vR (some 54), vI p1] (mm I D) Q := runC_m (cut := (fun _ => false)) 16 h
set_option maxRecDepth 100000 in
theorem s_Store_carry {d : Nat} {I : IM} {D : DY} {Q : Option PV → PM → Prop} (p1 : Int32) (p2 : Option Nat) (p3 : Int32) (h : CI d 50 [vR (some 59), vI p1, vR p2, vI p3] (mm I D) (fun x1 I1 => brP (x1 ≤ 0)
 (onR False p2 (fun a1 => tsP (pKd (mm I1 D) a1 = 2) (CI d 52 [vR (some a1)] (mm I1 D) (fun x2 I2 => CI d 53 [vR (some 55)] (mm I2 D) (fun x3 I3 => brP (x2 ≤ x3)
 (onR False p2 (fun a2 => tsP (pKd (mm I3 D) a2 = 2) (brP (¬ (I3 a2 0) = 6)
 (onR False p2 (fun a3 => tsP (pKd (mm I3 D) a3 = 2) (CV d 54 [vR (some 54), vI p1, vI (I3 a3 0), vI p3, vI 0] (mm I3 D) (fun I4 => CV d 47 [vR (some 54), vI 0] (mm I4 D) (fun I5 => CI d 48 [vR (some 55), vI p1] (mm I5 D) (fun x6 I6 => Q (some (vI x6)) (mm I6 D)))))))
 (onR False p2 (fun a4 => tsP (pKd (mm I3 D) a4 = 2) (CV d 54 [vR (some 54), vI p1, vI 6, vI p3, vI (I3 a4 2)] (mm I3 D) (fun I7 => onR False p2 (fun a5 => tsP (pKd (mm I7 D) a5 = 2) (CV d 54 [vR (some 54), vI (I7 a5 2), vI 7, vI p3, vI p1] (mm I7 D) (fun I8 => CV d 47 [vR (some 54), vI 0] (mm I8 D) (fun I9 => CI d 48 [vR (some 55), vI p1] (mm I9 D) (fun x10 I10 => Q (some (vI x10)) (mm I10 D)))))))))))))
 (Q (some (vI (-3))) (mm I3 D)))))))
 (CV d 47 [vR (some 54), vI 3] (mm I1 D) (fun I11 => Q (some (vI (-x1))) (mm I11 D))))) :
  Mt GG (d + 1) 49 [vR (some 54), vI p1, vR p2, vI p3] (mm I D) Q := runC_m (cut := (fun _ => false)) 42 h
set_option maxRecDepth 100000 in
theorem s_Store_come {d : Nat} {I : IM} {D : DY} {Q : Option PV → PM → Prop} (p1 : Int32) (p2 : Int32) (p3 : Int32) (p4 : Int32) (h : CI d 55 [vR (some 63), vI p2] (mm I D) (fun x1 I1 => CV d 56 [vR (some 55), vI p1, vI p2, vI x1, vI p3, vI p4] (mm I1 D) (fun I2 => CV d 58 [vR (some 59), vI p1, vI p2, vI p3] (mm I2 D) (fun I3 => CI d 48 [vR (some 55), vI p1] (mm I3 D) (fun x4 I4 => brP ((I4 54 13) ≤ 0)
 (Q none (mm I4 D))
 (tsP (¬ (I4 54 13) = 0) (brP (¬ (x4 - x4 / (I4 54 13) * (I4 54 13)) = 0)
 (Q none (mm I4 D))
 (CV d 61 [vR (some 68), vI p1, vI x4, vI (I4 63 4)] (mm I4 D) (fun I5 => Q none (mm I5 D)))))))))) :
  Mt GG (d + 1) 54 [vR (some 54), vI p1, vI p2, vI p3, vI p4] (mm I D) Q := runC_m (cut := (fun _ => false)) 39 h
set_option maxRecDepth 100000 in
theorem s_S_batch {d : Nat} {I : IM} {D : DY} {Q : Option PV → PM → Prop}  (h : CV d 16 [vR (some 46)] (mm I D) (fun I1 => AV d 64 [vR (some 46), vR (some 49)] (mm I1 D) (fun I2 D1 => CI d 45 [vR (some 46)] (mm I2 D1) (fun x3 I3 => brP (x3 < 0)
 (CI d 67 [vR (some 54), vR (some 49)] (mm I3 D1) (fun x4 I4 => Q (some (vI x4)) (mm I4 D1)))
 (Q (some (vI ((-100) - x3))) (mm I3 D1)))))) :
  Mt GG (d + 1) 63 [vR (some 45)] (mm I D) Q := runC_m (cut := (fun _ => false)) 20 h
set_option maxRecDepth 100000 in
theorem s_Store_carryAll {d : Nat} {I : IM} {D : DY} {Q : Option PV → PM → Prop}  (h : CI d 53 [vR (some 55)] (mm I D) (fun x1 I1 => CV d 68 [vR (some 49), vR (some 59), vI x1] (mm I1 D) (fun I2 => brP ((I2 49 3) ≤ (I2 49 4))
 (Wp GG (d + 1) 67 49 [vR (some 54), vR (some 49), vI 0, vT] [] (mm I2 D) Q)
 (brP ((I2 49 6) = 0)
 (Q (some (vI ((-300) - (I2 49 4)))) (mm I2 D))
 (CV d 47 [vR (some 54), vI 3] (mm I2 D) (fun I3 => Q (some (vI ((-300) - (I3 49 4)))) (mm I3 D))))))) :
  Mt GG (d + 1) 67 [vR (some 54), vR (some 49)] (mm I D) Q := runC_m (cut := (fun pc => [49].contains pc)) 23 h
set_option maxRecDepth 100000 in
theorem s_Store_carryAll_49 {d : Nat} {I : IM} {D : DY} {Q : Option PV → PM → Prop} (l2 : Int32) (w3 : PV) (h : brP ((I 49 3) ≤ l2)
 (Q (some (vI (I 49 5))) (mm I D))
 (CR d 70 [vR (some 49), vI l2] (mm I D) (fun x1 I1 => brP (x1 = none)
 (Wp GG (d + 1) 67 49 [vR (some 54), vR (some 49), vI (l2 + 1), vR x1] [] (mm I1 D) Q)
 (CI d 71 [vR (some 49), vI l2] (mm I1 D) (fun x2 I2 => onR False x1 (fun a1 => tsP (pKd (mm I2 D) a1 = 2) (CI d 49 [vR (some 54), vI x2, vR x1, vI (I2 a1 1)] (mm I2 D) (fun x3 I3 => Wp GG (d + 1) 67 49 [vR (some 54), vR (some 49), vI (l2 + 1), vR x1] [] (mm I3 D) Q)))))))) :
  Wp GG (d + 1) 67 49 [vR (some 54), vR (some 49), vI l2, w3] [] (mm I D) Q := runC_p (cut := (fun pc => [49].contains pc)) 22 h
set_option maxRecDepth 100000 in
theorem s_S_upcast {d : Nat} {I : IM} {D : DY} {Q : Option PV → PM → Prop}  (h : CV d 16 [vR (some 46)] (mm I D) (fun I1 => CI d 18 [vR (some 46), vR (some 17)] (mm I1 D) (fun x2 I2 => CV d 26 [vR (some 46), vI 58] (mm I2 D) (fun I3 => AR d 28 [vR (some 46), vR (some 19), vI 0] (mm I3 D) (fun x4 I4 D1 => CV d 26 [vR (some 46), vI 44] (mm I4 D1) (fun I5 => AR d 28 [vR (some 46), vR (some 19), vI 0] (mm I5 D1) (fun x6 I6 D2 => CI d 45 [vR (some 46)] (mm I6 D2) (fun x7 I7 => brP (x7 < 0)
 (AI d 74 [vR (some 54), vI x2, vR x4, vR x6] (mm I7 D2) (fun x8 I8 D3 => Q (some (vI x8)) (mm I8 D3)))
 (Q (some (vI ((-100) - x7))) (mm I7 D2)))))))))) :
  Mt GG (d + 1) 73 [vR (some 45)] (mm I D) Q := runC_m (cut := (fun _ => false)) 41 h
set_option maxRecDepth 100000 in
theorem s_Store_addUpcaster {d : Nat} {I : IM} {D : DY} {Q : Option PV → PM → Prop} (p1 : Int32) (p2 : Option Nat) (p3 : Option Nat) (h : AI d 75 [vR (some 63), vI p1, vR p2, vR p3] (mm I D) (fun x1 I1 D1 => brP (x1 ≤ 0)
 (Q (some (vI x1)) (mm I1 D1))
 (CV d 76 [vR (some 54), vI (I1 55 4)] (mm I1 D1) (fun I2 => CV d 69 [vR (some 59), vR (some 61)] (mm I2 D1) (fun I3 => Q (some (vI x1)) (mm I3 D1)))))) :
  Mt GG (d + 1) 74 [vR (some 54), vI p1, vR p2, vR p3] (mm I D) Q := runC_m (cut := (fun _ => false)) 21 h
set_option maxRecDepth 100000 in
theorem s_Store_foldPast {d : Nat} {I : IM} {D : DY} {Q : Option PV → PM → Prop} (p1 : Int32) (h : CV d 77 [vR (some 61)] (mm I D) (fun I1 => Wp GG (d + 1) 76 9 [vR (some 54), vI p1, vI 1] [] (mm I1 D) Q)) :
  Mt GG (d + 1) 76 [vR (some 54), vI p1] (mm I D) Q := runC_m (cut := (fun pc => [9].contains pc)) 6 h
set_option maxRecDepth 100000 in
theorem s_Store_foldPast_9 {d : Nat} {I : IM} {D : DY} {Q : Option PV → PM → Prop} (p1 : Int32) (l2 : Int32) (h : brP (p1 < l2)
 (Q none (mm I D))
 (brP ((I 55 4) < l2)
 (Q none (mm I D))
 (CV d 78 [vR (some 54), vI l2] (mm I D) (fun I1 => Wp GG (d + 1) 76 9 [vR (some 54), vI p1, vI (l2 + 1)] [] (mm I1 D) Q)))) :
  Wp GG (d + 1) 76 9 [vR (some 54), vI p1, vI l2] [] (mm I D) Q := runC_p (cut := (fun pc => [9].contains pc)) 14 h
set_option maxRecDepth 100000 in
theorem s_Store_changePast {d : Nat} {I : IM} {D : DY} {Q : Option PV → PM → Prop} (p1 : Int32) (h : CV d 79 [vR (some 63), vR (some 55), vI p1] (mm I D) (fun I1 => CI d 80 [vR (some 55), vI p1, vI 0] (mm I1 D) (fun x2 I2 => CI d 80 [vR (some 55), vI p1, vI 2] (mm I2 D) (fun x3 I3 => CI d 86 [vR (some 63), vI 0] (mm I3 D) (fun x4 I4 => CV d 58 [vR (some 61), vI x2, vI x3, vI x4] (mm I4 D) (fun I5 => Q none (mm I5 D))))))) :
  Mt GG (d + 1) 78 [vR (some 54), vI p1] (mm I D) Q := runC_m (cut := (fun _ => false)) 24 h
set_option maxRecDepth 100000 in
theorem s_S_state {d : Nat} {I : IM} {D : DY} {Q : Option PV → PM → Prop} (p1 : Int32) (p2 : Int32) (h : CI d 15 [vI p1] (mm I D) (fun x1 I1 => brP (x1 = 0)
 (Q (some (vI (-2000000000))) (mm I1 D))
 (CI d 12 [vI p2, vI 0, vI 4] (mm I1 D) (fun x2 I2 => brP (¬ x2 = 0)
 (brP (¬ p2 = 4)
 (CI d 51 [vR (some 59), vI p1, vI p2] (mm I2 D) (fun x3 I3 => Q (some (vI x3)) (mm I3 D)))
 (CI d 48 [vR (some 55), vI p1] (mm I2 D) (fun x4 I4 => Q (some (vI x4)) (mm I4 D))))
 (Q (some (vI (-2000000000))) (mm I2 D)))))) :
  Mt GG (d + 1) 87 [vR (some 45), vI p1, vI p2] (mm I D) Q := runC_m (cut := (fun _ => false)) 18 h
set_option maxRecDepth 100000 in
theorem s_S_at {d : Nat} {I : IM} {D : DY} {Q : Option PV → PM → Prop} (p1 : Int32) (p2 : Int32) (p3 : Int32) (h : CI d 89 [vR (some 45), vI p1, vI p2] (mm I D) (fun x1 I1 => brP (x1 = 0)
 (Q (some (vI (-2000000000))) (mm I1 D))
 (CI d 12 [vI p3, vI 0, vI 3] (mm I1 D) (fun x2 I2 => brP (¬ x2 = 0)
 (brP (¬ p2 = 0)
 (CI d 90 [vR (some 55), vI p1, vI p2] (mm I2 D) (fun x3 I3 => CV d 76 [vR (some 54), vI x3] (mm I3 D) (fun I4 => CI d 51 [vR (some 61), vI p1, vI p3] (mm I4 D) (fun x5 I5 => Q (some (vI x5)) (mm I5 D)))))
 (CV d 76 [vR (some 54), vI 0] (mm I2 D) (fun I6 => CI d 51 [vR (some 61), vI p1, vI p3] (mm I6 D) (fun x7 I7 => Q (some (vI x7)) (mm I7 D)))))
 (Q (some (vI (-2000000000))) (mm I2 D)))))) :
  Mt GG (d + 1) 88 [vR (some 45), vI p1, vI p2, vI p3] (mm I D) Q := runC_m (cut := (fun _ => false)) 28 h
set_option maxRecDepth 100000 in
theorem s_S_isVersion {d : Nat} {I : IM} {D : DY} {Q : Option PV → PM → Prop} (p1 : Int32) (p2 : Int32) (h : CI d 15 [vI p1] (mm I D) (fun x1 I1 => brP (x1 = 0)
 (Q (some (vI 0)) (mm I1 D))
 (CI d 48 [vR (some 55), vI p1] (mm I1 D) (fun x2 I2 => CI d 12 [vI p2, vI 0, vI x2] (mm I2 D) (fun x3 I3 => brP (x3 = 0)
 (Q (some (vI 0)) (mm I3 D))
 (Q (some (vI 1)) (mm I3 D))))))) :
  Mt GG (d + 1) 89 [vR (some 45), vI p1, vI p2] (mm I D) Q := runC_m (cut := (fun _ => false)) 15 h
set_option maxRecDepth 100000 in
theorem s_S_steps {d : Nat} {I : IM} {D : DY} {Q : Option PV → PM → Prop} (p1 : Int32) (p2 : Int32) (h : CI d 89 [vR (some 45), vI p1, vI p2] (mm I D) (fun x1 I1 => brP (¬ x1 = 0)
 (CI d 92 [vR (some 68), vI p1, vI p2, vI (I1 63 4)] (mm I1 D) (fun x2 I2 => Q (some (vI (p2 - x2))) (mm I2 D)))
 (Q (some (vI (-1))) (mm I1 D)))) :
  Mt GG (d + 1) 91 [vR (some 45), vI p1, vI p2] (mm I D) Q := runC_m (cut := (fun _ => false)) 18 h
set_option maxRecDepth 100000 in
theorem s_S_snap {d : Nat} {I : IM} {D : DY} {Q : Option PV → PM → Prop} (p1 : Int32) (h : CI d 15 [vI p1] (mm I D) (fun x1 I1 => brP (¬ x1 = 0)
 (CI d 48 [vR (some 55), vI p1] (mm I1 D) (fun x2 I2 => CV d 61 [vR (some 68), vI p1, vI x2, vI (I2 63 4)] (mm I2 D) (fun I3 => Q (some (vI x2)) (mm I3 D))))
 (Q (some (vI (-1))) (mm I1 D)))) :
  Mt GG (d + 1) 95 [vR (some 45), vI p1] (mm I D) Q := runC_m (cut := (fun _ => false)) 21 h
set_option maxRecDepth 100000 in
theorem s_S_every {d : Nat} {I : IM} {D : DY} {Q : Option PV → PM → Prop} (p1 : Int32) (h : CI d 12 [vI p1, vI 0, vI 20] (mm I D) (fun x1 I1 => brP (¬ x1 = 0)
 (Q (some (vI (I1 54 13))) (mm (up2 I1 54 13 p1) D))
 (Q (some (vI (-1))) (mm I1 D)))) :
  Mt GG (d + 1) 98 [vR (some 45), vI p1] (mm I D) Q := runC_m (cut := (fun _ => false)) 15 h
set_option maxRecDepth 100000 in
theorem s_S_event {d : Nat} {I : IM} {D : DY} {Q : Option PV → PM → Prop} (p1 : Int32) (p2 : Int32) (h : CI d 81 [vR (some 55), vI p1] (mm I D) (fun x1 I1 => brP (x1 = 0)
 (Q (some (vI (-2000000000))) (mm I1 D))
 (CI d 12 [vI p2, vI 0, vI 7] (mm I1 D) (fun x2 I2 => brP (¬ x2 = 0)
 (brP ((6 : Int32) ≤ p2)
 (CV d 79 [vR (some 63), vR (some 55), vI p1] (mm I2 D) (fun I3 => brP (¬ p2 = 6)
 (CI d 86 [vR (some 63), vI 1] (mm I3 D) (fun x4 I4 => Q (some (vI x4)) (mm I4 D)))
 (CI d 86 [vR (some 63), vI 0] (mm I3 D) (fun x5 I5 => Q (some (vI x5)) (mm I5 D)))))
 (CI d 80 [vR (some 55), vI p1, vI p2] (mm I2 D) (fun x6 I6 => Q (some (vI x6)) (mm I6 D))))
 (Q (some (vI (-2000000000))) (mm I2 D)))))) :
  Mt GG (d + 1) 99 [vR (some 45), vI p1, vI p2] (mm I D) Q := runC_m (cut := (fun _ => false)) 32 h
set_option maxRecDepth 100000 in
theorem s_S_find {d : Nat} {I : IM} {D : DY} {Q : Option PV → PM → Prop} (p1 : Int32) (p2 : Int32) (h : CI d 89 [vR (some 45), vI p1, vI p2] (mm I D) (fun x1 I1 => brP (x1 = 0)
 (Q (some (vI (-1))) (mm I1 D))
 (brP (p2 ≤ 0)
 (Q (some (vI (-1))) (mm I1 D))
 (CI d 90 [vR (some 55), vI p1, vI p2] (mm I1 D) (fun x2 I2 => Q (some (vI x2)) (mm I2 D)))))) :
  Mt GG (d + 1) 106 [vR (some 45), vI p1, vI p2] (mm I D) Q := runC_m (cut := (fun _ => false)) 15 h
set_option maxRecDepth 100000 in
theorem s_S_project {d : Nat} {I : IM} {D : DY} {Q : Option PV → PM → Prop} (p1 : Int32) (h : CI d 110 [vI p1] (mm I D) (fun x1 I1 => brP (¬ x1 = 0)
 (CV d 16 [vR (some 46)] (mm I1 D) (fun I2 => AR d 111 [vR (some 46)] (mm I2 D) (fun x3 I3 D1 => CI d 45 [vR (some 46)] (mm I3 D1) (fun x4 I4 => brP (x4 < 0)
 (tsP (inB p1 4) (astP (mm I4 D1) 73 x3 (tsP (inB p1 4) (Q (some (vI 1)) (setR (setR (mm I4 D1) 73 (ixN p1) x3) 74 (ixN p1) none)))))
 (Q (some (vI ((-100) - x4))) (mm I4 D1))))))
 (Q (some (vI (-1))) (mm I1 D)))) :
  Mt GG (d + 1) 109 [vR (some 45), vI p1] (mm I D) Q := runC_m (cut := (fun _ => false)) 30 h
set_option maxRecDepth 100000 in
theorem s_S_isSlot {d : Nat} {I : IM} {D : DY} {Q : Option PV → PM → Prop} (p1 : Int32) (h : CI d 12 [vI p1, vI 0, vI 3] (mm I D) (fun x1 I1 => rtP 2 x1 (Q (some (vI x1)) (mm I1 D)))) :
  Mt GG (d + 1) 110 [vI p1] (mm I D) Q := runC_m (cut := (fun _ => false)) 5 h
set_option maxRecDepth 100000 in
theorem s_Projection_init {d : Nat} {I : IM} {D : DY} {Q : Option PV → PM → Prop} (a : Nat) (p1 : Int32) (p2 : Int32) (p3 : Int32) (p4 : Option Nat) (h : tsP (pKd (mm I D) a = 7) (tsP (pKd (mm (up2 I a 0 p1) D) a = 7) (tsP (pKd (mm (up2 (up2 I a 0 p1) a 1 p2) D) a = 7) (tsP (pKd (mm (up2 (up2 (up2 I a 0 p1) a 1 p2) a 2 p3) D) a = 7) (CAN (mkN (setR (mm (up2 (up2 (up2 I a 0 p1) a 1 p2) a 2 p3) D) a 3 p4) 20 9) (fun I1 D1 => tsP (pKd (mm I1 D1) a = 7) (Q none (setR (mm I1 D1) a 4 (some (dZ D)))))))))) :
  Mt GG (d + 1) 114 [vR (some a), vI p1, vI p2, vI p3, vR p4] (mm I D) Q := runC_m (cut := (fun _ => false)) 19 h
set_option maxRecDepth 100000 in
theorem s_S_rebuild {d : Nat} {I : IM} {D : DY} {Q : Option PV → PM → Prop} (p1 : Int32) (h : CI d 110 [vI p1] (mm I D) (fun x1 I1 => brP (¬ x1 = 0)
 (tsP (inB p1 4) (brP ((dR D 73 (ixN p1)) = none)
 (Q (some (vI (-5))) (mm I1 D))
 (brP (¬ (I1 46 4) = 0)
 (CV d 16 [vR (some 46)] (mm I1 D) (fun I2 => AR d 111 [vR (some 46)] (mm I2 D) (fun x3 I3 D1 => CI d 45 [vR (some 46)] (mm I3 D1) (fun x4 I4 => brP (x4 < 0)
 (tsP (inB p1 4) (astP (mm I4 D1) 74 x3 (Q (some (vI 1)) (setR (mm I4 D1) 74 (ixN p1) x3))))
 (Q (some (vI ((-100) - x4))) (mm I4 D1))))))
 (onR False (dR D 73 (ixN p1)) (fun a1 => tsP (pKd (mm I1 D) a1 = 7) (AR d 116 [vR (some a1)] (mm I1 D) (fun x5 I5 D2 => tsP (inB p1 4) (astP (mm I5 D2) 74 x5 (Q (some (vI 1)) (setR (mm I5 D2) 74 (ixN p1) x5))))))))))
 (Q (some (vI (-1))) (mm I1 D)))) :
  Mt GG (d + 1) 115 [vR (some 45), vI p1] (mm I D) Q := runC_m (cut := (fun _ => false)) 36 h
set_option maxRecDepth 100000 in
theorem s_Projection_afresh {d : Nat} {I : IM} {D : DY} {Q : Option PV → PM → Prop} (a : Nat) (h : CAN (mkN (mm I D) 7 7) (fun I1 D1 => tsP (pKd (mm I1 D1) a = 7) (tsP (pKd (mm I1 D1) a = 7) (tsP (pKd (mm I1 D1) a = 7) (tsP (pKd (mm I1 D1) a = 7) (tsP (pKd (mm I1 D1) (dZ D) = 7) (AV d 114 [vR (some (dZ D)), vI (I1 a 0), vI (I1 a 1), vI (I1 a 2), vR (pR (mm I1 D1) a 3)] (mm I1 D1) (fun I2 D2 => Q (some (vR (some (dZ D)))) (mm I2 D2))))))))) :
  Mt GG (d + 1) 116 [vR (some a)] (mm I D) Q := runC_m (cut := (fun _ => false)) 12 h
set_option maxRecDepth 100000 in
theorem s_S_deliver {d : Nat} {I : IM} {D : DY} {Q : Option PV → PM → Prop} (p1 : Int32) (p2 : Int32) (p3 : Int32) (p4 : Int32) (h : CI d 110 [vI p1] (mm I D) (fun x1 I1 => brP (x1 = 0)
 (Q (some (vI (-1))) (mm I1 D))
 (CI d 12 [vI p2, vI 0, vI 1] (mm I1 D) (fun x2 I2 => brP (x2 = 0)
 (Q (some (vI (-1))) (mm I2 D))
 (brP (p3 < 1)
 (Q (some (vI (-1))) (mm I2 D))
 (CI d 12 [vI p4, vI 1, vI 240] (mm I2 D) (fun x3 I3 => brP (¬ x3 = 0)
 (CR d 118 [vR (some 54), vI p1, vI p2] (mm I3 D) (fun x4 I4 => brP (x4 = none)
 (Q (some (vI (-5))) (mm I4 D))
 (CI d 119 [vR (some 54), vR x4, vI p3, vI p4] (mm I4 D) (fun x5 I5 => Q (some (vI x5)) (mm I5 D)))))
 (Q (some (vI (-1))) (mm I3 D))))))))) :
  Mt GG (d + 1) 117 [vR (some 45), vI p1, vI p2, vI p3, vI p4] (mm I D) Q := runC_m (cut := (fun _ => false)) 31 h
set_option maxRecDepth 100000 in
theorem s_Store_projectionOf {d : Nat} {I : IM} {D : DY} {Q : Option PV → PM → Prop} (p1 : Int32) (p2 : Int32) (h : brP (p1 < 0)
 (Q (some (vR none)) (mm I D))
 (brP (p1 < 4)
 (brP (¬ p2 = 0)
 (tsP (inB p1 4) (Q (some (vR (dR D 74 (ixN p1)))) (mm I D)))
 (tsP (inB p1 4) (Q (some (vR (dR D 73 (ixN p1)))) (mm I D))))
 (Q (some (vR none)) (mm I D)))) :
  Mt GG d 118 [vR (some 54), vI p1, vI p2] (mm I D) Q := runC_m (cut := (fun _ => false)) 13 h
set_option maxRecDepth 100000 in
theorem s_Store_handOver {d : Nat} {I : IM} {D : DY} {Q : Option PV → PM → Prop} (p1 : Option Nat) (p2 : Int32) (p3 : Int32) (h : Wp GG (d + 1) 119 6 [vR (some 54), vR p1, vI p2, vI p3, vI 0, vI 0, vT] [] (mm I D) Q) :
  Mt GG (d + 1) 119 [vR (some 54), vR p1, vI p2, vI p3] (mm I D) Q := runC_m (cut := (fun pc => [6].contains pc)) 5 h
set_option maxRecDepth 100000 in
theorem s_Store_handOver_6 {d : Nat} {I : IM} {D : DY} {Q : Option PV → PM → Prop} (p1 : Option Nat) (p2 : Int32) (p3 : Int32) (l4 : Int32) (l5 : Int32) (w6 : PV) (h : brP (p3 ≤ l5)
 (Q (some (vI l4)) (mm I D))
 (brP (p2 ≤ ((I 55 4) - l5))
 (onR False p1 (fun a1 => tsP (pKd (mm I D) a1 = 7) (brP ((p2 + l5) ≤ ((I a1 6) + 1))
 (onR False p1 (fun a2 => tsP (pKd (mm I D) a2 = 7) (brP ((I a2 6) < (p2 + l5))
 (CV d 120 [vR (some 54), vR p1, vI (p2 + l5)] (mm I D) (fun I1 => CV d 47 [vR (some 54), vI 4] (mm I1 D) (fun I2 => Wp GG (d + 1) 119 6 [vR (some 54), vR p1, vI p2, vI p3, vI (l4 + 1), vI (l5 + 1), vI (p2 + l5)] [] (mm I2 D) Q)))
 (CV d 47 [vR (some 54), vI 5] (mm I D) (fun I3 => Wp GG (d + 1) 119 6 [vR (some 54), vR p1, vI p2, vI p3, vI l4, vI (l5 + 1), vI (p2 + l5)] [] (mm I3 D) Q)))))
 (CV d 47 [vR (some 54), vI 6] (mm I D) (fun I4 => Q (some (vI l4)) (mm I4 D))))))
 (Q (some (vI l4)) (mm I D)))) :
  Wp GG (d + 1) 119 6 [vR (some 54), vR p1, vI p2, vI p3, vI l4, vI l5, w6] [] (mm I D) Q := runC_p (cut := (fun pc => [6].contains pc)) 35 h
set_option maxRecDepth 100000 in
theorem s_Store_handle {d : Nat} {I : IM} {D : DY} {Q : Option PV → PM → Prop} (p1 : Option Nat) (p2 : Int32) (h : CV d 79 [vR (some 63), vR (some 55), vI p2] (mm I D) (fun I1 => CI d 80 [vR (some 55), vI p2, vI 2] (mm I1 D) (fun x2 I2 => onR False p1 (fun a1 => tsP (pKd (mm I2 D) a1 = 7) (CV d 121 [vR (some a1), vI x2, vR (some 67)] (mm I2 D) (fun I3 => onR False p1 (fun a2 => tsP (pKd (mm I3 D) a2 = 7) (Q none (mm (up2 I3 a2 6 p2) D))))))))) :
  Mt GG (d + 1) 120 [vR (some 54), vR p1, vI p2] (mm I D) Q := runC_m (cut := (fun _ => false)) 20 h
set_option maxRecDepth 100000 in
theorem s_Projection_handle {d : Nat} {I : IM} {D : DY} {Q : Option PV → PM → Prop} (a : Nat) (p1 : Int32) (h : tsP (pKd (mm I D) a = 7) (brP ((((I a 1) >>> p1) &&& 1) = 0)
 (Q none (mm I D))
 (tsP (pKd (mm I D) a = 7) (onR False (pR (mm I D) a 3) (fun a1 => tsP (pKd (mm I D) a1 = 4) (CI d 83 [vR (some a1), vR (some 67)] (mm I D) (fun x1 I1 => brP (¬ x1 = 0)
 (tsP (pKd (mm I1 D) a = 7) (brP (¬ (I1 a 2) = 0)
 (tsP (pKd (mm I1 D) a = 7) (brP (¬ (I1 a 2) = 1)
 (tsP (pKd (mm I1 D) a = 7) (onR False (pR (mm I1 D) a 4) (fun a2 => tsP (19 ≤ pKd (mm I1 D) a2 ∧ pKd (mm I1 D) a2 < 26) (brP ((0 : Int32) < (Int32.ofNat (pLn (mm I1 D) a2)))
 (tsP (pKd (mm I1 D) a = 7) (tsP (pKd (mm I1 D) a = 7) (CI d 122 [vR (some a), vI 0] (mm I1 D) (fun x2 I2 => brP (x2 = 0)
 (tsP (pKd (mm I2 D) a = 7) (brP (¬ (I2 a 0) = 1)
 (onR False (pR (mm I1 D) a 4) (fun a3 => tsP (pKd (mm I2 D) a3 = kInt) (tsP (inB 0 (pLn (mm I2 D) a3)) (tsP (pKd (mm (up2 I2 a3 0 (I2 67 0)) D) a = 7) (tsP (pKd (mm (up2 I2 a3 0 (I2 67 0)) D) a = 7) (Q none (mm (up2 (up2 I2 a3 0 (I2 67 0)) a 5 (((up2 I2 a3 0 (I2 67 0)) a 5) ||| ((1 : Int32) <<< 0))) D)))))))
 (onR False (pR (mm I1 D) a 4) (fun a4 => tsP (pKd (mm I2 D) a4 = kInt) (tsP (inB 0 (pLn (mm I2 D) a4)) (tsP (pKd (mm (up2 I2 a4 0 1) D) a = 7) (tsP (pKd (mm (up2 I2 a4 0 1) D) a = 7) (Q none (mm (up2 (up2 I2 a4 0 1) a 5 (((up2 I2 a4 0 1) a 5) ||| ((1 : Int32) <<< 0))) D)))))))))
 (tsP (pKd (mm I2 D) a = 7) (onR False (pR (mm I2 D) a 4) (fun a5 => tsP (pKd (mm I2 D) a5 = 20) (tsP (inB 0 (pLn (mm I2 D) a5)) (tsP (pKd (mm I2 D) a = 7) (CI d 123 [vR (some a), vI (I2 a5 0), vI (I2 67 0)] (mm I2 D) (fun x3 I3 => onR False (pR (mm I1 D) a 4) (fun a6 => tsP (pKd (mm I3 D) a6 = kInt) (tsP (inB 0 (pLn (mm I3 D) a6)) (tsP (pKd (mm (up2 I3 a6 0 x3) D) a = 7) (tsP (pKd (mm (up2 I3 a6 0 x3) D) a = 7) (Q none (mm (up2 (up2 I3 a6 0 x3) a 5 (((up2 I3 a6 0 x3) a 5) ||| ((1 : Int32) <<< 0))) D)))))))))))))))))
 (Q none (mm I1 D))))))
 (brP (p1 < 0)
 (Q none (mm I1 D))
 (tsP (pKd (mm I1 D) a = 7) (onR False (pR (mm I1 D) a 4) (fun a7 => tsP (19 ≤ pKd (mm I1 D) a7 ∧ pKd (mm I1 D) a7 < 26) (brP (p1 < (Int32.ofNat (pLn (mm I1 D) a7)))
 (tsP (pKd (mm I1 D) a = 7) (tsP (pKd (mm I1 D) a = 7) (CI d 122 [vR (some a), vI p1] (mm I1 D) (fun x4 I4 => brP (x4 = 0)
 (tsP (pKd (mm I4 D) a = 7) (brP (¬ (I4 a 0) = 1)
 (onR False (pR (mm I1 D) a 4) (fun a8 => tsP (pKd (mm I4 D) a8 = kInt) (tsP (inB p1 (pLn (mm I4 D) a8)) (tsP (pKd (mm (up2 I4 a8 (ixN p1) (I4 67 0)) D) a = 7) (tsP (pKd (mm (up2 I4 a8 (ixN p1) (I4 67 0)) D) a = 7) (Q none (mm (up2 (up2 I4 a8 (ixN p1) (I4 67 0)) a 5 (((up2 I4 a8 (ixN p1) (I4 67 0)) a 5) ||| (1 <<< p1))) D)))))))
 (onR False (pR (mm I1 D) a 4) (fun a9 => tsP (pKd (mm I4 D) a9 = kInt) (tsP (inB p1 (pLn (mm I4 D) a9)) (tsP (pKd (mm (up2 I4 a9 (ixN p1) 1) D) a = 7) (tsP (pKd (mm (up2 I4 a9 (ixN p1) 1) D) a = 7) (Q none (mm (up2 (up2 I4 a9 (ixN p1) 1) a 5 (((up2 I4 a9 (ixN p1) 1) a 5) ||| (1 <<< p1))) D)))))))))
 (tsP (pKd (mm I4 D) a = 7) (onR False (pR (mm I4 D) a 4) (fun a10 => tsP (pKd (mm I4 D) a10 = 20) (tsP (inB p1 (pLn (mm I4 D) a10)) (tsP (pKd (mm I4 D) a = 7) (CI d 123 [vR (some a), vI (I4 a10 (ixN p1)), vI (I4 67 0)] (mm I4 D) (fun x5 I5 => onR False (pR (mm I1 D) a 4) (fun a11 => tsP (pKd (mm I5 D) a11 = kInt) (tsP (inB p1 (pLn (mm I5 D) a11)) (tsP (pKd (mm (up2 I5 a11 (ixN p1) x5) D) a = 7) (tsP (pKd (mm (up2 I5 a11 (ixN p1) x5) D) a = 7) (Q none (mm (up2 (up2 I5 a11 (ixN p1) x5) a 5 (((up2 I5 a11 (ixN p1) x5) a 5) ||| (1 <<< p1))) D)))))))))))))))))
 (Q none (mm I1 D)))))))))
 (brP ((I1 67 2) < 0)
 (Q none (mm I1 D))
 (tsP (pKd (mm I1 D) a = 7) (onR False (pR (mm I1 D) a 4) (fun a12 => tsP (19 ≤ pKd (mm I1 D) a12 ∧ pKd (mm I1 D) a12 < 26) (brP ((I1 67 2) < (Int32.ofNat (pLn (mm I1 D) a12)))
 (tsP (pKd (mm I1 D) a = 7) (tsP (pKd (mm I1 D) a = 7) (CI d 122 [vR (some a), vI (I1 67 2)] (mm I1 D) (fun x6 I6 => brP (x6 = 0)
 (tsP (pKd (mm I6 D) a = 7) (brP (¬ (I6 a 0) = 1)
 (onR False (pR (mm I1 D) a 4) (fun a13 => tsP (pKd (mm I6 D) a13 = kInt) (tsP (inB (I1 67 2) (pLn (mm I6 D) a13)) (tsP (pKd (mm (up2 I6 a13 (ixN (I1 67 2)) (I6 67 0)) D) a = 7) (tsP (pKd (mm (up2 I6 a13 (ixN (I1 67 2)) (I6 67 0)) D) a = 7) (Q none (mm (up2 (up2 I6 a13 (ixN (I1 67 2)) (I6 67 0)) a 5 (((up2 I6 a13 (ixN (I1 67 2)) (I6 67 0)) a 5) ||| (1 <<< (I1 67 2)))) D)))))))
 (onR False (pR (mm I1 D) a 4) (fun a14 => tsP (pKd (mm I6 D) a14 = kInt) (tsP (inB (I1 67 2) (pLn (mm I6 D) a14)) (tsP (pKd (mm (up2 I6 a14 (ixN (I1 67 2)) 1) D) a = 7) (tsP (pKd (mm (up2 I6 a14 (ixN (I1 67 2)) 1) D) a = 7) (Q none (mm (up2 (up2 I6 a14 (ixN (I1 67 2)) 1) a 5 (((up2 I6 a14 (ixN (I1 67 2)) 1) a 5) ||| (1 <<< (I1 67 2)))) D)))))))))
 (tsP (pKd (mm I6 D) a = 7) (onR False (pR (mm I6 D) a 4) (fun a15 => tsP (pKd (mm I6 D) a15 = 20) (tsP (inB (I1 67 2) (pLn (mm I6 D) a15)) (tsP (pKd (mm I6 D) a = 7) (CI d 123 [vR (some a), vI (I6 a15 (ixN (I1 67 2))), vI (I6 67 0)] (mm I6 D) (fun x7 I7 => onR False (pR (mm I1 D) a 4) (fun a16 => tsP (pKd (mm I7 D) a16 = kInt) (tsP (inB (I1 67 2) (pLn (mm I7 D) a16)) (tsP (pKd (mm (up2 I7 a16 (ixN (I1 67 2)) x7) D) a = 7) (tsP (pKd (mm (up2 I7 a16 (ixN (I1 67 2)) x7) D) a = 7) (Q none (mm (up2 (up2 I7 a16 (ixN (I1 67 2)) x7) a 5 (((up2 I7 a16 (ixN (I1 67 2)) x7) a 5) ||| (1 <<< (I1 67 2)))) D)))))))))))))))))
 (Q none (mm I1 D)))))))))
 (Q none (mm I1 D))))))))) :
  Mt GG (d + 1) 121 [vR (some a), vI p1, vR (some 67)] (mm I D) Q := runC_m (cut := (fun _ => false)) 60 h
set_option maxRecDepth 100000 in
theorem s_Projection_has {d : Nat} {I : IM} {D : DY} {Q : Option PV → PM → Prop} (a : Nat) (p1 : Int32) (h : brP (p1 < 0)
 (Q (some (vI 0)) (mm I D))
 (tsP (pKd (mm I D) a = 7) (onR False (pR (mm I D) a 4) (fun a1 => tsP (19 ≤ pKd (mm I D) a1 ∧ pKd (mm I D) a1 < 26) (brP ((Int32.ofNat (pLn (mm I D) a1)) ≤ p1)
 (Q (some (vI 0)) (mm I D))
 (tsP (pKd (mm I D) a = 7) (brP (¬ (((I a 5) >>> p1) &&& 1) = 1)
 (Q (some (vI 0)) (mm I D))
 (Q (some (vI 1)) (mm I D))))))))) :
  Mt GG d 122 [vR (some a), vI p1] (mm I D) Q := runC_m (cut := (fun _ => false)) 18 h
set_option maxRecDepth 100000 in
theorem s_Projection_folded {d : Nat} {I : IM} {D : DY} {Q : Option PV → PM → Prop} (a : Nat) (p1 : Int32) (p2 : Int32) (h : tsP (pKd (mm I D) a = 7) (brP ((I a 0) = (0 : Int32))
 (Q (some (vI (p1 + p2))) (mm I D))
 (brP ((I a 0) = ((0 : Int32) + 1))
 (Q (some (vI (p1 + 1))) (mm I D))
 (brP ((I a 0) = (((0 : Int32) + 1) + 1))
 (CI d 39 [vI p1, vI p2] (mm I D) (fun x1 I1 => Q (some (vI x1)) (mm I1 D)))
 (brP ((I a 0) = ((((0 : Int32) + 1) + 1) + 1))
 (CI d 40 [vI p1, vI p2] (mm I D) (fun x2 I2 => Q (some (vI x2)) (mm I2 D)))
 (brP ((I a 0) = (((((0 : Int32) + 1) + 1) + 1) + 1))
 (Q (some (vI p1)) (mm I D))
 (Q (some (vI p2)) (mm I D)))))))) :
  Mt GG (d + 1) 123 [vR (some a), vI p1, vI p2] (mm I D) Q := runC_m (cut := (fun _ => false)) 7 h
set_option maxRecDepth 100000 in
theorem s_S_swap {d : Nat} {I : IM} {D : DY} {Q : Option PV → PM → Prop} (p1 : Int32) (h : CI d 110 [vI p1] (mm I D) (fun x1 I1 => brP (¬ x1 = 0)
 (tsP (inB p1 4) (tsP (inB p1 4) (brP ((dR D 74 (ixN p1)) = none)
 (Q (some (vI (-5))) (mm I1 D))
 (brP ((dR D 73 (ixN p1)) = none)
 (tsP (inB p1 4) (astP (mm I1 D) 73 (dR D 74 (ixN p1)) (tsP (inB p1 4) (onR False (dR D 74 (ixN p1)) (fun a1 => tsP (pKd (setR (setR (mm I1 D) 73 (ixN p1) (dR D 74 (ixN p1))) 74 (ixN p1) none) a1 = 7) (Q (some (vI (I1 a1 6))) (setR (setR (mm I1 D) 73 (ixN p1) (dR D 74 (ixN p1))) 74 (ixN p1) none)))))))
 (onR False (dR D 74 (ixN p1)) (fun a2 => tsP (pKd (mm I1 D) a2 = 7) (onR False (dR D 73 (ixN p1)) (fun a3 => tsP (pKd (mm I1 D) a3 = 7) (brP ((I1 a3 6) ≤ (I1 a2 6))
 (tsP (inB p1 4) (astP (mm I1 D) 73 (dR D 74 (ixN p1)) (tsP (inB p1 4) (onR False (dR D 74 (ixN p1)) (fun a4 => tsP (pKd (setR (setR (mm I1 D) 73 (ixN p1) (dR D 74 (ixN p1))) 74 (ixN p1) none) a4 = 7) (Q (some (vI (I1 a4 6))) (setR (setR (mm I1 D) 73 (ixN p1) (dR D 74 (ixN p1))) 74 (ixN p1) none)))))))
 (Q (some (vI (-5))) (mm I1 D)))))))))))
 (Q (some (vI (-1))) (mm I1 D)))) :
  Mt GG (d + 1) 124 [vR (some 45), vI p1] (mm I D) Q := runC_m (cut := (fun _ => false)) 39 h
set_option maxRecDepth 100000 in
theorem s_S_look {d : Nat} {I : IM} {D : DY} {Q : Option PV → PM → Prop} (p1 : Int32) (p2 : Int32) (p3 : Int32) (h : CI d 110 [vI p1] (mm I D) (fun x1 I1 => brP (x1 = 0)
 (Q (some (vI (-2000000000))) (mm I1 D))
 (CI d 12 [vI p2, vI 0, vI 1] (mm I1 D) (fun x2 I2 => brP (x2 = 0)
 (Q (some (vI (-2000000000))) (mm I2 D))
 (CI d 12 [vI p3, vI 0, vI 4] (mm I2 D) (fun x3 I3 => brP (¬ x3 = 0)
 (CR d 118 [vR (some 54), vI p1, vI p2] (mm I3 D) (fun x4 I4 => brP (x4 = none)
 (Q (some (vI (-2000000000))) (mm I4 D))
 (brP (p3 = (0 : Int32))
 (onR False x4 (fun a1 => tsP (pKd (mm I4 D) a1 = 7) (Q (some (vI (I4 a1 6))) (mm I4 D))))
 (brP (p3 = ((0 : Int32) + 1))
 (onR False x4 (fun a2 => tsP (pKd (mm I4 D) a2 = 7) (CI d 126 [vR (some a2)] (mm I4 D) (fun x5 I5 => Q (some (vI x5)) (mm I5 D)))))
 (brP (p3 = (((0 : Int32) + 1) + 1))
 (onR False x4 (fun a3 => tsP (pKd (mm I4 D) a3 = 7) (Q (some (vI ((I4 55 4) - (I4 a3 6)))) (mm I4 D))))
 (brP (p3 = ((((0 : Int32) + 1) + 1) + 1))
 (AI d 128 [vR (some 54), vR x4] (mm I4 D) (fun x6 I6 D1 => brP (x6 = 0)
 (Q (some (vI 0)) (mm I6 D1))
 (Q (some (vI 1)) (mm I6 D1))))
 (onR False x4 (fun a4 => tsP (pKd (mm I4 D) a4 = 7) (CI d 130 [vR (some a4)] (mm I4 D) (fun x7 I7 => Q (some (vI x7)) (mm I7 D)))))))))))
 (Q (some (vI (-2000000000))) (mm I3 D)))))))) :
  Mt GG (d + 1) 125 [vR (some 45), vI p1, vI p2, vI p3] (mm I D) Q := runC_m (cut := (fun _ => false)) 31 h
set_option maxRecDepth 100000 in
theorem s_Projection_size {d : Nat} {I : IM} {D : DY} {Q : Option PV → PM → Prop} (a : Nat) (h : tsP (pKd (mm I D) a = 7) (CI d 127 [vI (I a 5)] (mm I D) (fun x1 I1 => Q (some (vI x1)) (mm I1 D)))) :
  Mt GG (d + 1) 126 [vR (some a)] (mm I D) Q := runC_m (cut := (fun _ => false)) 4 h
set_option maxRecDepth 100000 in
theorem s_Store_isTrue {d : Nat} {I : IM} {D : DY} {Q : Option PV → PM → Prop} (p1 : Option Nat) (h : onR False p1 (fun a1 => tsP (pKd (mm I D) a1 = 7) (AR d 116 [vR (some a1)] (mm I D) (fun x1 I1 D1 => Wp GG (d + 1) 128 7 [vR (some 54), vR p1, vR x1, vI 1] [] (mm I1 D1) Q)))) :
  Mt GG (d + 1) 128 [vR (some 54), vR p1] (mm I D) Q := runC_m (cut := (fun pc => [7].contains pc)) 6 h
set_option maxRecDepth 100000 in
theorem s_Store_isTrue_7 {d : Nat} {I : IM} {D : DY} {Q : Option PV → PM → Prop} (p1 : Option Nat) (l2 : Option Nat) (l3 : Int32) (h : onR False p1 (fun a1 => tsP (pKd (mm I D) a1 = 7) (brP ((I a1 6) < l3)
 (onR False p1 (fun a2 => tsP (pKd (mm I D) a2 = 7) (CI d 129 [vR (some a2), vR l2] (mm I D) (fun x1 I1 => rtP 2 x1 (Q (some (vI x1)) (mm I1 D))))))
 (brP ((I 55 4) < l3)
 (onR False p1 (fun a3 => tsP (pKd (mm I D) a3 = 7) (CI d 129 [vR (some a3), vR l2] (mm I D) (fun x2 I2 => rtP 2 x2 (Q (some (vI x2)) (mm I2 D))))))
 (CV d 120 [vR (some 54), vR l2, vI l3] (mm I D) (fun I3 => Wp GG (d + 1) 128 7 [vR (some 54), vR p1, vR l2, vI (l3 + 1)] [] (mm I3 D) Q)))))) :
  Wp GG (d + 1) 128 7 [vR (some 54), vR p1, vR l2, vI l3] [] (mm I D) Q := runC_p (cut := (fun pc => [7].contains pc)) 16 h
set_option maxRecDepth 100000 in
theorem s_Projection_sameRows {d : Nat} {I : IM} {D : DY} {Q : Option PV → PM → Prop} (a : Nat) (p1 : Option Nat) (h : Wp GG (d + 1) 129 2 [vR (some a), vR p1, vI 0] [] (mm I D) Q) :
  Mt GG (d + 1) 129 [vR (some a), vR p1] (mm I D) Q := runC_m (cut := (fun pc => [2].contains pc)) 3 h
set_option maxRecDepth 100000 in
theorem s_Projection_sameRows_2 {d : Nat} {I : IM} {D : DY} {Q : Option PV → PM → Prop} (a : Nat) (p1 : Option Nat) (l2 : Int32) (h : tsP (pKd (mm I D) a = 7) (onR False (pR (mm I D) a 4) (fun a1 => tsP (19 ≤ pKd (mm I D) a1 ∧ pKd (mm I D) a1 < 26) (brP ((Int32.ofNat (pLn (mm I D) a1)) ≤ l2)
 (Q (some (vI 1)) (mm I D))
 (onR False p1 (fun a2 => tsP (pKd (mm I D) a2 = 7) (onR False (pR (mm I D) a2 4) (fun a3 => tsP (19 ≤ pKd (mm I D) a3 ∧ pKd (mm I D) a3 < 26) (brP ((Int32.ofNat (pLn (mm I D) a3)) ≤ l2)
 (Q (some (vI 1)) (mm I D))
 (tsP (pKd (mm I D) a = 7) (CI d 122 [vR (some a), vI l2] (mm I D) (fun x1 I1 => onR False p1 (fun a4 => tsP (pKd (mm I1 D) a4 = 7) (CI d 122 [vR (some a4), vI l2] (mm I1 D) (fun x2 I2 => brP (¬ x1 = x2)
 (Q (some (vI 0)) (mm I2 D))
 (tsP (pKd (mm I2 D) a = 7) (CI d 122 [vR (some a), vI l2] (mm I2 D) (fun x3 I3 => brP (x3 = 0)
 (Wp GG (d + 1) 129 2 [vR (some a), vR p1, vI (l2 + 1)] [] (mm I3 D) Q)
 (tsP (pKd (mm I3 D) a = 7) (onR False (pR (mm I3 D) a 4) (fun a5 => tsP (pKd (mm I3 D) a5 = 20) (tsP (inB l2 (pLn (mm I3 D) a5)) (onR False p1 (fun a6 => tsP (pKd (mm I3 D) a6 = 7) (onR False (pR (mm I3 D) a6 4) (fun a7 => tsP (pKd (mm I3 D) a7 = 20) (tsP (inB l2 (pLn (mm I3 D) a7)) (brP ((I3 a5 (ixN l2)) = (I3 a7 (ixN l2)))
 (Wp GG (d + 1) 129 2 [vR (some a), vR p1, vI (l2 + 1)] [] (mm I3 D) Q)
 (Q (some (vI 0)) (mm I3 D)))))))))))))))))))))))))))))) :
  Wp GG (d + 1) 129 2 [vR (some a), vR p1, vI l2] [] (mm I D) Q := runC_p (cut := (fun pc => [2].contains pc)) 33 h
set_option maxRecDepth 100000 in
theorem s_Projection_sum {d : Nat} {I : IM} {D : DY} {Q : Option PV → PM → Prop} (a : Nat) (h : Wp GG (d + 1) 130 4 [vR (some a), vI 0, vI 0] [] (mm I D) Q) :
  Mt GG (d + 1) 130 [vR (some a)] (mm I D) Q := runC_m (cut := (fun pc => [4].contains pc)) 5 h
set_option maxRecDepth 100000 in
theorem s_Projection_sum_4 {d : Nat} {I : IM} {D : DY} {Q : Option PV → PM → Prop} (a : Nat) (l1 : Int32) (l2 : Int32) (h : tsP (pKd (mm I D) a = 7) (onR False (pR (mm I D) a 4) (fun a1 => tsP (19 ≤ pKd (mm I D) a1 ∧ pKd (mm I D) a1 < 26) (brP ((Int32.ofNat (pLn (mm I D) a1)) ≤ l2)
 (Q (some (vI l1)) (mm I D))
 (tsP (pKd (mm I D) a = 7) (CI d 122 [vR (some a), vI l2] (mm I D) (fun x1 I1 => brP (x1 = 0)
 (Wp GG (d + 1) 130 4 [vR (some a), vI (l1 + 0), vI (l2 + 1)] [] (mm I1 D) Q)
 (tsP (pKd (mm I1 D) a = 7) (onR False (pR (mm I1 D) a 4) (fun a2 => tsP (pKd (mm I1 D) a2 = 20) (tsP (inB l2 (pLn (mm I1 D) a2)) (Wp GG (d + 1) 130 4 [vR (some a), vI (l1 + (I1 a2 (ixN l2))), vI (l2 + 1)] [] (mm I1 D) Q)))))))))))) :
  Wp GG (d + 1) 130 4 [vR (some a), vI l1, vI l2] [] (mm I D) Q := runC_p (cut := (fun pc => [4].contains pc)) 20 h
set_option maxRecDepth 100000 in
theorem s_S_row {d : Nat} {I : IM} {D : DY} {Q : Option PV → PM → Prop} (p1 : Int32) (p2 : Int32) (p3 : Int32) (h : CI d 110 [vI p1] (mm I D) (fun x1 I1 => brP (x1 = 0)
 (Q (some (vI (-2000000000))) (mm I1 D))
 (CI d 12 [vI p2, vI 0, vI 1] (mm I1 D) (fun x2 I2 => brP (x2 = 0)
 (Q (some (vI (-2000000000))) (mm I2 D))
 (CI d 12 [vI p3, vI 0, vI 8] (mm I2 D) (fun x3 I3 => brP (¬ x3 = 0)
 (CR d 118 [vR (some 54), vI p1, vI p2] (mm I3 D) (fun x4 I4 => brP (x4 = none)
 (Q (some (vI (-2000000000))) (mm I4 D))
 (onR False x4 (fun a1 => tsP (pKd (mm I4 D) a1 = 7) (CI d 122 [vR (some a1), vI p3] (mm I4 D) (fun x5 I5 => brP (x5 = 0)
 (Q (some (vI (-2000000000))) (mm I5 D))
 (onR False x4 (fun a2 => tsP (pKd (mm I5 D) a2 = 7) (onR False (pR (mm I5 D) a2 4) (fun a3 => tsP (pKd (mm I5 D) a3 = 20) (tsP (inB p3 (pLn (mm I5 D) a3)) (Q (some (vI (I5 a3 (ixN p3)))) (mm I5 D)))))))))))))
 (Q (some (vI (-2000000000))) (mm I3 D)))))))) :
  Mt GG (d + 1) 131 [vR (some 45), vI p1, vI p2, vI p3] (mm I D) Q := runC_m (cut := (fun _ => false)) 31 h
set_option maxRecDepth 100000 in
theorem s_S_policy {d : Nat} {I : IM} {D : DY} {Q : Option PV → PM → Prop} (p1 : Int32) (h : CI d 110 [vI p1] (mm I D) (fun x1 I1 => brP (¬ x1 = 0)
 (CV d 16 [vR (some 46)] (mm I1 D) (fun I2 => AR d 133 [vR (some 46)] (mm I2 D) (fun x3 I3 D1 => CI d 45 [vR (some 46)] (mm I3 D1) (fun x4 I4 => brP (x4 < 0)
 (onR False x3 (fun a1 => tsP (pKd (mm I4 D1) a1 = 6) (tsP (inB p1 4) (astP (mm (up2 I4 a1 3 (I4 55 4)) D1) 75 x3 (Q (some (vI 1)) (setR (mm (up2 I4 a1 3 (I4 55 4)) D1) 75 (ixN p1) x3))))))
 (Q (some (vI ((-100) - x4))) (mm I4 D1))))))
 (Q (some (vI (-1))) (mm I1 D)))) :
  Mt GG (d + 1) 132 [vR (some 45), vI p1] (mm I D) Q := runC_m (cut := (fun _ => false)) 30 h
set_option maxRecDepth 100000 in
theorem s_Policy_init {d : Nat} {I : IM} {D : DY} {Q : Option PV → PM → Prop} (a : Nat) (p1 : Int32) (p2 : Option Nat) (p3 : Option Nat) (h : tsP (pKd (mm I D) a = 6) (tsP (pKd (mm (up2 I a 0 p1) D) a = 6) (tsP (pKd (setR (mm (up2 I a 0 p1) D) a 1 p2) a = 6) (Q none (setR (setR (mm (up2 I a 0 p1) D) a 1 p2) a 2 p3))))) :
  Mt GG (d + 1) 134 [vR (some a), vI p1, vR p2, vR p3] (mm I D) Q := runC_m (cut := (fun _ => false)) 12 h
set_option maxRecDepth 100000 in
theorem s_S_run {d : Nat} {I : IM} {D : DY} {Q : Option PV → PM → Prop} (p1 : Int32) (p2 : Int32) (h : CI d 110 [vI p1] (mm I D) (fun x1 I1 => brP (x1 = 0)
 (Q (some (vI (-1))) (mm I1 D))
 (CI d 12 [vI p2, vI 1, vI 240] (mm I1 D) (fun x2 I2 => brP (¬ x2 = 0)
 (tsP (inB p1 4) (brP ((dR D 75 (ixN p1)) = none)
 (Q (some (vI (-5))) (mm I2 D))
 (CI d 136 [vR (some 54), vR (dR D 75 (ixN p1)), vI p2] (mm I2 D) (fun x3 I3 => Q (some (vI x3)) (mm I3 D)))))
 (Q (some (vI (-1))) (mm I2 D)))))) :
  Mt GG (d + 1) 135 [vR (some 45), vI p1, vI p2] (mm I D) Q := runC_m (cut := (fun _ => false)) 22 h
set_option maxRecDepth 100000 in
theorem s_Store_runPolicy {d : Nat} {I : IM} {D : DY} {Q : Option PV → PM → Prop} (p1 : Option Nat) (p2 : Int32) (h : Wp GG (d + 1) 136 2 [vR (some 54), vR p1, vI p2, vI 0] [] (mm I D) Q) :
  Mt GG (d + 1) 136 [vR (some 54), vR p1, vI p2] (mm I D) Q := runC_m (cut := (fun pc => [2].contains pc)) 3 h
set_option maxRecDepth 100000 in
theorem s_Store_runPolicy_2 {d : Nat} {I : IM} {D : DY} {Q : Option PV → PM → Prop} (p1 : Option Nat) (p2 : Int32) (l3 : Int32) (h : brP (p2 ≤ l3)
 (Q (some (vI l3)) (mm I D))
 (onR False p1 (fun a1 => tsP (pKd (mm I D) a1 = 6) (brP ((I 55 4) ≤ (I a1 3))
 (Q (some (vI l3)) (mm I D))
 (onR False p1 (fun a2 => tsP (pKd (mm I D) a2 = 6) (CI d 137 [vR (some 54), vR p1, vI ((I a2 3) + 1)] (mm I D) (fun x1 I1 => brP (¬ x1 = 0)
 (onR False p1 (fun a3 => tsP (pKd (mm I1 D) a3 = 6) (onR False p1 (fun a4 => tsP (pKd (mm I1 D) a4 = 6) (Wp GG (d + 1) 136 2 [vR (some 54), vR p1, vI p2, vI (l3 + 1)] [] (mm (up2 I1 a4 3 ((I1 a3 3) + 1)) D) Q)))))
 (Q (some (vI l3)) (mm I1 D)))))))))) :
  Wp GG (d + 1) 136 2 [vR (some 54), vR p1, vI p2, vI l3] [] (mm I D) Q := runC_p (cut := (fun pc => [2].contains pc)) 26 h
set_option maxRecDepth 100000 in
theorem s_Store_hasHandled {d : Nat} {I : IM} {D : DY} {Q : Option PV → PM → Prop} (p1 : Option Nat) (p2 : Int32) (h : CV d 79 [vR (some 63), vR (some 55), vI p2] (mm I D) (fun I1 => CI d 80 [vR (some 55), vI p2, vI 2] (mm I1 D) (fun x2 I2 => onR False p1 (fun a1 => tsP (pKd (mm I2 D) a1 = 6) (CI d 138 [vR (some a1), vI x2, vR (some 67)] (mm I2 D) (fun x3 I3 => brP (¬ x3 = 0)
 (onR False p1 (fun a2 => tsP (pKd (mm I3 D) a2 = 6) (onR False (pR (mm I3 D) a2 2) (fun a3 => tsP (pKd (mm I3 D) a3 = 2) (CI d 139 [vR (some a3), vR (some 67)] (mm I3 D) (fun x4 I4 => CI d 80 [vR (some 55), vI p2, vI 0] (mm I4 D) (fun x5 I5 => onR False p1 (fun a4 => tsP (pKd (mm I5 D) a4 = 6) (CI d 49 [vR (some 54), vI x5, vR (pR (mm I5 D) a4 2), vI x4] (mm I5 D) (fun x6 I6 => brP (¬ x6 = (-3))
 (brP (x6 ≤ 0)
 (onR False p1 (fun a5 => tsP (pKd (mm I6 D) a5 = 6) (onR False p1 (fun a6 => tsP (pKd (mm I6 D) a6 = 6) (Q (some (vI 1)) (mm (up2 I6 a6 5 ((I6 a5 5) + 1)) D))))))
 (onR False p1 (fun a7 => tsP (pKd (mm I6 D) a7 = 6) (onR False p1 (fun a8 => tsP (pKd (mm I6 D) a8 = 6) (Q (some (vI 1)) (mm (up2 I6 a8 4 ((I6 a7 4) + 1)) D)))))))
 (Q (some (vI 0)) (mm I6 D))))))))))))
 (Q (some (vI 1)) (mm I3 D)))))))) :
  Mt GG (d + 1) 137 [vR (some 54), vR p1, vI p2] (mm I D) Q := runC_m (cut := (fun _ => false)) 49 h
set_option maxRecDepth 100000 in
theorem s_Policy_isFor {d : Nat} {I : IM} {D : DY} {Q : Option PV → PM → Prop} (a : Nat) (p1 : Int32) (h : tsP (pKd (mm I D) a = 6) (brP (¬ (((I a 0) >>> p1) &&& 1) = 1)
 (Q (some (vI 0)) (mm I D))
 (tsP (pKd (mm I D) a = 6) (onR False (pR (mm I D) a 1) (fun a1 => tsP (pKd (mm I D) a1 = 4) (CI d 83 [vR (some a1), vR (some 67)] (mm I D) (fun x1 I1 => brP (x1 = 0)
 (Q (some (vI 0)) (mm I1 D))
 (Q (some (vI 1)) (mm I1 D))))))))) :
  Mt GG (d + 1) 138 [vR (some a), vI p1, vR (some 67)] (mm I D) Q := runC_m (cut := (fun _ => false)) 16 h
set_option maxRecDepth 100000 in
theorem s_S_led {d : Nat} {I : IM} {D : DY} {Q : Option PV → PM → Prop} (p1 : Int32) (h : CI d 12 [vI p1, vI 0, vI 6] (mm I D) (fun x1 I1 => brP (x1 = 0)
 (Q (some (vI (-1))) (mm I1 D))
 (tsP (inB p1 7) (Q (some (vI (I1 78 (ixN p1)))) (mm I1 D))))) :
  Mt GG (d + 1) 161 [vR (some 45), vI p1] (mm I D) Q := runC_m (cut := (fun _ => false)) 12 h
set_option maxRecDepth 100000 in
theorem s_S_count {d : Nat} {I : IM} {D : DY} {Q : Option PV → PM → Prop} (p1 : Int32) (h : brP (p1 = (0 : Int32))
 (Q (some (vI (I 55 4))) (mm I D))
 (brP (p1 = ((0 : Int32) + 1))
 (Q (some (vI (I 63 4))) (mm I D))
 (brP (p1 = (((0 : Int32) + 1) + 1))
 (Q (some (vI (I 46 4))) (mm I D))
 (brP (p1 = ((((0 : Int32) + 1) + 1) + 1))
 (CI d 163 [vR (some 55)] (mm I D) (fun x1 I1 => Q (some (vI x1)) (mm I1 D)))
 (brP (p1 = (((((0 : Int32) + 1) + 1) + 1) + 1))
 (CI d 164 [vR (some 54)] (mm I D) (fun x2 I2 => Q (some (vI x2)) (mm I2 D)))
 (brP (p1 = ((((((0 : Int32) + 1) + 1) + 1) + 1) + 1))
 (CI d 165 [vR (some 68)] (mm I D) (fun x3 I3 => Q (some (vI x3)) (mm I3 D)))
 (brP (p1 = (((((((0 : Int32) + 1) + 1) + 1) + 1) + 1) + 1))
 (CI d 166 [vR (some 54)] (mm I D) (fun x4 I4 => Q (some (vI x4)) (mm I4 D)))
 (brP (p1 = ((((((((0 : Int32) + 1) + 1) + 1) + 1) + 1) + 1) + 1))
 (Q (some (vI (I 54 13))) (mm I D))
 (Q (some (vI (-1))) (mm I D)))))))))) :
  Mt GG (d + 1) 162 [vR (some 45), vI p1] (mm I D) Q := runC_m (cut := (fun _ => false)) 7 h
set_option maxRecDepth 100000 in
theorem s_Store_numbersUsed {d : Nat} {I : IM} {D : DY} {Q : Option PV → PM → Prop}  (h : Wp GG d 164 4 [vR (some 54), vI 0, vI 0] [] (mm I D) Q) :
  Mt GG d 164 [vR (some 54)] (mm I D) Q := runC_m (cut := (fun pc => [4].contains pc)) 5 h
set_option maxRecDepth 100000 in
theorem s_Store_numbersUsed_4 {d : Nat} {I : IM} {D : DY} {Q : Option PV → PM → Prop} (l1 : Int32) (l2 : Int32) (h : brP ((1000 : Int32) ≤ l2)
 (Q (some (vI l1)) (mm I D))
 (tsP (inB l2 1000) (brP ((I 72 (ixN l2)) ≤ 0)
 (Wp GG d 164 4 [vR (some 54), vI (l1 + 0), vI (l2 + 1)] [] (mm I D) Q)
 (Wp GG d 164 4 [vR (some 54), vI (l1 + 1), vI (l2 + 1)] [] (mm I D) Q)))) :
  Wp GG d 164 4 [vR (some 54), vI l1, vI l2] [] (mm I D) Q := runC_p (cut := (fun pc => [4].contains pc)) 18 h
set_option maxRecDepth 100000 in
theorem s_Store_liveOnes {d : Nat} {I : IM} {D : DY} {Q : Option PV → PM → Prop}  (h : Wp GG d 166 4 [vR (some 54), vI 0, vI 0] [] (mm I D) Q) :
  Mt GG d 166 [vR (some 54)] (mm I D) Q := runC_m (cut := (fun pc => [4].contains pc)) 5 h
set_option maxRecDepth 100000 in
theorem s_Store_liveOnes_4 {d : Nat} {I : IM} {D : DY} {Q : Option PV → PM → Prop} (l1 : Int32) (l2 : Int32) (h : brP ((4 : Int32) ≤ l2)
 (Q (some (vI l1)) (mm I D))
 (tsP (inB l2 4) (brP ((dR D 73 (ixN l2)) = none)
 (Wp GG d 166 4 [vR (some 54), vI (l1 + 0), vI (l2 + 1)] [] (mm I D) Q)
 (Wp GG d 166 4 [vR (some 54), vI (l1 + 1), vI (l2 + 1)] [] (mm I D) Q)))) :
  Wp GG d 166 4 [vR (some 54), vI l1, vI l2] [] (mm I D) Q := runC_p (cut := (fun pc => [4].contains pc)) 18 h
