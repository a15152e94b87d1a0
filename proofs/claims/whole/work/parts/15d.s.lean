set_option maxRecDepth 100000 in
theorem s_M_feed {d : Nat} {I : IM} {D : DY} {Q : Option PV → PM → Prop} (p1 : Int32) (h : CI d 169 [vI p1, vI 1, vI 255] (mm I D) (fun x1 I1 => brP (¬ x1 = 0)
 (brP (¬ (I1 106 2) = 160)
 (tsP (inB (I1 106 2) 160) (Q (some (vI ((I1 106 2) + 1))) (mm (up2 (up2 I1 107 (ixN (I1 106 2)) p1) 106 2 ((I1 106 2) + 1)) D)))
 (Q (some (vI (-3))) (mm I1 D)))
 (Q (some (vI (-1))) (mm I1 D)))) :
  Mt GG (d + 1) 168 [vR (some 106), vI p1] (mm I D) Q := runC_m (cut := (fun _ => false)) 24 h
set_option maxRecDepth 100000 in
theorem s_M_in {d : Nat} {I : IM} {D : DY} {Q : Option PV → PM → Prop} (p1 : Int32) (p2 : Int32) (p3 : Int32) (h : brP (p1 < p2)
 (Q (some (vI 0)) (mm I D))
 (brP (p3 < p1)
 (Q (some (vI 0)) (mm I D))
 (Q (some (vI 1)) (mm I D)))) :
  Mt GG d 169 [vI p1, vI p2, vI p3] (mm I D) Q := runC_m (cut := (fun _ => false)) 9 h
set_option maxRecDepth 100000 in
theorem s_M_upcast {d : Nat} {I : IM} {D : DY} {Q : Option PV → PM → Prop}  (h : CV d 171 [vR (some 106)] (mm I D) (fun I1 => CI d 172 [vR (some 106), vI 0, vI 8] (mm I1 D) (fun x2 I2 => CV d 176 [vR (some 106), vI 58] (mm I2 D) (fun I3 => CV d 178 [vR (some 106), vI 70, vI 0] (mm I3 D) (fun I4 => CV d 176 [vR (some 106), vI 44] (mm I4 D) (fun I5 => CV d 178 [vR (some 106), vI 71, vI 0] (mm I5 D) (fun I6 => CI d 188 [vR (some 106)] (mm I6 D) (fun x7 I7 => brP (x7 < 0)
 (tsP (inB x2 9) (brP (¬ (I7 119 (ixN x2)) = 3)
 (tsP (inB x2 9) (CI d 189 [vI x2, vI (I7 119 (ixN x2)), vI 0] (mm I7 D) (fun x8 I8 => CV d 190 [vR (some 106), vI 70, vI x8] (mm I8 D) (fun I9 => tsP (inB x2 9) (CI d 189 [vI x2, vI (I9 119 (ixN x2)), vI 1] (mm I9 D) (fun x10 I10 => CV d 190 [vR (some 106), vI 71, vI x10] (mm I10 D) (fun I11 => tsP (inB x2 9) (tsP (inB x2 9) (tsP (inB x2 9) (Q (some (vI (((up2 I11 119 (ixN x2) ((I11 119 (ixN x2)) + 1)) 119 (ixN x2)) + 1))) (mm (up2 (up2 I11 119 (ixN x2) ((I11 119 (ixN x2)) + 1)) 106 22 ((I11 106 22) + 1)) D)))))))))))
 (Q (some (vI (-3))) (mm I7 D))))
 (Q (some (vI ((-100) - (I7 106 4)))) (mm I7 D)))))))))) :
  Mt GG (d + 1) 170 [vR (some 106)] (mm I D) Q := runC_m (cut := (fun _ => false)) 71 h
set_option maxRecDepth 100000 in
theorem s_M_beginReading {d : Nat} {I : IM} {D : DY} {Q : Option PV → PM → Prop}  (h : Q none (mm (up2 (up2 I 106 3 0) 106 4 (-1)) D)) :
  Mt GG d 171 [vR (some 106)] (mm I D) Q := runC_m (cut := (fun _ => false)) 7 h
set_option maxRecDepth 100000 in
theorem s_M_readWord {d : Nat} {I : IM} {D : DY} {Q : Option PV → PM → Prop} (p1 : Int32) (p2 : Int32) (h : brP ((I 106 4) < 0)
 (Wp GG (d + 1) 172 22 [vR (some 106), vI p1, vI p2, vI (I 106 3), vT] [] (mm (up2 I 106 5 (I 106 3)) D) Q)
 (Q (some (vI (-1))) (mm I D))) :
  Mt GG (d + 1) 172 [vR (some 106), vI p1, vI p2] (mm I D) Q := runC_m (cut := (fun pc => [22, 55].contains pc)) 11 h
set_option maxRecDepth 100000 in
theorem s_M_readWord_22 {d : Nat} {I : IM} {D : DY} {Q : Option PV → PM → Prop} (p1 : Int32) (p2 : Int32) (l3 : Int32) (h : brP ((I 106 2) ≤ l3)
 (Wp GG (d + 1) 172 55 [vR (some 106), vI p1, vI p2, vI l3, vI p1] [] (mm I D) Q)
 (tsP (inB l3 160) (CI d 169 [vI (I 107 (ixN l3)), vI 97, vI 122] (mm I D) (fun x1 I1 => brP (x1 = 0)
 (Wp GG (d + 1) 172 55 [vR (some 106), vI p1, vI p2, vI l3, vI p1] [] (mm I1 D) Q)
 (Wp GG (d + 1) 172 22 [vR (some 106), vI p1, vI p2, vI (l3 + 1), vT] [] (mm I1 D) Q))))) :
  Wp GG (d + 1) 172 22 [vR (some 106), vI p1, vI p2, vI l3, vT] [] (mm I D) Q := runC_p (cut := (fun pc => [22, 55].contains pc)) 15 h
set_option maxRecDepth 100000 in
theorem s_M_readWord_55 {d : Nat} {I : IM} {D : DY} {Q : Option PV → PM → Prop} (p1 : Int32) (p2 : Int32) (l3 : Int32) (l4 : Int32) (h : brP (p2 < l4)
 (CV d 175 [vR (some 106), vI (I 106 3)] (mm I D) (fun I1 => Q (some (vI (-1))) (mm I1 D)))
 (brP (l3 = (I 106 3))
 (Wp GG (d + 1) 172 55 [vR (some 106), vI p1, vI p2, vI l3, vI (l4 + 1)] [] (mm I D) Q)
 (CI d 173 [vR (some 106), vI l4, vI (I 106 3), vI l3] (mm I D) (fun x2 I2 => brP (¬ x2 = 0)
 (Q (some (vI (l4 - p1))) (mm (up2 I2 106 3 l3) D))
 (Wp GG (d + 1) 172 55 [vR (some 106), vI p1, vI p2, vI l3, vI (l4 + 1)] [] (mm I2 D) Q))))) :
  Wp GG (d + 1) 172 55 [vR (some 106), vI p1, vI p2, vI l3, vI l4] [] (mm I D) Q := runC_p (cut := (fun pc => [22, 55].contains pc)) 21 h
set_option maxRecDepth 100000 in
theorem s_M_isWord {d : Nat} {I : IM} {D : DY} {Q : Option PV → PM → Prop} (p1 : Int32) (p2 : Int32) (p3 : Int32) (h : CI d 174 [vR (some 106), vI p1] (mm I D) (fun x1 I1 => Wp GG (d + 1) 173 10 [vR (some 106), vI p1, vI p2, vI p3, vI x1, vI p2] [] (mm I1 D) Q)) :
  Mt GG (d + 1) 173 [vR (some 106), vI p1, vI p2, vI p3] (mm I D) Q := runC_m (cut := (fun pc => [10].contains pc)) 7 h
set_option maxRecDepth 100000 in
theorem s_M_isWord_10 {d : Nat} {I : IM} {D : DY} {Q : Option PV → PM → Prop} (p1 : Int32) (p2 : Int32) (p3 : Int32) (l4 : Int32) (l5 : Int32) (h : brP (p3 ≤ l5)
 (tsP (inB l4 163) (brP (¬ (I 108 (ixN l4)) = 32)
 (Q (some (vI 0)) (mm I D))
 (Q (some (vI 1)) (mm I D))))
 (tsP (inB l4 163) (tsP (inB l5 160) (brP ((I 108 (ixN l4)) = (I 107 (ixN l5)))
 (Wp GG (d + 1) 173 10 [vR (some 106), vI p1, vI p2, vI p3, vI (l4 + 1), vI (l5 + 1)] [] (mm I D) Q)
 (Q (some (vI 0)) (mm I D)))))) :
  Wp GG (d + 1) 173 10 [vR (some 106), vI p1, vI p2, vI p3, vI l4, vI l5] [] (mm I D) Q := runC_p (cut := (fun pc => [10].contains pc)) 16 h
set_option maxRecDepth 100000 in
theorem s_M_placeOfWord {d : Nat} {I : IM} {D : DY} {Q : Option PV → PM → Prop} (p1 : Int32) (h : Wp GG d 174 4 [vR (some 106), vI p1, vI 0, vI p1] [] (mm I D) Q) :
  Mt GG d 174 [vR (some 106), vI p1] (mm I D) Q := runC_m (cut := (fun pc => [4].contains pc)) 5 h
set_option maxRecDepth 100000 in
theorem s_M_placeOfWord_4 {d : Nat} {I : IM} {D : DY} {Q : Option PV → PM → Prop} (p1 : Int32) (l2 : Int32) (l3 : Int32) (h : brP (l3 ≤ 0)
 (Q (some (vI l2)) (mm I D))
 (tsP (inB l2 163) (brP (¬ (I 108 (ixN l2)) = 32)
 (Wp GG d 174 4 [vR (some 106), vI p1, vI (l2 + 1), vI l3] [] (mm I D) Q)
 (Wp GG d 174 4 [vR (some 106), vI p1, vI (l2 + 1), vI (l3 + (-1))] [] (mm I D) Q)))) :
  Wp GG d 174 4 [vR (some 106), vI p1, vI l2, vI l3] [] (mm I D) Q := runC_p (cut := (fun pc => [4].contains pc)) 12 h
set_option maxRecDepth 100000 in
theorem s_M_wrong {d : Nat} {I : IM} {D : DY} {Q : Option PV → PM → Prop} (p1 : Int32) (h : brP ((0 : Int32) ≤ (I 106 4))
 (Q none (mm I D))
 (Q none (mm (up2 I 106 4 p1) D))) :
  Mt GG d 175 [vR (some 106), vI p1] (mm I D) Q := runC_m (cut := (fun _ => false)) 7 h
set_option maxRecDepth 100000 in
theorem s_M_expect {d : Nat} {I : IM} {D : DY} {Q : Option PV → PM → Prop} (p1 : Int32) (h : brP ((I 106 4) < 0)
 (CI d 177 [vR (some 106)] (mm I D) (fun x1 I1 => brP (¬ x1 = p1)
 (CV d 175 [vR (some 106), vI (I1 106 3)] (mm I1 D) (fun I2 => Q none (mm I2 D)))
 (Q none (mm (up2 I1 106 3 ((I1 106 3) + 1)) D))))
 (Q none (mm I D))) :
  Mt GG (d + 1) 176 [vR (some 106), vI p1] (mm I D) Q := runC_m (cut := (fun _ => false)) 15 h
set_option maxRecDepth 100000 in
theorem s_M_here {d : Nat} {I : IM} {D : DY} {Q : Option PV → PM → Prop}  (h : brP ((I 106 2) ≤ (I 106 3))
 (Q (some (vI (-1))) (mm I D))
 (tsP (inB (I 106 3) 160) (Q (some (vI (I 107 (ixN (I 106 3))))) (mm I D)))) :
  Mt GG d 177 [vR (some 106)] (mm I D) Q := runC_m (cut := (fun _ => false)) 12 h
set_option maxRecDepth 100000 in
theorem s_M_readFormula {d : Nat} {I : IM} {D : DY} {Q : Option PV → PM → Prop} (p1 : Int32) (p2 : Int32) (h : tsP (inB p1 160) (tsP (p2 = 0 ∨ p2 = 1) (CV d 179 [vR (some 106)] (mm (up2 (up2 (up2 (up2 I 106 9 p1) 110 (ixN p1) 0) 106 10 0) 106 11 p2) D) (fun I1 => Q none (mm I1 D))))) :
  Mt GG (d + 1) 178 [vR (some 106), vI p1, vI p2] (mm I D) Q := runC_m (cut := (fun _ => false)) 18 h
set_option maxRecDepth 100000 in
theorem s_M_readCompared {d : Nat} {I : IM} {D : DY} {Q : Option PV → PM → Prop}  (h : CV d 180 [vR (some 106)] (mm I D) (fun I1 => brP ((0 : Int32) ≤ (I1 106 4))
 (Q none (mm I1 D))
 (CI d 177 [vR (some 106)] (mm I1 D) (fun x2 I2 => brP (x2 = 60)
 (CI d 177 [vR (some 106)] (mm I2 D) (fun x3 I3 => CV d 180 [vR (some 106)] (mm (up2 I3 106 3 ((I3 106 3) + 1)) D) (fun I4 => CV d 184 [vR (some 106), vI x3] (mm I4 D) (fun I5 => Q none (mm I5 D)))))
 (CI d 177 [vR (some 106)] (mm I2 D) (fun x6 I6 => brP (x6 = 61)
 (CI d 177 [vR (some 106)] (mm I6 D) (fun x7 I7 => CV d 180 [vR (some 106)] (mm (up2 I7 106 3 ((I7 106 3) + 1)) D) (fun I8 => CV d 184 [vR (some 106), vI x7] (mm I8 D) (fun I9 => Q none (mm I9 D)))))
 (CI d 177 [vR (some 106)] (mm I6 D) (fun x10 I10 => brP (x10 = 62)
 (CI d 177 [vR (some 106)] (mm I10 D) (fun x11 I11 => CV d 180 [vR (some 106)] (mm (up2 I11 106 3 ((I11 106 3) + 1)) D) (fun I12 => CV d 184 [vR (some 106), vI x11] (mm I12 D) (fun I13 => Q none (mm I13 D)))))
 (Q none (mm I10 D)))))))))) :
  Mt GG (d + 1) 179 [vR (some 106)] (mm I D) Q := runC_m (cut := (fun _ => false)) 32 h
set_option maxRecDepth 100000 in
theorem s_M_readSum {d : Nat} {I : IM} {D : DY} {Q : Option PV → PM → Prop}  (h : CV d 181 [vR (some 106)] (mm I D) (fun I1 => Wp GG (d + 1) 180 4 [vR (some 106), vT] [] (mm I1 D) Q)) :
  Mt GG (d + 1) 180 [vR (some 106)] (mm I D) Q := runC_m (cut := (fun pc => [4].contains pc)) 3 h
set_option maxRecDepth 100000 in
theorem s_M_readSum_4 {d : Nat} {I : IM} {D : DY} {Q : Option PV → PM → Prop} (w1 : PV) (h : brP ((0 : Int32) ≤ (I 106 4))
 (Q none (mm I D))
 (CI d 177 [vR (some 106)] (mm I D) (fun x1 I1 => brP (x1 = 43)
 (CI d 177 [vR (some 106)] (mm I1 D) (fun x2 I2 => CV d 181 [vR (some 106)] (mm (up2 I2 106 3 ((I2 106 3) + 1)) D) (fun I3 => CV d 184 [vR (some 106), vI x2] (mm I3 D) (fun I4 => Wp GG (d + 1) 180 4 [vR (some 106), vI x2] [] (mm I4 D) Q))))
 (CI d 177 [vR (some 106)] (mm I1 D) (fun x5 I5 => brP (¬ x5 = 45)
 (Q none (mm I5 D))
 (CI d 177 [vR (some 106)] (mm I5 D) (fun x6 I6 => CV d 181 [vR (some 106)] (mm (up2 I6 106 3 ((I6 106 3) + 1)) D) (fun I7 => CV d 184 [vR (some 106), vI x6] (mm I7 D) (fun I8 => Wp GG (d + 1) 180 4 [vR (some 106), vI x6] [] (mm I8 D) Q))))))))) :
  Wp GG (d + 1) 180 4 [vR (some 106), w1] [] (mm I D) Q := runC_p (cut := (fun pc => [4].contains pc)) 27 h
set_option maxRecDepth 100000 in
theorem s_M_readProduct {d : Nat} {I : IM} {D : DY} {Q : Option PV → PM → Prop}  (h : CV d 182 [vR (some 106)] (mm I D) (fun I1 => Wp GG (d + 1) 181 4 [vR (some 106), vT] [] (mm I1 D) Q)) :
  Mt GG (d + 1) 181 [vR (some 106)] (mm I D) Q := runC_m (cut := (fun pc => [4].contains pc)) 3 h
set_option maxRecDepth 100000 in
theorem s_M_readProduct_4 {d : Nat} {I : IM} {D : DY} {Q : Option PV → PM → Prop} (w1 : PV) (h : brP ((0 : Int32) ≤ (I 106 4))
 (Q none (mm I D))
 (CI d 177 [vR (some 106)] (mm I D) (fun x1 I1 => brP (x1 = 42)
 (CI d 177 [vR (some 106)] (mm I1 D) (fun x2 I2 => CV d 182 [vR (some 106)] (mm (up2 I2 106 3 ((I2 106 3) + 1)) D) (fun I3 => CV d 184 [vR (some 106), vI x2] (mm I3 D) (fun I4 => Wp GG (d + 1) 181 4 [vR (some 106), vI x2] [] (mm I4 D) Q))))
 (CI d 177 [vR (some 106)] (mm I1 D) (fun x5 I5 => brP (x5 = 47)
 (CI d 177 [vR (some 106)] (mm I5 D) (fun x6 I6 => CV d 182 [vR (some 106)] (mm (up2 I6 106 3 ((I6 106 3) + 1)) D) (fun I7 => CV d 184 [vR (some 106), vI x6] (mm I7 D) (fun I8 => Wp GG (d + 1) 181 4 [vR (some 106), vI x6] [] (mm I8 D) Q))))
 (CI d 177 [vR (some 106)] (mm I5 D) (fun x9 I9 => brP (¬ x9 = 37)
 (Q none (mm I9 D))
 (CI d 177 [vR (some 106)] (mm I9 D) (fun x10 I10 => CV d 182 [vR (some 106)] (mm (up2 I10 106 3 ((I10 106 3) + 1)) D) (fun I11 => CV d 184 [vR (some 106), vI x10] (mm I11 D) (fun I12 => Wp GG (d + 1) 181 4 [vR (some 106), vI x10] [] (mm I12 D) Q))))))))))) :
  Wp GG (d + 1) 181 4 [vR (some 106), w1] [] (mm I D) Q := runC_p (cut := (fun pc => [4].contains pc)) 31 h
set_option maxRecDepth 100000 in
theorem s_M_readOperand {d : Nat} {I : IM} {D : DY} {Q : Option PV → PM → Prop}  (h : brP ((I 106 4) < 0)
 (CI d 177 [vR (some 106)] (mm I D) (fun x1 I1 => CI d 169 [vI x1, vI 48, vI 57] (mm I1 D) (fun x2 I2 => brP (x2 = 0)
 (CI d 169 [vI x1, vI 97, vI 122] (mm I2 D) (fun x3 I3 => brP (x3 = 0)
 (brP (¬ x1 = 45)
 (brP (¬ x1 = 40)
 (CV d 175 [vR (some 106), vI (I3 106 3)] (mm I3 D) (fun I4 => Q none (mm I4 D)))
 (CV d 187 [vR (some 106)] (mm I3 D) (fun I5 => Q none (mm I5 D))))
 (CV d 186 [vR (some 106)] (mm I3 D) (fun I6 => CV d 182 [vR (some 106)] (mm (up2 I6 106 3 ((I6 106 3) + 1)) D) (fun I7 => brP ((I7 106 4) < 0)
 (CV d 184 [vR (some 106), vI 3] (mm (up2 I7 106 10 ((I7 106 10) - 1)) D) (fun I8 => Q none (mm I8 D)))
 (Q none (mm I7 D))))))
 (brP ((I3 106 2) ≤ ((I3 106 3) + 1))
 (CI d 185 [vR (some 106), vI x1] (mm I3 D) (fun x9 I9 => brP ((0 : Int32) ≤ x9)
 (CV d 184 [vR (some 106), vI 2] (mm I9 D) (fun I10 => CI d 185 [vR (some 106), vI x1] (mm I10 D) (fun x11 I11 => CV d 184 [vR (some 106), vI x11] (mm I11 D) (fun I12 => Q none (mm (up2 I12 106 3 ((I12 106 3) + 1)) D)))))
 (CV d 175 [vR (some 106), vI (I9 106 3)] (mm I9 D) (fun I13 => Q none (mm I13 D)))))
 (tsP (inB ((I3 106 3) + 1) 160) (CI d 169 [vI (I3 107 (ixN ((I3 106 3) + 1))), vI 97, vI 122] (mm I3 D) (fun x14 I14 => brP (¬ x14 = 0)
 (CV d 175 [vR (some 106), vI (I14 106 3)] (mm I14 D) (fun I15 => Q none (mm I15 D)))
 (CI d 185 [vR (some 106), vI x1] (mm I14 D) (fun x16 I16 => brP ((0 : Int32) ≤ x16)
 (CV d 184 [vR (some 106), vI 2] (mm I16 D) (fun I17 => CI d 185 [vR (some 106), vI x1] (mm I17 D) (fun x18 I18 => CV d 184 [vR (some 106), vI x18] (mm I18 D) (fun I19 => Q none (mm (up2 I19 106 3 ((I19 106 3) + 1)) D)))))
 (CV d 175 [vR (some 106), vI (I16 106 3)] (mm I16 D) (fun I20 => Q none (mm I20 D)))))))))))
 (CI d 183 [vR (some 106), vI 9999] (mm I2 D) (fun x21 I21 => CV d 184 [vR (some 106), vI 1] (mm I21 D) (fun I22 => CV d 184 [vR (some 106), vI x21] (mm I22 D) (fun I23 => Q none (mm I23 D))))))))
 (Q none (mm I D))) :
  Mt GG (d + 1) 182 [vR (some 106)] (mm I D) Q := runC_m (cut := (fun _ => false)) 59 h
set_option maxRecDepth 100000 in
theorem s_M_readNumber {d : Nat} {I : IM} {D : DY} {Q : Option PV → PM → Prop} (p1 : Int32) (h : brP ((I 106 4) < 0)
 (Wp GG (d + 1) 183 16 [vR (some 106), vI p1, vI (I 106 3), vI 0] [] (mm I D) Q)
 (Q (some (vI 0)) (mm I D))) :
  Mt GG (d + 1) 183 [vR (some 106), vI p1] (mm I D) Q := runC_m (cut := (fun pc => [16].contains pc)) 9 h
set_option maxRecDepth 100000 in
theorem s_M_readNumber_16 {d : Nat} {I : IM} {D : DY} {Q : Option PV → PM → Prop} (p1 : Int32) (l2 : Int32) (l3 : Int32) (h : brP ((l2 + 4) ≤ (I 106 3))
 (brP ((I 106 3) = l2)
 (CV d 175 [vR (some 106), vI l2] (mm I D) (fun I1 => Q (some (vI l3)) (mm I1 D)))
 (brP (l3 ≤ p1)
 (Q (some (vI l3)) (mm I D))
 (CV d 175 [vR (some 106), vI l2] (mm I D) (fun I2 => Q (some (vI l3)) (mm I2 D)))))
 (CI d 177 [vR (some 106)] (mm I D) (fun x3 I3 => CI d 169 [vI x3, vI 48, vI 57] (mm I3 D) (fun x4 I4 => brP (x4 = 0)
 (brP ((I4 106 3) = l2)
 (CV d 175 [vR (some 106), vI l2] (mm I4 D) (fun I5 => Q (some (vI l3)) (mm I5 D)))
 (brP (l3 ≤ p1)
 (Q (some (vI l3)) (mm I4 D))
 (CV d 175 [vR (some 106), vI l2] (mm I4 D) (fun I6 => Q (some (vI l3)) (mm I6 D)))))
 (CI d 177 [vR (some 106)] (mm I4 D) (fun x7 I7 => Wp GG (d + 1) 183 16 [vR (some 106), vI p1, vI l2, vI (((10 * l3) + x7) - 48)] [] (mm (up2 I7 106 3 ((I7 106 3) + 1)) D) Q)))))) :
  Wp GG (d + 1) 183 16 [vR (some 106), vI p1, vI l2, vI l3] [] (mm I D) Q := runC_p (cut := (fun pc => [16].contains pc)) 29 h
set_option maxRecDepth 100000 in
theorem s_M_put {d : Nat} {I : IM} {D : DY} {Q : Option PV → PM → Prop} (p1 : Int32) (h : tsP (inB (I 106 9) 160) (tsP (inB ((245 * (I 106 9)) + (I 110 (ixN (I 106 9)))) 39200) (tsP (inB (I 106 9) 160) (tsP (inB (I 106 9) 160) (Q none (mm (up2 (up2 I 109 (ixN ((245 * (I 106 9)) + (I 110 (ixN (I 106 9))))) p1) 110 (ixN (I 106 9)) ((I 110 (ixN (I 106 9))) + 1)) D)))))) :
  Mt GG d 184 [vR (some 106), vI p1] (mm I D) Q := runC_m (cut := (fun _ => false)) 24 h
set_option maxRecDepth 100000 in
theorem s_M_variable {d : Nat} {I : IM} {D : DY} {Q : Option PV → PM → Prop} (p1 : Int32) (h : brP ((I 106 11) = 0)
 (brP (¬ p1 = 97)
 (brP (¬ p1 = 98)
 (brP (¬ p1 = 115)
 (Q (some (vI (-1))) (mm I D))
 (Q (some (vI 2)) (mm I D)))
 (Q (some (vI 1)) (mm I D)))
 (Q (some (vI 0)) (mm I D)))
 (brP (¬ p1 = 111)
 (brP (¬ p1 = 107)
 (brP (¬ p1 = 104)
 (brP (¬ p1 = 112)
 (brP (¬ p1 = 118)
 (Q (some (vI (-1))) (mm I D))
 (Q (some (vI 4)) (mm I D)))
 (Q (some (vI 3)) (mm I D)))
 (Q (some (vI 2)) (mm I D)))
 (Q (some (vI 1)) (mm I D)))
 (Q (some (vI 0)) (mm I D)))) :
  Mt GG d 185 [vR (some 106), vI p1] (mm I D) Q := runC_m (cut := (fun _ => false)) 21 h
set_option maxRecDepth 100000 in
theorem s_M_opens {d : Nat} {I : IM} {D : DY} {Q : Option PV → PM → Prop}  (h : brP (¬ (I 106 10) = 6)
 (Q none (mm (up2 I 106 10 ((I 106 10) + 1)) D))
 (CV d 175 [vR (some 106), vI (I 106 3)] (mm I D) (fun I1 => Q none (mm (up2 I1 106 10 ((I1 106 10) + 1)) D)))) :
  Mt GG (d + 1) 186 [vR (some 106)] (mm I D) Q := runC_m (cut := (fun _ => false)) 15 h
set_option maxRecDepth 100000 in
theorem s_M_readBracketed {d : Nat} {I : IM} {D : DY} {Q : Option PV → PM → Prop}  (h : brP ((I 106 4) < 0)
 (CI d 177 [vR (some 106)] (mm I D) (fun x1 I1 => brP (x1 = 40)
 (CV d 186 [vR (some 106)] (mm I1 D) (fun I2 => brP ((I2 106 4) < 0)
 (CV d 179 [vR (some 106)] (mm (up2 I2 106 3 ((I2 106 3) + 1)) D) (fun I3 => CV d 176 [vR (some 106), vI 41] (mm I3 D) (fun I4 => Q none (mm (up2 I4 106 10 ((I4 106 10) - 1)) D))))
 (Q none (mm I2 D))))
 (CV d 175 [vR (some 106), vI (I1 106 3)] (mm I1 D) (fun I5 => Q none (mm I5 D)))))
 (Q none (mm I D))) :
  Mt GG (d + 1) 187 [vR (some 106)] (mm I D) Q := runC_m (cut := (fun _ => false)) 30 h
set_option maxRecDepth 100000 in
theorem s_M_endReading {d : Nat} {I : IM} {D : DY} {Q : Option PV → PM → Prop}  (h : brP ((0 : Int32) ≤ (I 106 4))
 (Q (some (vI (I 106 4))) (mm (up2 I 106 2 0) D))
 (brP ((I 106 2) ≤ (I 106 3))
 (Q (some (vI (I 106 4))) (mm (up2 I 106 2 0) D))
 (CV d 175 [vR (some 106), vI (I 106 3)] (mm I D) (fun I1 => Q (some (vI (I1 106 4))) (mm (up2 I1 106 2 0) D))))) :
  Mt GG (d + 1) 188 [vR (some 106)] (mm I D) Q := runC_m (cut := (fun _ => false)) 18 h
set_option maxRecDepth 100000 in
theorem s_M_castSlot {d : Nat} {I : IM} {D : DY} {Q : Option PV → PM → Prop} (p1 : Int32) (p2 : Int32) (p3 : Int32) (h : Q (some (vI ((2 * ((3 * p1) + p2)) + p3))) (mm I D)) :
  Mt GG d 189 [vI p1, vI p2, vI p3] (mm I D) Q := runC_m (cut := (fun _ => false)) 10 h
set_option maxRecDepth 100000 in
theorem s_M_copyFormula {d : Nat} {I : IM} {D : DY} {Q : Option PV → PM → Prop} (p1 : Int32) (p2 : Int32) (h : tsP (inB p1 160) (tsP (inB p2 160) (Wp GG d 190 14 [vR (some 106), vI p1, vI p2, vI 0] [] (mm (up2 I 110 (ixN p2) (I 110 (ixN p1))) D) Q))) :
  Mt GG d 190 [vR (some 106), vI p1, vI p2] (mm I D) Q := runC_m (cut := (fun pc => [14].contains pc)) 11 h
set_option maxRecDepth 100000 in
theorem s_M_copyFormula_14 {d : Nat} {I : IM} {D : DY} {Q : Option PV → PM → Prop} (p1 : Int32) (p2 : Int32) (l3 : Int32) (h : tsP (inB p1 160) (brP ((I 110 (ixN p1)) ≤ l3)
 (Q none (mm I D))
 (tsP (inB ((245 * p1) + l3) 39200) (tsP (inB ((245 * p2) + l3) 39200) (Wp GG d 190 14 [vR (some 106), vI p1, vI p2, vI (l3 + 1)] [] (mm (up2 I 109 (ixN ((245 * p2) + l3)) (I 109 (ixN ((245 * p1) + l3)))) D) Q))))) :
  Wp GG d 190 14 [vR (some 106), vI p1, vI p2, vI l3] [] (mm I D) Q := runC_p (cut := (fun pc => [14].contains pc)) 25 h
set_option maxRecDepth 100000 in
theorem s_M_state {d : Nat} {I : IM} {D : DY} {Q : Option PV → PM → Prop} (p1 : Int32) (p2 : Int32) (h : CI d 192 [vI p1] (mm I D) (fun x1 I1 => brP (x1 = 0)
 (Q (some (vI (-2000000000))) (mm I1 D))
 (CI d 169 [vI p2, vI 0, vI 4] (mm I1 D) (fun x2 I2 => brP (¬ x2 = 0)
 (brP (¬ p2 = 4)
 (CV d 193 [vR (some 106), vI p1] (mm I2 D) (fun I3 => tsP (inB p2 4) (Q (some (vI (I3 121 (ixN p2)))) (mm I3 D))))
 (tsP (inB p1 8) (Q (some (vI (I2 120 (ixN p1)))) (mm I2 D))))
 (Q (some (vI (-2000000000))) (mm I2 D)))))) :
  Mt GG (d + 1) 191 [vR (some 106), vI p1, vI p2] (mm I D) Q := runC_m (cut := (fun _ => false)) 19 h
set_option maxRecDepth 100000 in
theorem s_M_isStream {d : Nat} {I : IM} {D : DY} {Q : Option PV → PM → Prop} (p1 : Int32) (h : CI d 169 [vI p1, vI 0, vI 7] (mm I D) (fun x1 I1 => rtP 2 x1 (Q (some (vI x1)) (mm I1 D)))) :
  Mt GG (d + 1) 192 [vI p1] (mm I D) Q := runC_m (cut := (fun _ => false)) 5 h
set_option maxRecDepth 100000 in
theorem s_M_foldNow {d : Nat} {I : IM} {D : DY} {Q : Option PV → PM → Prop} (p1 : Int32) (h : tsP (inB p1 8) (CV d 194 [vR (some 106), vI p1, vI (I 106 14), vI (I 120 (ixN p1))] (mm I D) (fun I1 => Q none (mm I1 D)))) :
  Mt GG (d + 1) 193 [vR (some 106), vI p1] (mm I D) Q := runC_m (cut := (fun _ => false)) 10 h
set_option maxRecDepth 100000 in
theorem s_M_fold {d : Nat} {I : IM} {D : DY} {Q : Option PV → PM → Prop} (p1 : Int32) (p2 : Int32) (p3 : Int32) (h : Wp GG (d + 1) 194 3 [vR (some 106), vI p1, vI p2, vI p3, vI 0] [] (mm I D) Q) :
  Mt GG (d + 1) 194 [vR (some 106), vI p1, vI p2, vI p3] (mm I D) Q := runC_m (cut := (fun pc => [3, 26].contains pc)) 3 h
set_option maxRecDepth 100000 in
theorem s_M_fold_3 {d : Nat} {I : IM} {D : DY} {Q : Option PV → PM → Prop} (p1 : Int32) (p2 : Int32) (p3 : Int32) (l4 : Int32) (h : brP ((4 : Int32) ≤ l4)
 (Wp GG (d + 1) 194 26 [vR (some 106), vI p1, vI p2, vI p3, vI 1] [] (mm I D) Q)
 (tsP (inB l4 4) (Wp GG (d + 1) 194 3 [vR (some 106), vI p1, vI p2, vI p3, vI (l4 + 1)] [] (mm (up2 I 121 (ixN l4) 0) D) Q))) :
  Wp GG (d + 1) 194 3 [vR (some 106), vI p1, vI p2, vI p3, vI l4] [] (mm I D) Q := runC_p (cut := (fun pc => [3, 26].contains pc)) 11 h
set_option maxRecDepth 100000 in
theorem s_M_fold_26 {d : Nat} {I : IM} {D : DY} {Q : Option PV → PM → Prop} (p1 : Int32) (p2 : Int32) (p3 : Int32) (l4 : Int32) (h : brP (p2 < l4)
 (Q none (mm I D))
 (tsP (inB l4 241) (brP (¬ (I 113 (ixN l4)) = p1)
 (Wp GG (d + 1) 194 26 [vR (some 106), vI p1, vI p2, vI p3, vI (l4 + 1)] [] (mm I D) Q)
 (tsP (inB l4 241) (brP ((I 114 (ixN l4)) ≤ p3)
 (CV d 195 [vR (some 106), vI l4] (mm I D) (fun I1 => tsP (inB l4 241) (CV d 198 [vR (some 106), vI (I1 115 (ixN l4)), vI (I1 106 25)] (mm I1 D) (fun I2 => Wp GG (d + 1) 194 26 [vR (some 106), vI p1, vI p2, vI p3, vI (l4 + 1)] [] (mm I2 D) Q))))
 (Wp GG (d + 1) 194 26 [vR (some 106), vI p1, vI p2, vI p3, vI (l4 + 1)] [] (mm I D) Q)))))) :
  Wp GG (d + 1) 194 26 [vR (some 106), vI p1, vI p2, vI p3, vI l4] [] (mm I D) Q := runC_p (cut := (fun pc => [3, 26].contains pc)) 29 h
set_option maxRecDepth 100000 in
theorem s_M_read {d : Nat} {I : IM} {D : DY} {Q : Option PV → PM → Prop} (p1 : Int32) (h : tsP (inB p1 241) (tsP (inB p1 241) (tsP (inB p1 241) (Wp GG (d + 1) 195 29 [vR (some 106), vI p1, vI ((I 116 (ixN p1)) - 1), vT, vT] [] (mm (up2 (up2 I 106 25 (I 117 (ixN p1))) 106 26 (I 118 (ixN p1))) D) Q)))) :
  Mt GG (d + 1) 195 [vR (some 106), vI p1] (mm I D) Q := runC_m (cut := (fun pc => [29].contains pc)) 20 h
set_option maxRecDepth 100000 in
theorem s_M_read_29 {d : Nat} {I : IM} {D : DY} {Q : Option PV → PM → Prop} (p1 : Int32) (l2 : Int32) (w3 : PV) (w4 : PV) (h : tsP (inB p1 241) (tsP (inB (I 115 (ixN p1)) 9) (brP ((I 119 (ixN (I 115 (ixN p1)))) ≤ l2)
 (Q none (mm I D))
 (tsP (inB p1 241) (tsP (inB p1 241) (CI d 189 [vI (I 115 (ixN p1)), vI l2, vI 0] (mm (up2 (up2 (up2 I 112 0 (I 106 25)) 112 1 (I 106 26)) 112 2 (I 113 (ixN p1))) D) (fun x1 I1 => CI d 196 [vR (some 106), vI x1] (mm I1 D) (fun x2 I2 => tsP (inB p1 241) (CI d 189 [vI (I2 115 (ixN p1)), vI l2, vI 1] (mm (up2 (up2 I2 112 0 (I2 106 25)) 112 1 (I2 106 26)) D) (fun x3 I3 => CI d 196 [vR (some 106), vI x3] (mm I3 D) (fun x4 I4 => Wp GG (d + 1) 195 29 [vR (some 106), vI p1, vI (l2 + 1), vI x2, vI x4] [] (mm (up2 (up2 I4 106 25 x2) 106 26 x4) D) Q))))))))))) :
  Wp GG (d + 1) 195 29 [vR (some 106), vI p1, vI l2, w3, w4] [] (mm I D) Q := runC_p (cut := (fun pc => [29].contains pc)) 70 h
set_option maxRecDepth 100000 in
theorem s_M_worked {d : Nat} {I : IM} {D : DY} {Q : Option PV → PM → Prop} (p1 : Int32) (h : tsP (inB p1 160) (Wp GG (d + 1) 196 18 [vR (some 106), vI p1, vI 0, vI (245 * p1), vI ((245 * p1) + (I 110 (ixN p1))), vT] [] (mm I D) Q)) :
  Mt GG (d + 1) 196 [vR (some 106), vI p1] (mm I D) Q := runC_m (cut := (fun pc => [18, 47, 67, 88, 114, 126, 140].contains pc)) 14 h
set_option maxRecDepth 100000 in
theorem s_M_worked_18 {d : Nat} {I : IM} {D : DY} {Q : Option PV → PM → Prop} (p1 : Int32) (l2 : Int32) (l3 : Int32) (l4 : Int32) (w5 : PV) (h : brP (l4 ≤ l3)
 (Q (some (vI (I 111 0))) (mm I D))
 (tsP (inB l3 39200) (brP ((I 109 (ixN l3)) = 1)
 (Wp GG (d + 1) 196 47 [vR (some 106), vI p1, vI l2, vI (l3 + 1), vI l4, vI (I 109 (ixN l3))] [] (mm I D) Q)
 (brP (¬ (I 109 (ixN l3)) = 2)
 (Wp GG (d + 1) 196 88 [vR (some 106), vI p1, vI l2, vI (l3 + 1), vI l4, vI (I 109 (ixN l3))] [] (mm I D) Q)
 (Wp GG (d + 1) 196 47 [vR (some 106), vI p1, vI l2, vI (l3 + 1), vI l4, vI (I 109 (ixN l3))] [] (mm I D) Q))))) :
  Wp GG (d + 1) 196 18 [vR (some 106), vI p1, vI l2, vI l3, vI l4, w5] [] (mm I D) Q := runC_p (cut := (fun pc => [18, 47, 67, 88, 114, 126, 140].contains pc)) 16 h
set_option maxRecDepth 100000 in
theorem s_M_worked_47 {d : Nat} {I : IM} {D : DY} {Q : Option PV → PM → Prop} (p1 : Int32) (l2 : Int32) (l3 : Int32) (l4 : Int32) (l5 : Int32) (h : brP (¬ l5 = 1)
 (Wp GG (d + 1) 196 67 [vR (some 106), vI p1, vI l2, vI l3, vI l4, vI l5] [vI l2, vR (some 111)] (mm I D) Q)
 (tsP (inB l3 39200) (tsP (inB l2 170) (Wp GG (d + 1) 196 18 [vR (some 106), vI p1, vI (l2 + 1), vI (l3 + 1), vI l4, vI l5] [] (mm (up2 I 111 (ixN l2) (I 109 (ixN l3))) D) Q)))) :
  Wp GG (d + 1) 196 47 [vR (some 106), vI p1, vI l2, vI l3, vI l4, vI l5] [] (mm I D) Q := runC_p (cut := (fun pc => [18, 47, 67, 88, 114, 126, 140].contains pc)) 17 h
set_option maxRecDepth 100000 in
theorem s_M_worked_67 {d : Nat} {I : IM} {D : DY} {Q : Option PV → PM → Prop} (p1 : Int32) (l2 : Int32) (l3 : Int32) (l4 : Int32) (l5 : Int32) (t1 : Int32) (h : tsP (inB l3 39200) (tsP (inB (I 109 (ixN l3)) 5) (tsP (inB t1 170) (Wp GG (d + 1) 196 18 [vR (some 106), vI p1, vI (l2 + 1), vI (l3 + 1), vI l4, vI l5] [] (mm (up2 I 111 (ixN t1) (I 112 (ixN (I 109 (ixN l3))))) D) Q)))) :
  Wp GG (d + 1) 196 67 [vR (some 106), vI p1, vI l2, vI l3, vI l4, vI l5] [vI t1, vR (some 111)] (mm I D) Q := runC_p (cut := (fun pc => [18, 47, 67, 88, 114, 126, 140].contains pc)) 13 h
set_option maxRecDepth 100000 in
theorem s_M_worked_88 {d : Nat} {I : IM} {D : DY} {Q : Option PV → PM → Prop} (p1 : Int32) (l2 : Int32) (l3 : Int32) (l4 : Int32) (l5 : Int32) (h : brP (¬ l5 = 3)
 (Wp GG (d + 1) 196 114 [vR (some 106), vI p1, vI l2, vI l3, vI l4, vI l5] [] (mm I D) Q)
 (tsP (inB (l2 - 1) 170) (tsP (inB (l2 - 1) 170) (Wp GG (d + 1) 196 18 [vR (some 106), vI p1, vI l2, vI l3, vI l4, vI l5] [] (mm (up2 I 111 (ixN (l2 - 1)) (-(I 111 (ixN (l2 - 1))))) D) Q)))) :
  Wp GG (d + 1) 196 88 [vR (some 106), vI p1, vI l2, vI l3, vI l4, vI l5] [] (mm I D) Q := runC_p (cut := (fun pc => [18, 47, 67, 88, 114, 126, 140].contains pc)) 19 h
set_option maxRecDepth 100000 in
theorem s_M_worked_114 {d : Nat} {I : IM} {D : DY} {Q : Option PV → PM → Prop} (p1 : Int32) (l2 : Int32) (l3 : Int32) (l4 : Int32) (l5 : Int32) (h : Wp GG (d + 1) 196 126 [vR (some 106), vI p1, vI (l2 + (-1)), vI l3, vI l4, vI l5] [vI l5, vI ((l2 + (-1)) - 1), vR (some 111)] (mm I D) Q) :
  Wp GG (d + 1) 196 114 [vR (some 106), vI p1, vI l2, vI l3, vI l4, vI l5] [] (mm I D) Q := runC_p (cut := (fun pc => [18, 47, 67, 88, 114, 126, 140].contains pc)) 8 h
set_option maxRecDepth 100000 in
theorem s_M_worked_126 {d : Nat} {I : IM} {D : DY} {Q : Option PV → PM → Prop} (p1 : Int32) (l2 : Int32) (l3 : Int32) (l4 : Int32) (l5 : Int32) (t1 : Int32) (t2 : Int32) (h : tsP (inB (l2 - 1) 170) (tsP (inB l2 170) (Wp GG (d + 1) 196 140 [vR (some 106), vI p1, vI l2, vI l3, vI l4, vI l5] [vI (I 111 (ixN l2)), vI (I 111 (ixN (l2 - 1))), vI t2, vI t1, vR (some 111)] (mm I D) Q))) :
  Wp GG (d + 1) 196 126 [vR (some 106), vI p1, vI l2, vI l3, vI l4, vI l5] [vI t2, vI t1, vR (some 111)] (mm I D) Q := runC_p (cut := (fun pc => [18, 47, 67, 88, 114, 126, 140].contains pc)) 11 h
set_option maxRecDepth 100000 in
theorem s_M_worked_140 {d : Nat} {I : IM} {D : DY} {Q : Option PV → PM → Prop} (p1 : Int32) (l2 : Int32) (l3 : Int32) (l4 : Int32) (l5 : Int32) (t1 : Int32) (t2 : Int32) (t3 : Int32) (t4 : Int32) (h : CI d 197 [vI t2, vI t3, vI t4] (mm I D) (fun x1 I1 => tsP (inB t1 170) (Wp GG (d + 1) 196 18 [vR (some 106), vI p1, vI l2, vI l3, vI l4, vI l5] [] (mm (up2 I1 111 (ixN t1) x1) D) Q))) :
  Wp GG (d + 1) 196 140 [vR (some 106), vI p1, vI l2, vI l3, vI l4, vI l5] [vI t4, vI t3, vI t2, vI t1, vR (some 111)] (mm I D) Q := runC_p (cut := (fun pc => [18, 47, 67, 88, 114, 126, 140].contains pc)) 4 h
set_option maxRecDepth 100000 in
theorem s_M_joined {d : Nat} {I : IM} {D : DY} {Q : Option PV → PM → Prop} (p1 : Int32) (p2 : Int32) (p3 : Int32) (h : brP (p1 = (37 : Int32))
 (brP (¬ p3 = 0)
 (tsP (¬ p3 = 0) (Q (some (vI (p2 - p2 / p3 * p3))) (mm I D)))
 (Q (some (vI 0)) (mm I D)))
 (brP (p1 = ((37 : Int32) + 1))
 (brP (p2 ≤ p3)
 (Q (some (vI 0)) (mm I D))
 (Q (some (vI 1)) (mm I D)))
 (brP (p1 = (((37 : Int32) + 1) + 1))
 (brP (p2 ≤ p3)
 (Q (some (vI 0)) (mm I D))
 (Q (some (vI 1)) (mm I D)))
 (brP (p1 = ((((37 : Int32) + 1) + 1) + 1))
 (brP (p2 ≤ p3)
 (Q (some (vI 0)) (mm I D))
 (Q (some (vI 1)) (mm I D)))
 (brP (p1 = (((((37 : Int32) + 1) + 1) + 1) + 1))
 (brP (p2 ≤ p3)
 (Q (some (vI 0)) (mm I D))
 (Q (some (vI 1)) (mm I D)))
 (brP (p1 = ((((((37 : Int32) + 1) + 1) + 1) + 1) + 1))
 (Q (some (vI (p2 * p3))) (mm I D))
 (brP (p1 = (((((((37 : Int32) + 1) + 1) + 1) + 1) + 1) + 1))
 (Q (some (vI (p2 + p3))) (mm I D))
 (brP (p1 = ((((((((37 : Int32) + 1) + 1) + 1) + 1) + 1) + 1) + 1))
 (brP (p2 ≤ p3)
 (Q (some (vI 0)) (mm I D))
 (Q (some (vI 1)) (mm I D)))
 (brP (p1 = (((((((((37 : Int32) + 1) + 1) + 1) + 1) + 1) + 1) + 1) + 1))
 (Q (some (vI (p2 - p3))) (mm I D))
 (brP (p1 = ((((((((((37 : Int32) + 1) + 1) + 1) + 1) + 1) + 1) + 1) + 1) + 1))
 (brP (p2 ≤ p3)
 (Q (some (vI 0)) (mm I D))
 (Q (some (vI 1)) (mm I D)))
 (brP (p1 = (((((((((((37 : Int32) + 1) + 1) + 1) + 1) + 1) + 1) + 1) + 1) + 1) + 1))
 (brP (¬ p3 = 0)
 (tsP (¬ p3 = 0) (Q (some (vI (p2 / p3))) (mm I D)))
 (Q (some (vI 0)) (mm I D)))
 (brP (p1 = ((((((((((((37 : Int32) + 1) + 1) + 1) + 1) + 1) + 1) + 1) + 1) + 1) + 1) + 1))
 (brP (p2 ≤ p3)
 (Q (some (vI 0)) (mm I D))
 (Q (some (vI 1)) (mm I D)))
 (brP (p1 = (((((((((((((37 : Int32) + 1) + 1) + 1) + 1) + 1) + 1) + 1) + 1) + 1) + 1) + 1) + 1))
 (brP (p2 ≤ p3)
 (Q (some (vI 0)) (mm I D))
 (Q (some (vI 1)) (mm I D)))
 (brP (p1 = ((((((((((((((37 : Int32) + 1) + 1) + 1) + 1) + 1) + 1) + 1) + 1) + 1) + 1) + 1) + 1) + 1))
 (brP (p2 ≤ p3)
 (Q (some (vI 0)) (mm I D))
 (Q (some (vI 1)) (mm I D)))
 (brP (p1 = (((((((((((((((37 : Int32) + 1) + 1) + 1) + 1) + 1) + 1) + 1) + 1) + 1) + 1) + 1) + 1) + 1) + 1))
 (brP (p2 ≤ p3)
 (Q (some (vI 0)) (mm I D))
 (Q (some (vI 1)) (mm I D)))
 (brP (p1 = ((((((((((((((((37 : Int32) + 1) + 1) + 1) + 1) + 1) + 1) + 1) + 1) + 1) + 1) + 1) + 1) + 1) + 1) + 1))
 (brP (p2 ≤ p3)
 (Q (some (vI 0)) (mm I D))
 (Q (some (vI 1)) (mm I D)))
 (brP (p1 = (((((((((((((((((37 : Int32) + 1) + 1) + 1) + 1) + 1) + 1) + 1) + 1) + 1) + 1) + 1) + 1) + 1) + 1) + 1) + 1))
 (brP (p2 ≤ p3)
 (Q (some (vI 0)) (mm I D))
 (Q (some (vI 1)) (mm I D)))
 (brP (p1 = ((((((((((((((((((37 : Int32) + 1) + 1) + 1) + 1) + 1) + 1) + 1) + 1) + 1) + 1) + 1) + 1) + 1) + 1) + 1) + 1) + 1))
 (brP (p2 ≤ p3)
 (Q (some (vI 0)) (mm I D))
 (Q (some (vI 1)) (mm I D)))
 (brP (p1 = (((((((((((((((((((37 : Int32) + 1) + 1) + 1) + 1) + 1) + 1) + 1) + 1) + 1) + 1) + 1) + 1) + 1) + 1) + 1) + 1) + 1) + 1))
 (brP (p2 ≤ p3)
 (Q (some (vI 0)) (mm I D))
 (Q (some (vI 1)) (mm I D)))
 (brP (p1 = ((((((((((((((((((((37 : Int32) + 1) + 1) + 1) + 1) + 1) + 1) + 1) + 1) + 1) + 1) + 1) + 1) + 1) + 1) + 1) + 1) + 1) + 1) + 1))
 (brP (p2 ≤ p3)
 (Q (some (vI 0)) (mm I D))
 (Q (some (vI 1)) (mm I D)))
 (brP (p1 = (((((((((((((((((((((37 : Int32) + 1) + 1) + 1) + 1) + 1) + 1) + 1) + 1) + 1) + 1) + 1) + 1) + 1) + 1) + 1) + 1) + 1) + 1) + 1) + 1))
 (brP (p2 ≤ p3)
 (Q (some (vI 0)) (mm I D))
 (Q (some (vI 1)) (mm I D)))
 (brP (p1 = ((((((((((((((((((((((37 : Int32) + 1) + 1) + 1) + 1) + 1) + 1) + 1) + 1) + 1) + 1) + 1) + 1) + 1) + 1) + 1) + 1) + 1) + 1) + 1) + 1) + 1))
 (brP (p2 ≤ p3)
 (Q (some (vI 0)) (mm I D))
 (Q (some (vI 1)) (mm I D)))
 (brP (p1 = (((((((((((((((((((((((37 : Int32) + 1) + 1) + 1) + 1) + 1) + 1) + 1) + 1) + 1) + 1) + 1) + 1) + 1) + 1) + 1) + 1) + 1) + 1) + 1) + 1) + 1) + 1))
 (brP (p2 ≤ p3)
 (Q (some (vI 0)) (mm I D))
 (Q (some (vI 1)) (mm I D)))
 (brP (p1 = ((((((((((((((((((((((((37 : Int32) + 1) + 1) + 1) + 1) + 1) + 1) + 1) + 1) + 1) + 1) + 1) + 1) + 1) + 1) + 1) + 1) + 1) + 1) + 1) + 1) + 1) + 1) + 1))
 (brP (p3 ≤ p2)
 (Q (some (vI 0)) (mm I D))
 (Q (some (vI 1)) (mm I D)))
 (brP (p1 = (((((((((((((((((((((((((37 : Int32) + 1) + 1) + 1) + 1) + 1) + 1) + 1) + 1) + 1) + 1) + 1) + 1) + 1) + 1) + 1) + 1) + 1) + 1) + 1) + 1) + 1) + 1) + 1) + 1))
 (brP (¬ p2 = p3)
 (Q (some (vI 0)) (mm I D))
 (Q (some (vI 1)) (mm I D)))
 (brP (p2 ≤ p3)
 (Q (some (vI 0)) (mm I D))
 (Q (some (vI 1)) (mm I D)))))))))))))))))))))))))))) :
  Mt GG d 197 [vI p1, vI p2, vI p3] (mm I D) Q := runC_m (cut := (fun _ => false)) 8 h
set_option maxRecDepth 100000 in
theorem s_M_change {d : Nat} {I : IM} {D : DY} {Q : Option PV → PM → Prop} (p1 : Int32) (p2 : Int32) (h : brP (p1 = (0 : Int32))
 (Q none (mm (up2 (up2 I 121 0 1) 121 3 p2) D))
 (brP (p1 = ((0 : Int32) + 1))
 (Q none (mm (up2 I 121 1 ((I 121 1) + p2)) D))
 (brP (p1 = (((0 : Int32) + 1) + 1))
 (Q none (mm (up2 I 121 1 ((I 121 1) - p2)) D))
 (brP (p1 = ((((0 : Int32) + 1) + 1) + 1))
 (Q none (mm (up2 I 121 2 ((I 121 2) + p2)) D))
 (brP (p1 = (((((0 : Int32) + 1) + 1) + 1) + 1))
 (Q none (mm (up2 I 121 2 ((I 121 2) - p2)) D))
 (brP (p1 = ((((((0 : Int32) + 1) + 1) + 1) + 1) + 1))
 (Q none (mm (up2 I 121 3 p2) D))
 (brP (p1 = (((((((0 : Int32) + 1) + 1) + 1) + 1) + 1) + 1))
 (Q none (mm (up2 I 121 1 ((I 121 1) - p2)) D))
 (brP (p1 = ((((((((0 : Int32) + 1) + 1) + 1) + 1) + 1) + 1) + 1))
 (Q none (mm (up2 I 121 1 ((I 121 1) + p2)) D))
 (Q none (mm (up2 I 121 0 2) D)))))))))) :
  Mt GG d 198 [vR (some 106), vI p1, vI p2] (mm I D) Q := runC_m (cut := (fun _ => false)) 14 h
set_option maxRecDepth 100000 in
theorem s_M_at {d : Nat} {I : IM} {D : DY} {Q : Option PV → PM → Prop} (p1 : Int32) (p2 : Int32) (p3 : Int32) (h : CI d 200 [vR (some 106), vI p1, vI p2] (mm I D) (fun x1 I1 => brP (x1 = 0)
 (Q (some (vI (-2000000000))) (mm I1 D))
 (CI d 169 [vI p3, vI 0, vI 3] (mm I1 D) (fun x2 I2 => brP (¬ x2 = 0)
 (CV d 194 [vR (some 106), vI p1, vI (I2 106 14), vI p2] (mm I2 D) (fun I3 => tsP (inB p3 4) (Q (some (vI (I3 121 (ixN p3)))) (mm I3 D))))
 (Q (some (vI (-2000000000))) (mm I2 D)))))) :
  Mt GG (d + 1) 199 [vR (some 106), vI p1, vI p2, vI p3] (mm I D) Q := runC_m (cut := (fun _ => false)) 21 h
set_option maxRecDepth 100000 in
theorem s_M_isVersion {d : Nat} {I : IM} {D : DY} {Q : Option PV → PM → Prop} (p1 : Int32) (p2 : Int32) (h : CI d 192 [vI p1] (mm I D) (fun x1 I1 => brP (x1 = 0)
 (Q (some (vI 0)) (mm I1 D))
 (tsP (inB p1 8) (CI d 169 [vI p2, vI 0, vI (I1 120 (ixN p1))] (mm I1 D) (fun x2 I2 => brP (x2 = 0)
 (Q (some (vI 0)) (mm I2 D))
 (Q (some (vI 1)) (mm I2 D))))))) :
  Mt GG (d + 1) 200 [vR (some 106), vI p1, vI p2] (mm I D) Q := runC_m (cut := (fun _ => false)) 14 h
set_option maxRecDepth 100000 in
theorem s_M_steps {d : Nat} {I : IM} {D : DY} {Q : Option PV → PM → Prop} (p1 : Int32) (p2 : Int32) (h : CI d 200 [vR (some 106), vI p1, vI p2] (mm I D) (fun x1 I1 => brP (¬ x1 = 0)
 (Wp GG (d + 1) 201 16 [vR (some 106), vI p1, vI p2, vI 0, vI 0, vT] [] (mm I1 D) Q)
 (Q (some (vI (-1))) (mm I1 D)))) :
  Mt GG (d + 1) 201 [vR (some 106), vI p1, vI p2] (mm I D) Q := runC_m (cut := (fun pc => [16].contains pc)) 10 h
set_option maxRecDepth 100000 in
theorem s_M_steps_16 {d : Nat} {I : IM} {D : DY} {Q : Option PV → PM → Prop} (p1 : Int32) (p2 : Int32) (l3 : Int32) (l4 : Int32) (w5 : PV) (h : tsP (inB p1 8) (brP ((I 122 (ixN p1)) ≤ l4)
 (Q (some (vI (p2 - l3))) (mm I D))
 (tsP (inB ((4 * p1) + l4) 32) (tsP (inB ((4 * p1) + l4) 32) (brP (¬ (I 124 (ixN ((4 * p1) + l4))) = (I 106 22))
 (Wp GG (d + 1) 201 16 [vR (some 106), vI p1, vI p2, vI l3, vI (l4 + 1), vI (I 123 (ixN ((4 * p1) + l4)))] [] (mm I D) Q)
 (brP (p2 < (I 123 (ixN ((4 * p1) + l4))))
 (Wp GG (d + 1) 201 16 [vR (some 106), vI p1, vI p2, vI l3, vI (l4 + 1), vI (I 123 (ixN ((4 * p1) + l4)))] [] (mm I D) Q)
 (CI d 39 [vI l3, vI (I 123 (ixN ((4 * p1) + l4)))] (mm I D) (fun x1 I1 => Wp GG (d + 1) 201 16 [vR (some 106), vI p1, vI p2, vI x1, vI (l4 + 1), vI (I 123 (ixN ((4 * p1) + l4)))] [] (mm I1 D) Q)))))))) :
  Wp GG (d + 1) 201 16 [vR (some 106), vI p1, vI p2, vI l3, vI l4, w5] [] (mm I D) Q := runC_p (cut := (fun pc => [16].contains pc)) 36 h
set_option maxRecDepth 100000 in
theorem s_M_snap {d : Nat} {I : IM} {D : DY} {Q : Option PV → PM → Prop} (p1 : Int32) (h : CI d 192 [vI p1] (mm I D) (fun x1 I1 => brP (¬ x1 = 0)
 (CV d 203 [vR (some 106), vI p1] (mm I1 D) (fun I2 => tsP (inB p1 8) (Q (some (vI (I2 120 (ixN p1)))) (mm I2 D))))
 (Q (some (vI (-1))) (mm I1 D)))) :
  Mt GG (d + 1) 202 [vR (some 106), vI p1] (mm I D) Q := runC_m (cut := (fun _ => false)) 11 h
set_option maxRecDepth 100000 in
theorem s_M_takeSnap {d : Nat} {I : IM} {D : DY} {Q : Option PV → PM → Prop} (p1 : Int32) (h : tsP (inB p1 8) (brP (¬ (I 122 (ixN p1)) = 4)
 (tsP (inB p1 8) (tsP (inB p1 8) (tsP (inB ((4 * p1) + (I 122 (ixN p1))) 32) (tsP (inB p1 8) (tsP (inB ((4 * p1) + (I 122 (ixN p1))) 32) (tsP (inB p1 8) (tsP (inB p1 8) (Q none (mm (up2 (up2 (up2 I 123 (ixN ((4 * p1) + (I 122 (ixN p1)))) (I 120 (ixN p1))) 124 (ixN ((4 * p1) + (I 122 (ixN p1)))) (I 106 22)) 122 (ixN p1) ((I 122 (ixN p1)) + 1)) D)))))))))
 (Wp GG d 203 16 [vR (some 106), vI p1, vI (4 * p1), vI 1] [] (mm I D) Q))) :
  Mt GG d 203 [vR (some 106), vI p1] (mm I D) Q := runC_m (cut := (fun pc => [16].contains pc)) 43 h
set_option maxRecDepth 100000 in
theorem s_M_takeSnap_16 {d : Nat} {I : IM} {D : DY} {Q : Option PV → PM → Prop} (p1 : Int32) (l2 : Int32) (l3 : Int32) (h : brP ((4 : Int32) ≤ l3)
 (tsP (inB p1 8) (tsP (inB p1 8) (tsP (inB p1 8) (tsP (inB p1 8) (tsP (inB (l2 + ((up2 I 122 (ixN p1) ((I 122 (ixN p1)) - 1)) 122 (ixN p1))) 32) (tsP (inB p1 8) (tsP (inB (l2 + ((up2 I 122 (ixN p1) ((I 122 (ixN p1)) - 1)) 122 (ixN p1))) 32) (tsP (inB p1 8) (tsP (inB p1 8) (Q none (mm (up2 (up2 (up2 (up2 I 122 (ixN p1) ((I 122 (ixN p1)) - 1)) 123 (ixN (l2 + ((up2 I 122 (ixN p1) ((I 122 (ixN p1)) - 1)) 122 (ixN p1)))) (I 120 (ixN p1))) 124 (ixN (l2 + ((up2 I 122 (ixN p1) ((I 122 (ixN p1)) - 1)) 122 (ixN p1)))) (I 106 22)) 122 (ixN p1) (((up2 I 122 (ixN p1) ((I 122 (ixN p1)) - 1)) 122 (ixN p1)) + 1)) D)))))))))))
 (tsP (inB (l2 + l3) 32) (tsP (inB ((l2 + l3) - 1) 32) (tsP (inB (l2 + l3) 32) (tsP (inB ((l2 + l3) - 1) 32) (Wp GG d 203 16 [vR (some 106), vI p1, vI l2, vI (l3 + 1)] [] (mm (up2 (up2 I 123 (ixN ((l2 + l3) - 1)) (I 123 (ixN (l2 + l3)))) 124 (ixN ((l2 + l3) - 1)) (I 124 (ixN (l2 + l3)))) D) Q)))))) :
  Wp GG d 203 16 [vR (some 106), vI p1, vI l2, vI l3] [] (mm I D) Q := runC_p (cut := (fun pc => [16].contains pc)) 44 h
set_option maxRecDepth 100000 in
theorem s_M_snaps {d : Nat} {I : IM} {D : DY} {Q : Option PV → PM → Prop} (p1 : Int32) (p2 : Int32) (h : CI d 192 [vI p1] (mm I D) (fun x1 I1 => brP (x1 = 0)
 (Q (some (vI (-1))) (mm I1 D))
 (CI d 169 [vI p2, vI 0, vI 1] (mm I1 D) (fun x2 I2 => brP (¬ x2 = 0)
 (Wp GG (d + 1) 204 23 [vR (some 106), vI p1, vI p2, vI 0, vI 0] [] (mm I2 D) Q)
 (Q (some (vI (-1))) (mm I2 D)))))) :
  Mt GG (d + 1) 204 [vR (some 106), vI p1, vI p2] (mm I D) Q := runC_m (cut := (fun pc => [23].contains pc)) 13 h
set_option maxRecDepth 100000 in
theorem s_M_snaps_23 {d : Nat} {I : IM} {D : DY} {Q : Option PV → PM → Prop} (p1 : Int32) (p2 : Int32) (l3 : Int32) (l4 : Int32) (h : tsP (inB p1 8) (brP ((I 122 (ixN p1)) ≤ l4)
 (Q (some (vI l3)) (mm I D))
 (brP (p2 = 0)
 (Wp GG (d + 1) 204 23 [vR (some 106), vI p1, vI p2, vI (l3 + 1), vI (l4 + 1)] [] (mm I D) Q)
 (tsP (inB ((4 * p1) + l4) 32) (brP (¬ (I 124 (ixN ((4 * p1) + l4))) = (I 106 22))
 (Wp GG (d + 1) 204 23 [vR (some 106), vI p1, vI p2, vI l3, vI (l4 + 1)] [] (mm I D) Q)
 (Wp GG (d + 1) 204 23 [vR (some 106), vI p1, vI p2, vI (l3 + 1), vI (l4 + 1)] [] (mm I D) Q)))))) :
  Wp GG (d + 1) 204 23 [vR (some 106), vI p1, vI p2, vI l3, vI l4] [] (mm I D) Q := runC_p (cut := (fun pc => [23].contains pc)) 23 h
set_option maxRecDepth 100000 in
theorem s_M_every {d : Nat} {I : IM} {D : DY} {Q : Option PV → PM → Prop} (p1 : Int32) (h : CI d 169 [vI p1, vI 0, vI 20] (mm I D) (fun x1 I1 => brP (¬ x1 = 0)
 (Q (some (vI (I1 106 23))) (mm (up2 I1 106 23 p1) D))
 (Q (some (vI (-1))) (mm I1 D)))) :
  Mt GG (d + 1) 205 [vR (some 106), vI p1] (mm I D) Q := runC_m (cut := (fun _ => false)) 13 h
set_option maxRecDepth 100000 in
theorem s_M_ask {d : Nat} {I : IM} {D : DY} {Q : Option PV → PM → Prop} (p1 : Int32) (p2 : Int32) (p3 : Int32) (h : CI d 192 [vI p1] (mm I D) (fun x1 I1 => brP (x1 = 0)
 (Q (some (vI (-1))) (mm I1 D))
 (brP (p2 < (-1))
 (Q (some (vI (-1))) (mm I1 D))
 (CI d 169 [vI p3, vI 0, vI 999] (mm I1 D) (fun x2 I2 => brP (¬ x2 = 0)
 (CI d 207 [vR (some 106)] (mm I2 D) (fun x3 I3 => brP (x3 < 0)
 (tsP (inB p3 1000) (brP ((I3 126 (ixN p3)) ≤ 0)
 (brP (p2 < 0)
 (CI d 209 [vR (some 106), vI p1] (mm I3 D) (fun x4 I4 => brP (x4 ≤ 0)
 (Q (some (vI x4)) (mm I4 D))
 (brP (p3 ≤ 0)
 (Q (some (vI x4)) (mm I4 D))
 (tsP (inB p3 1000) (Q (some (vI x4)) (mm (up2 I4 126 (ixN p3) x4) D))))))
 (tsP (inB p1 8) (brP (p2 = (I3 120 (ixN p1)))
 (CI d 209 [vR (some 106), vI p1] (mm I3 D) (fun x5 I5 => brP (x5 ≤ 0)
 (Q (some (vI x5)) (mm I5 D))
 (brP (p3 ≤ 0)
 (Q (some (vI x5)) (mm I5 D))
 (tsP (inB p3 1000) (Q (some (vI x5)) (mm (up2 I5 126 (ixN p3) x5) D))))))
 (Q (some (vI (-4))) (mm (up2 I3 125 2 ((I3 125 2) + 1)) D)))))
 (tsP (inB p3 1000) (Q (some (vI (I3 126 (ixN p3)))) (mm (up2 I3 125 1 ((I3 125 1) + 1)) D)))))
 (Q (some (vI ((-100) - (I3 106 4)))) (mm I3 D))))
 (Q (some (vI (-1))) (mm I2 D))))))) :
  Mt GG (d + 1) 206 [vR (some 106), vI p1, vI p2, vI p3] (mm I D) Q := runC_m (cut := (fun _ => false)) 42 h
set_option maxRecDepth 100000 in
theorem s_M_readAlone {d : Nat} {I : IM} {D : DY} {Q : Option PV → PM → Prop}  (h : CV d 171 [vR (some 106)] (mm I D) (fun I1 => CV d 208 [vR (some 106), vI 0, vI 70] (mm I1 D) (fun I2 => CI d 188 [vR (some 106)] (mm I2 D) (fun x3 I3 => Q (some (vI x3)) (mm I3 D))))) :
  Mt GG (d + 1) 207 [vR (some 106)] (mm I D) Q := runC_m (cut := (fun _ => false)) 9 h
set_option maxRecDepth 100000 in
theorem s_M_readCommand {d : Nat} {I : IM} {D : DY} {Q : Option PV → PM → Prop} (p1 : Int32) (p2 : Int32) (h : CI d 172 [vR (some 106), vI 9, vI 16] (mm (up2 (up2 (up2 I 106 34 0) 106 32 0) 106 33 0) D) (fun x1 I1 => brP ((0 : Int32) ≤ (I1 106 4))
 (Q none (mm (up2 I1 106 31 x1) D))
 (brP (¬ x1 = 7)
 (CV d 176 [vR (some 106), vI 32] (mm (up2 I1 106 31 x1) D) (fun I2 => brP ((I2 106 4) < 0)
 (brP (p1 = 0)
 (CI d 183 [vR (some 106), vI 999] (mm I2 D) (fun x3 I3 => brP ((I3 106 31) = 6)
 (CV d 176 [vR (some 106), vI 32] (mm (up2 I3 106 32 x3) D) (fun I4 => CI d 172 [vR (some 106), vI 31, vI 31] (mm I4 D) (fun x5 I5 => CV d 176 [vR (some 106), vI 32] (mm I5 D) (fun I6 => CI d 183 [vR (some 106), vI 7] (mm I6 D) (fun x7 I7 => Q none (mm (up2 I7 106 33 x7) D))))))
 (Q none (mm (up2 I3 106 32 x3) D))))
 (CI d 177 [vR (some 106)] (mm I2 D) (fun x8 I8 => brP (¬ x8 = 40)
 (CI d 183 [vR (some 106), vI 999] (mm I8 D) (fun x9 I9 => brP ((I9 106 31) = 6)
 (CV d 176 [vR (some 106), vI 32] (mm (up2 I9 106 32 x9) D) (fun I10 => CI d 172 [vR (some 106), vI 31, vI 31] (mm I10 D) (fun x11 I11 => CV d 176 [vR (some 106), vI 32] (mm I11 D) (fun I12 => CI d 183 [vR (some 106), vI 7] (mm I12 D) (fun x13 I13 => Q none (mm (up2 I13 106 33 x13) D))))))
 (Q none (mm (up2 I9 106 32 x9) D))))
 (tsP (inB p2 160) (CV d 187 [vR (some 106)] (mm (up2 (up2 (up2 (up2 (up2 I8 106 34 1) 106 9 p2) 110 (ixN p2) 0) 106 10 0) 106 11 0) D) (fun I14 => brP ((I14 106 31) = 6)
 (CV d 176 [vR (some 106), vI 32] (mm I14 D) (fun I15 => CI d 172 [vR (some 106), vI 31, vI 31] (mm I15 D) (fun x16 I16 => CV d 176 [vR (some 106), vI 32] (mm I16 D) (fun I17 => CI d 183 [vR (some 106), vI 7] (mm I17 D) (fun x18 I18 => Q none (mm (up2 I18 106 33 x18) D))))))
 (Q none (mm I14 D))))))))
 (Q none (mm I2 D))))
 (Q none (mm (up2 I1 106 31 x1) D))))) :
  Mt GG (d + 1) 208 [vR (some 106), vI p1, vI p2] (mm I D) Q := runC_m (cut := (fun _ => false)) 76 h
set_option maxRecDepth 100000 in
theorem s_M_asked {d : Nat} {I : IM} {D : DY} {Q : Option PV → PM → Prop} (p1 : Int32) (h : CI d 210 [vR (some 106), vI p1] (mm I D) (fun x1 I1 => brP (x1 ≤ 0)
 (CI d 211 [vR (some 106)] (mm I1 D) (fun x2 I2 => brP (¬ x2 = 0)
 (CV d 212 [vR (some 106), vI p1] (mm I2 D) (fun I3 => tsP (inB p1 8) (Q (some (vI (I3 120 (ixN p1)))) (mm (up2 I3 125 0 ((I3 125 0) + 1)) D))))
 (Q (some (vI (-3))) (mm I2 D))))
 (Q (some (vI (-x1))) (mm (up2 I1 125 3 ((I1 125 3) + 1)) D)))) :
  Mt GG (d + 1) 209 [vR (some 106), vI p1] (mm I D) Q := runC_m (cut := (fun _ => false)) 25 h
set_option maxRecDepth 100000 in
theorem s_M_refusal {d : Nat} {I : IM} {D : DY} {Q : Option PV → PM → Prop} (p1 : Int32) (h : CV d 193 [vR (some 106), vI p1] (mm I D) (fun I1 => brP (¬ (I1 106 31) = 0)
 (brP ((I1 121 0) = 1)
 (brP (¬ (I1 106 31) = 7)
 (brP (¬ (I1 106 31) = 4)
 (brP (¬ (I1 106 31) = 6)
 (brP ((I1 106 31) = 2)
 (brP ((I1 106 32) ≤ ((I1 121 1) - (I1 121 2)))
 (Q (some (vI 0)) (mm I1 D))
 (Q (some (vI 23)) (mm I1 D)))
 (brP ((I1 106 31) = 3)
 (brP ((I1 106 32) ≤ ((I1 121 1) - (I1 121 2)))
 (Q (some (vI 0)) (mm I1 D))
 (Q (some (vI 23)) (mm I1 D)))
 (brP (¬ (I1 106 31) = 6)
 (Q (some (vI 0)) (mm I1 D))
 (brP ((I1 106 32) ≤ ((I1 121 1) - (I1 121 2)))
 (Q (some (vI 0)) (mm I1 D))
 (Q (some (vI 23)) (mm I1 D))))))
 (brP (¬ (I1 106 33) = p1)
 (CV d 193 [vR (some 106), vI (I1 106 33)] (mm I1 D) (fun I2 => brP ((I2 121 0) = 1)
 (brP ((I2 106 31) = 2)
 (brP ((I2 106 32) ≤ ((I1 121 1) - (I1 121 2)))
 (Q (some (vI 0)) (mm I2 D))
 (Q (some (vI 23)) (mm I2 D)))
 (brP ((I2 106 31) = 3)
 (brP ((I2 106 32) ≤ ((I1 121 1) - (I1 121 2)))
 (Q (some (vI 0)) (mm I2 D))
 (Q (some (vI 23)) (mm I2 D)))
 (brP (¬ (I2 106 31) = 6)
 (Q (some (vI 0)) (mm I2 D))
 (brP ((I2 106 32) ≤ ((I1 121 1) - (I1 121 2)))
 (Q (some (vI 0)) (mm I2 D))
 (Q (some (vI 23)) (mm I2 D))))))
 (Q (some (vI 25)) (mm I2 D))))
 (Q (some (vI 25)) (mm I1 D))))
 (brP ((I1 106 32) ≤ (I1 121 2))
 (Q (some (vI 0)) (mm I1 D))
 (Q (some (vI 23)) (mm I1 D))))
 (brP (¬ (I1 121 1) = 0)
 (Q (some (vI 24)) (mm I1 D))
 (Q (some (vI 0)) (mm I1 D))))
 (Q (some (vI 21)) (mm I1 D)))
 (brP (¬ (I1 121 0) = 0)
 (Q (some (vI 22)) (mm I1 D))
 (Q (some (vI 0)) (mm I1 D))))) :
  Mt GG (d + 1) 210 [vR (some 106), vI p1] (mm I D) Q := runC_m (cut := (fun _ => false)) 77 h
set_option maxRecDepth 100000 in
theorem s_M_hasRoom {d : Nat} {I : IM} {D : DY} {Q : Option PV → PM → Prop}  (h : brP (¬ (I 106 31) = 6)
 (brP ((240 : Int32) < ((I 106 14) + 1))
 (Q (some (vI 0)) (mm I D))
 (Q (some (vI 1)) (mm I D)))
 (brP ((240 : Int32) < ((I 106 14) + 2))
 (Q (some (vI 0)) (mm I D))
 (Q (some (vI 1)) (mm I D)))) :
  Mt GG d 211 [vR (some 106)] (mm I D) Q := runC_m (cut := (fun _ => false)) 14 h
set_option maxRecDepth 100000 in
theorem s_M_happen {d : Nat} {I : IM} {D : DY} {Q : Option PV → PM → Prop} (p1 : Int32) (h : brP (¬ (I 106 31) = 7)
 (brP (¬ (I 106 31) = 6)
 (CV d 213 [vR (some 106), vI p1, vI (I 106 31), vI (I 106 32), vI 0] (mm I D) (fun I1 => brP (¬ (I1 106 31) = 6)
 (Q none (mm I1 D))
 (CV d 213 [vR (some 106), vI (I1 106 33), vI 7, vI (I1 106 32), vI p1] (mm I1 D) (fun I2 => Q none (mm I2 D)))))
 (CV d 213 [vR (some 106), vI p1, vI (I 106 31), vI (I 106 32), vI (I 106 33)] (mm I D) (fun I3 => brP (¬ (I3 106 31) = 6)
 (Q none (mm I3 D))
 (CV d 213 [vR (some 106), vI (I3 106 33), vI 7, vI (I3 106 32), vI p1] (mm I3 D) (fun I4 => Q none (mm I4 D))))))
 (brP (¬ (I 106 31) = 6)
 (CV d 213 [vR (some 106), vI p1, vI 8, vI (I 106 32), vI 0] (mm I D) (fun I5 => brP (¬ (I5 106 31) = 6)
 (Q none (mm I5 D))
 (CV d 213 [vR (some 106), vI (I5 106 33), vI 7, vI (I5 106 32), vI p1] (mm I5 D) (fun I6 => Q none (mm I6 D)))))
 (CV d 213 [vR (some 106), vI p1, vI 8, vI (I 106 32), vI (I 106 33)] (mm I D) (fun I7 => brP (¬ (I7 106 31) = 6)
 (Q none (mm I7 D))
 (CV d 213 [vR (some 106), vI (I7 106 33), vI 7, vI (I7 106 32), vI p1] (mm I7 D) (fun I8 => Q none (mm I8 D))))))) :
  Mt GG (d + 1) 212 [vR (some 106), vI p1] (mm I D) Q := runC_m (cut := (fun _ => false)) 31 h
set_option maxRecDepth 100000 in
theorem s_M_addEvent {d : Nat} {I : IM} {D : DY} {Q : Option PV → PM → Prop} (p1 : Int32) (p2 : Int32) (p3 : Int32) (p4 : Int32) (h : tsP (inB p1 8) (tsP (inB p1 8) (tsP (inB ((I 106 14) + 1) 241) (tsP (inB p1 8) (tsP (inB ((I 106 14) + 1) 241) (tsP (inB ((I 106 14) + 1) 241) (tsP (inB p2 9) (tsP (inB ((I 106 14) + 1) 241) (tsP (inB ((I 106 14) + 1) 241) (tsP (inB ((I 106 14) + 1) 241) (brP ((I 106 23) ≤ 0)
 (Q none (mm (up2 (up2 (up2 (up2 (up2 (up2 (up2 (up2 I 106 14 ((I 106 14) + 1)) 120 (ixN p1) ((I 120 (ixN p1)) + 1)) 113 (ixN ((I 106 14) + 1)) p1) 114 (ixN ((I 106 14) + 1)) ((up2 (up2 I 106 14 ((I 106 14) + 1)) 120 (ixN p1) ((I 120 (ixN p1)) + 1)) 120 (ixN p1))) 115 (ixN ((I 106 14) + 1)) p2) 116 (ixN ((I 106 14) + 1)) ((I 119 (ixN p2)) + 1)) 117 (ixN ((I 106 14) + 1)) p3) 118 (ixN ((I 106 14) + 1)) p4) D))
 (tsP (inB p1 8) (tsP (¬ (I 106 23) = 0) (brP (¬ (((up2 (up2 I 106 14 ((I 106 14) + 1)) 120 (ixN p1) ((I 120 (ixN p1)) + 1)) 120 (ixN p1)) - ((up2 (up2 I 106 14 ((I 106 14) + 1)) 120 (ixN p1) ((I 120 (ixN p1)) + 1)) 120 (ixN p1)) / (I 106 23) * (I 106 23)) = 0)
 (Q none (mm (up2 (up2 (up2 (up2 (up2 (up2 (up2 (up2 I 106 14 ((I 106 14) + 1)) 120 (ixN p1) ((I 120 (ixN p1)) + 1)) 113 (ixN ((I 106 14) + 1)) p1) 114 (ixN ((I 106 14) + 1)) ((up2 (up2 I 106 14 ((I 106 14) + 1)) 120 (ixN p1) ((I 120 (ixN p1)) + 1)) 120 (ixN p1))) 115 (ixN ((I 106 14) + 1)) p2) 116 (ixN ((I 106 14) + 1)) ((I 119 (ixN p2)) + 1)) 117 (ixN ((I 106 14) + 1)) p3) 118 (ixN ((I 106 14) + 1)) p4) D))
 (CV d 203 [vR (some 106), vI p1] (mm (up2 (up2 (up2 (up2 (up2 (up2 (up2 (up2 I 106 14 ((I 106 14) + 1)) 120 (ixN p1) ((I 120 (ixN p1)) + 1)) 113 (ixN ((I 106 14) + 1)) p1) 114 (ixN ((I 106 14) + 1)) ((up2 (up2 I 106 14 ((I 106 14) + 1)) 120 (ixN p1) ((I 120 (ixN p1)) + 1)) 120 (ixN p1))) 115 (ixN ((I 106 14) + 1)) p2) 116 (ixN ((I 106 14) + 1)) ((I 119 (ixN p2)) + 1)) 117 (ixN ((I 106 14) + 1)) p3) 118 (ixN ((I 106 14) + 1)) p4) D) (fun I1 => Q none (mm I1 D))))))))))))))))) :
  Mt GG (d + 1) 213 [vR (some 106), vI p1, vI p2, vI p3, vI p4] (mm I D) Q := runC_m (cut := (fun _ => false)) 73 h
set_option maxRecDepth 100000 in
theorem s_M_batch {d : Nat} {I : IM} {D : DY} {Q : Option PV → PM → Prop}  (h : CI d 215 [vR (some 106)] (mm I D) (fun x1 I1 => brP (x1 < 0)
 (CV d 217 [vR (some 106), vI 0] (mm I1 D) (fun I2 => CI d 218 [vR (some 106)] (mm I2 D) (fun x3 I3 => brP ((I3 106 37) ≤ x3)
 (Q (some (vI ((I3 106 14) - (I1 106 14)))) (mm (up2 I3 125 0 ((I3 125 0) + (I3 106 37))) D))
 (CV d 220 [vR (some 106), vI (I1 106 14)] (mm I3 D) (fun I4 => CV d 217 [vR (some 106), vI 1] (mm I4 D) (fun I5 => brP ((I5 106 42) = 0)
 (Q (some (vI ((-300) - x3))) (mm I5 D))
 (Q (some (vI ((-300) - x3))) (mm (up2 I5 125 3 ((I5 125 3) + 1)) D))))))))
 (Q (some (vI ((-100) - (I1 106 4)))) (mm I1 D)))) :
  Mt GG (d + 1) 214 [vR (some 106)] (mm I D) Q := runC_m (cut := (fun _ => false)) 37 h
set_option maxRecDepth 100000 in
theorem s_M_readBatch {d : Nat} {I : IM} {D : DY} {Q : Option PV → PM → Prop}  (h : CV d 171 [vR (some 106)] (mm I D) (fun I1 => CV d 216 [vR (some 106)] (mm (up2 I1 106 37 0) D) (fun I2 => Wp GG (d + 1) 215 13 [vR (some 106)] [] (mm I2 D) Q))) :
  Mt GG (d + 1) 215 [vR (some 106)] (mm I D) Q := runC_m (cut := (fun pc => [13].contains pc)) 8 h
set_option maxRecDepth 100000 in
theorem s_M_readBatch_13 {d : Nat} {I : IM} {D : DY} {Q : Option PV → PM → Prop}  (h : brP ((0 : Int32) ≤ (I 106 4))
 (CI d 188 [vR (some 106)] (mm I D) (fun x1 I1 => Q (some (vI x1)) (mm I1 D)))
 (CI d 177 [vR (some 106)] (mm I D) (fun x2 I2 => brP (¬ x2 = 59)
 (CI d 188 [vR (some 106)] (mm I2 D) (fun x3 I3 => Q (some (vI x3)) (mm I3 D)))
 (CV d 216 [vR (some 106)] (mm (up2 I2 106 3 ((I2 106 3) + 1)) D) (fun I4 => Wp GG (d + 1) 215 13 [vR (some 106)] [] (mm I4 D) Q))))) :
  Wp GG (d + 1) 215 13 [vR (some 106)] [] (mm I D) Q := runC_p (cut := (fun pc => [13].contains pc)) 17 h
set_option maxRecDepth 100000 in
theorem s_M_readLine {d : Nat} {I : IM} {D : DY} {Q : Option PV → PM → Prop}  (h : CI d 183 [vR (some 106), vI 7] (mm I D) (fun x1 I1 => tsP (inB (I 106 37) 40) (CV d 176 [vR (some 106), vI 58] (mm (up2 I1 127 (ixN (I 106 37)) x1) D) (fun I2 => CV d 208 [vR (some 106), vI 0, vI 70] (mm I2 D) (fun I3 => brP ((I3 106 4) < 0)
 (tsP (inB (I3 106 37) 40) (tsP (inB (I3 106 37) 40) (tsP (inB (I3 106 37) 40) (Q none (mm (up2 (up2 (up2 (up2 I3 128 (ixN (I3 106 37)) (I3 106 31)) 129 (ixN (I3 106 37)) (I3 106 32)) 130 (ixN (I3 106 37)) (I3 106 33)) 106 37 ((I3 106 37) + 1)) D)))))
 (Q none (mm I3 D))))))) :
  Mt GG (d + 1) 216 [vR (some 106)] (mm I D) Q := runC_m (cut := (fun _ => false)) 46 h
set_option maxRecDepth 100000 in
theorem s_M_keepSnaps {d : Nat} {I : IM} {D : DY} {Q : Option PV → PM → Prop} (p1 : Int32) (h : Wp GG d 217 2 [vR (some 106), vI p1, vI 0] [] (mm I D) Q) :
  Mt GG d 217 [vR (some 106), vI p1] (mm I D) Q := runC_m (cut := (fun pc => [2, 47].contains pc)) 3 h
set_option maxRecDepth 100000 in
theorem s_M_keepSnaps_2 {d : Nat} {I : IM} {D : DY} {Q : Option PV → PM → Prop} (p1 : Int32) (l2 : Int32) (h : brP ((8 : Int32) ≤ l2)
 (Wp GG d 217 47 [vR (some 106), vI p1, vI 0] [] (mm I D) Q)
 (brP (p1 = 0)
 (tsP (inB l2 8) (tsP (inB l2 8) (Wp GG d 217 2 [vR (some 106), vI p1, vI (l2 + 1)] [] (mm (up2 I 131 (ixN l2) (I 122 (ixN l2))) D) Q)))
 (tsP (inB l2 8) (tsP (inB l2 8) (Wp GG d 217 2 [vR (some 106), vI p1, vI (l2 + 1)] [] (mm (up2 I 122 (ixN l2) (I 131 (ixN l2))) D) Q))))) :
  Wp GG d 217 2 [vR (some 106), vI p1, vI l2] [] (mm I D) Q := runC_p (cut := (fun pc => [2, 47].contains pc)) 17 h
set_option maxRecDepth 100000 in
theorem s_M_keepSnaps_47 {d : Nat} {I : IM} {D : DY} {Q : Option PV → PM → Prop} (p1 : Int32) (l2 : Int32) (h : brP ((32 : Int32) ≤ l2)
 (Q none (mm I D))
 (brP (p1 = 0)
 (tsP (inB l2 32) (tsP (inB l2 32) (tsP (inB l2 32) (tsP (inB l2 32) (Wp GG d 217 47 [vR (some 106), vI p1, vI (l2 + 1)] [] (mm (up2 (up2 I 132 (ixN l2) (I 123 (ixN l2))) 133 (ixN l2) (I 124 (ixN l2))) D) Q)))))
 (tsP (inB l2 32) (tsP (inB l2 32) (tsP (inB l2 32) (tsP (inB l2 32) (Wp GG d 217 47 [vR (some 106), vI p1, vI (l2 + 1)] [] (mm (up2 (up2 I 123 (ixN l2) (I 132 (ixN l2))) 124 (ixN l2) (I 133 (ixN l2))) D) Q))))))) :
  Wp GG d 217 47 [vR (some 106), vI p1, vI l2] [] (mm I D) Q := runC_p (cut := (fun pc => [2, 47].contains pc)) 25 h
set_option maxRecDepth 100000 in
theorem s_M_through {d : Nat} {I : IM} {D : DY} {Q : Option PV → PM → Prop}  (h : Wp GG (d + 1) 218 7 [vR (some 106), vI 0] [] (mm (up2 I 106 42 0) D) Q) :
  Mt GG (d + 1) 218 [vR (some 106)] (mm I D) Q := runC_m (cut := (fun pc => [7].contains pc)) 6 h
set_option maxRecDepth 100000 in
theorem s_M_through_7 {d : Nat} {I : IM} {D : DY} {Q : Option PV → PM → Prop} (l1 : Int32) (h : brP ((I 106 37) ≤ l1)
 (Q (some (vI (I 106 37))) (mm I D))
 (CV d 219 [vR (some 106), vI l1] (mm I D) (fun I1 => tsP (inB l1 40) (CI d 210 [vR (some 106), vI (I1 127 (ixN l1))] (mm I1 D) (fun x2 I2 => brP (x2 ≤ 0)
 (CI d 211 [vR (some 106)] (mm (up2 I2 106 42 0) D) (fun x3 I3 => brP (¬ x3 = 0)
 (tsP (inB l1 40) (CV d 212 [vR (some 106), vI (I3 127 (ixN l1))] (mm I3 D) (fun I4 => Wp GG (d + 1) 218 7 [vR (some 106), vI (l1 + 1)] [] (mm I4 D) Q)))
 (Q (some (vI l1)) (mm I3 D))))
 (Q (some (vI l1)) (mm (up2 I2 106 42 1) D))))))) :
  Wp GG (d + 1) 218 7 [vR (some 106), vI l1] [] (mm I D) Q := runC_p (cut := (fun pc => [7].contains pc)) 32 h
set_option maxRecDepth 100000 in
theorem s_M_takeLine {d : Nat} {I : IM} {D : DY} {Q : Option PV → PM → Prop} (p1 : Int32) (h : tsP (inB p1 40) (tsP (inB p1 40) (tsP (inB p1 40) (Q none (mm (up2 (up2 (up2 I 106 31 (I 128 (ixN p1))) 106 32 (I 129 (ixN p1))) 106 33 (I 130 (ixN p1))) D))))) :
  Mt GG d 219 [vR (some 106), vI p1] (mm I D) Q := runC_m (cut := (fun _ => false)) 19 h
set_option maxRecDepth 100000 in
theorem s_M_cutTo {d : Nat} {I : IM} {D : DY} {Q : Option PV → PM → Prop} (p1 : Int32) (h : brP ((I 106 14) ≤ p1)
 (Q none (mm I D))
 (tsP (inB (I 106 14) 241) (tsP (inB (I 113 (ixN (I 106 14))) 8) (tsP (inB (I 113 (ixN (I 106 14))) 8) (Wp GG d 220 0 [vR (some 106), vI p1] [] (mm (up2 (up2 I 120 (ixN (I 113 (ixN (I 106 14)))) ((I 120 (ixN (I 113 (ixN (I 106 14))))) - 1)) 106 14 ((I 106 14) - 1)) D) Q))))) :
  Mt GG d 220 [vR (some 106), vI p1] (mm I D) Q := runC_m (cut := (fun pc => [0].contains pc)) 24 h
set_option maxRecDepth 100000 in
theorem s_M_cutTo_0 {d : Nat} {I : IM} {D : DY} {Q : Option PV → PM → Prop} (p1 : Int32) (h : brP ((I 106 14) ≤ p1)
 (Q none (mm I D))
 (tsP (inB (I 106 14) 241) (tsP (inB (I 113 (ixN (I 106 14))) 8) (tsP (inB (I 113 (ixN (I 106 14))) 8) (Wp GG d 220 0 [vR (some 106), vI p1] [] (mm (up2 (up2 I 120 (ixN (I 113 (ixN (I 106 14)))) ((I 120 (ixN (I 113 (ixN (I 106 14))))) - 1)) 106 14 ((I 106 14) - 1)) D) Q))))) :
  Wp GG d 220 0 [vR (some 106), vI p1] [] (mm I D) Q := runC_p (cut := (fun pc => [0].contains pc)) 24 h
set_option maxRecDepth 100000 in
theorem s_M_foresee {d : Nat} {I : IM} {D : DY} {Q : Option PV → PM → Prop} (p1 : Int32) (p2 : Int32) (h : CI d 192 [vI p1] (mm I D) (fun x1 I1 => brP (x1 = 0)
 (Q (some (vL (-9223372036854775808))) (mm I1 D))
 (CI d 169 [vI p2, vI 0, vI 5] (mm I1 D) (fun x2 I2 => brP (¬ x2 = 0)
 (CI d 215 [vR (some 106)] (mm I2 D) (fun x3 I3 => brP (x3 < 0)
 (CV d 217 [vR (some 106), vI 0] (mm I3 D) (fun I4 => CI d 218 [vR (some 106)] (mm I4 D) (fun x5 I5 => CV d 193 [vR (some 106), vI p1] (mm I5 D) (fun I6 => CV d 220 [vR (some 106), vI (I3 106 14)] (mm I6 D) (fun I7 => CV d 217 [vR (some 106), vI 1] (mm I7 D) (fun I8 => brP (¬ p2 = 0)
 (brP (¬ p2 = 1)
 (tsP (inB (p2 - 2) 4) (Q (some (vL (Int32.toInt64 (I8 121 (ixN (p2 - 2)))))) (mm I8 D)))
 (Q (some (vL (Int32.toInt64 ((I5 106 14) - (I3 106 14))))) (mm I8 D)))
 (Q (some (vL (Int32.toInt64 x5))) (mm I8 D))))))))
 (Q (some (vL ((-9223372036854775708) + (Int32.toInt64 (I3 106 4))))) (mm I3 D))))
 (Q (some (vL (-9223372036854775808))) (mm I2 D)))))) :
  Mt GG (d + 1) 221 [vR (some 106), vI p1, vI p2] (mm I D) Q := runC_m (cut := (fun _ => false)) 47 h
set_option maxRecDepth 100000 in
theorem s_M_event {d : Nat} {I : IM} {D : DY} {Q : Option PV → PM → Prop} (p1 : Int32) (p2 : Int32) (h : CI d 223 [vR (some 106), vI p1] (mm I D) (fun x1 I1 => brP (¬ x1 = 0)
 (brP (p2 = (0 : Int32))
 (tsP (inB p1 241) (Q (some (vI (I1 113 (ixN p1)))) (mm I1 D)))
 (brP (p2 = ((0 : Int32) + 1))
 (tsP (inB p1 241) (Q (some (vI (I1 114 (ixN p1)))) (mm I1 D)))
 (brP (p2 = (((0 : Int32) + 1) + 1))
 (tsP (inB p1 241) (Q (some (vI (I1 115 (ixN p1)))) (mm I1 D)))
 (brP (p2 = ((((0 : Int32) + 1) + 1) + 1))
 (tsP (inB p1 241) (Q (some (vI (I1 116 (ixN p1)))) (mm I1 D)))
 (brP (p2 = (((((0 : Int32) + 1) + 1) + 1) + 1))
 (tsP (inB p1 241) (Q (some (vI (I1 117 (ixN p1)))) (mm I1 D)))
 (brP (p2 = ((((((0 : Int32) + 1) + 1) + 1) + 1) + 1))
 (tsP (inB p1 241) (Q (some (vI (I1 118 (ixN p1)))) (mm I1 D)))
 (brP (p2 = (((((((0 : Int32) + 1) + 1) + 1) + 1) + 1) + 1))
 (CV d 195 [vR (some 106), vI p1] (mm I1 D) (fun I2 => Q (some (vI (I2 106 25))) (mm I2 D)))
 (brP (p2 = ((((((((0 : Int32) + 1) + 1) + 1) + 1) + 1) + 1) + 1))
 (CV d 195 [vR (some 106), vI p1] (mm I1 D) (fun I3 => Q (some (vI (I3 106 26))) (mm I3 D)))
 (Q (some (vI (-2000000000))) (mm I1 D))))))))))
 (Q (some (vI (-2000000000))) (mm I1 D)))) :
  Mt GG (d + 1) 222 [vR (some 106), vI p1, vI p2] (mm I D) Q := runC_m (cut := (fun _ => false)) 12 h
set_option maxRecDepth 100000 in
theorem s_M_isPosition {d : Nat} {I : IM} {D : DY} {Q : Option PV → PM → Prop} (p1 : Int32) (h : CI d 169 [vI p1, vI 1, vI (I 106 14)] (mm I D) (fun x1 I1 => rtP 2 x1 (Q (some (vI x1)) (mm I1 D)))) :
  Mt GG (d + 1) 223 [vR (some 106), vI p1] (mm I D) Q := runC_m (cut := (fun _ => false)) 6 h
set_option maxRecDepth 100000 in
theorem s_M_text {d : Nat} {I : IM} {D : DY} {Q : Option PV → PM → Prop} (p1 : Int32) (p2 : Int32) (h : CI d 223 [vR (some 106), vI p1] (mm I D) (fun x1 I1 => brP (x1 = 0)
 (Q (some (vI (-1))) (mm I1 D))
 (brP ((-1 : Int32) ≤ p2)
 (CV d 225 [vR (some 106), vI p1] (mm I1 D) (fun I2 => brP ((0 : Int32) ≤ p2)
 (brP ((I2 106 47) ≤ p2)
 (Q (some (vI (-2))) (mm I2 D))
 (tsP (inB p2 80) (Q (some (vI (I2 134 (ixN p2)))) (mm I2 D))))
 (Q (some (vI (I2 106 47))) (mm I2 D))))
 (Q (some (vI (-1))) (mm I1 D))))) :
  Mt GG (d + 1) 224 [vR (some 106), vI p1, vI p2] (mm I D) Q := runC_m (cut := (fun _ => false)) 22 h
set_option maxRecDepth 100000 in
theorem s_M_writeEvent {d : Nat} {I : IM} {D : DY} {Q : Option PV → PM → Prop} (p1 : Int32) (h : CV d 226 [vR (some 106), vI p1] (mm (up2 I 106 47 0) D) (fun I1 => CV d 227 [vR (some 106), vI 58] (mm I1 D) (fun I2 => tsP (inB p1 241) (CI d 174 [vR (some 106), vI (I2 115 (ixN p1))] (mm I2 D) (fun x3 I3 => Wp GG (d + 1) 225 27 [vR (some 106), vI p1, vI x3] [] (mm I3 D) Q))))) :
  Mt GG (d + 1) 225 [vR (some 106), vI p1] (mm I D) Q := runC_m (cut := (fun pc => [27].contains pc)) 17 h
set_option maxRecDepth 100000 in
theorem s_M_writeEvent_27 {d : Nat} {I : IM} {D : DY} {Q : Option PV → PM → Prop} (p1 : Int32) (l2 : Int32) (h : tsP (inB l2 163) (brP ((I 108 (ixN l2)) = 32)
 (CV d 227 [vR (some 106), vI 32] (mm I D) (fun I1 => tsP (inB p1 241) (CV d 226 [vR (some 106), vI (I1 113 (ixN p1))] (mm I1 D) (fun I2 => CV d 227 [vR (some 106), vI 46] (mm I2 D) (fun I3 => tsP (inB p1 241) (CV d 226 [vR (some 106), vI (I3 114 (ixN p1))] (mm I3 D) (fun I4 => CV d 227 [vR (some 106), vI 32] (mm I4 D) (fun I5 => CV d 227 [vR (some 106), vI 97] (mm I5 D) (fun I6 => CV d 227 [vR (some 106), vI 61] (mm I6 D) (fun I7 => tsP (inB p1 241) (CV d 226 [vR (some 106), vI (I7 117 (ixN p1))] (mm I7 D) (fun I8 => CV d 227 [vR (some 106), vI 32] (mm I8 D) (fun I9 => CV d 227 [vR (some 106), vI 98] (mm I9 D) (fun I10 => CV d 227 [vR (some 106), vI 61] (mm I10 D) (fun I11 => tsP (inB p1 241) (CV d 226 [vR (some 106), vI (I11 118 (ixN p1))] (mm I11 D) (fun I12 => CV d 227 [vR (some 106), vI 32] (mm I12 D) (fun I13 => CV d 227 [vR (some 106), vI 102] (mm I13 D) (fun I14 => tsP (inB p1 241) (CV d 226 [vR (some 106), vI (I14 116 (ixN p1))] (mm I14 D) (fun I15 => Q none (mm I15 D))))))))))))))))))))))
 (tsP (inB l2 163) (CV d 227 [vR (some 106), vI (I 108 (ixN l2))] (mm I D) (fun I16 => Wp GG (d + 1) 225 27 [vR (some 106), vI p1, vI (l2 + 1)] [] (mm I16 D) Q))))) :
  Wp GG (d + 1) 225 27 [vR (some 106), vI p1, vI l2] [] (mm I D) Q := runC_p (cut := (fun pc => [27].contains pc)) 67 h
set_option maxRecDepth 100000 in
theorem s_M_writeNumber {d : Nat} {I : IM} {D : DY} {Q : Option PV → PM → Prop} (p1 : Int32) (h : brP ((0 : Int32) ≤ (lcmpV (Int32.toInt64 p1) 0))
 (Wp GG (d + 1) 226 21 [vR (some 106), vI p1, vL (Int32.toInt64 p1), vT, vL 1, vT] [] (mm I D) Q)
 (CV d 227 [vR (some 106), vI 45] (mm I D) (fun I1 => Wp GG (d + 1) 226 21 [vR (some 106), vI p1, vL (-(Int32.toInt64 p1)), vT, vL 1, vT] [] (mm I1 D) Q))) :
  Mt GG (d + 1) 226 [vR (some 106), vI p1] (mm I D) Q := runC_m (cut := (fun pc => [21, 43].contains pc)) 16 h
set_option maxRecDepth 100000 in
theorem s_M_writeNumber_21 {d : Nat} {I : IM} {D : DY} {Q : Option PV → PM → Prop} (p1 : Int32) (l2 : Int64) (l4 : Int64) (h : brP ((0 : Int32) < (lcmpV (l4 * 10) l2))
 (Wp GG (d + 1) 226 43 [vR (some 106), vI p1, vL l2, vT, vL l4, vT] [] (mm I D) Q)
 (Wp GG (d + 1) 226 21 [vR (some 106), vI p1, vL l2, vT, vL (l4 * 10), vT] [] (mm I D) Q)) :
  Wp GG (d + 1) 226 21 [vR (some 106), vI p1, vL l2, vT, vL l4, vT] [] (mm I D) Q := runC_p (cut := (fun pc => [21, 43].contains pc)) 12 h
set_option maxRecDepth 100000 in
theorem s_M_writeNumber_43 {d : Nat} {I : IM} {D : DY} {Q : Option PV → PM → Prop} (p1 : Int32) (l2 : Int64) (l4 : Int64) (h : brP ((lcmpV l4 0) ≤ 0)
 (Q none (mm I D))
 (tsP (¬ l4 = 0) (CV d 227 [vR (some 106), vI (48 + (Int64.toInt32 ((l2 / l4) - (l2 / l4) / 10 * 10)))] (mm I D) (fun I1 => Wp GG (d + 1) 226 43 [vR (some 106), vI p1, vL l2, vT, vL (l4 / 10), vT] [] (mm I1 D) Q)))) :
  Wp GG (d + 1) 226 43 [vR (some 106), vI p1, vL l2, vT, vL l4, vT] [] (mm I D) Q := runC_p (cut := (fun pc => [21, 43].contains pc)) 20 h
set_option maxRecDepth 100000 in
theorem s_M_write {d : Nat} {I : IM} {D : DY} {Q : Option PV → PM → Prop} (p1 : Int32) (h : tsP (inB (I 106 47) 80) (Q none (mm (up2 (up2 I 134 (ixN (I 106 47)) p1) 106 47 ((I 106 47) + 1)) D))) :
  Mt GG d 227 [vR (some 106), vI p1] (mm I D) Q := runC_m (cut := (fun _ => false)) 13 h
set_option maxRecDepth 100000 in
theorem s_M_find {d : Nat} {I : IM} {D : DY} {Q : Option PV → PM → Prop} (p1 : Int32) (p2 : Int32) (h : CI d 200 [vR (some 106), vI p1, vI p2] (mm I D) (fun x1 I1 => brP (¬ x1 = 0)
 (Wp GG (d + 1) 228 13 [vR (some 106), vI p1, vI p2, vI 1] [] (mm I1 D) Q)
 (Q (some (vI (-1))) (mm I1 D)))) :
  Mt GG (d + 1) 228 [vR (some 106), vI p1, vI p2] (mm I D) Q := runC_m (cut := (fun pc => [13].contains pc)) 8 h
set_option maxRecDepth 100000 in
theorem s_M_find_13 {d : Nat} {I : IM} {D : DY} {Q : Option PV → PM → Prop} (p1 : Int32) (p2 : Int32) (l3 : Int32) (h : brP ((I 106 14) < l3)
 (Q (some (vI (-1))) (mm I D))
 (tsP (inB l3 241) (brP (¬ (I 113 (ixN l3)) = p1)
 (Wp GG (d + 1) 228 13 [vR (some 106), vI p1, vI p2, vI (l3 + 1)] [] (mm I D) Q)
 (tsP (inB l3 241) (brP (¬ (I 114 (ixN l3)) = p2)
 (Wp GG (d + 1) 228 13 [vR (some 106), vI p1, vI p2, vI (l3 + 1)] [] (mm I D) Q)
 (Q (some (vI l3)) (mm I D))))))) :
  Wp GG (d + 1) 228 13 [vR (some 106), vI p1, vI p2, vI l3] [] (mm I D) Q := runC_p (cut := (fun pc => [13].contains pc)) 19 h
set_option maxRecDepth 100000 in
theorem s_M_worth {d : Nat} {I : IM} {D : DY} {Q : Option PV → PM → Prop} (p1 : Int32) (h : CI d 169 [vI p1, vI 0, vI (I 106 14)] (mm I D) (fun x1 I1 => brP (¬ x1 = 0)
 (Wp GG (d + 1) 229 21 [vR (some 106), vI p1, vL 0, vT, vI 0] [] (mm I1 D) Q)
 (Q (some (vL (-9223372036854775808))) (mm I1 D)))) :
  Mt GG (d + 1) 229 [vR (some 106), vI p1] (mm I D) Q := runC_m (cut := (fun pc => [21].contains pc)) 11 h
set_option maxRecDepth 100000 in
theorem s_M_worth_21 {d : Nat} {I : IM} {D : DY} {Q : Option PV → PM → Prop} (p1 : Int32) (l2 : Int64) (l4 : Int32) (h : brP ((8 : Int32) ≤ l4)
 (Q (some (vL l2)) (mm I D))
 (CV d 194 [vR (some 106), vI l4, vI p1, vI 240] (mm I D) (fun I1 => brP (¬ (I1 121 0) = 1)
 (Wp GG (d + 1) 229 21 [vR (some 106), vI p1, vL l2, vT, vI (l4 + 1)] [] (mm I1 D) Q)
 (Wp GG (d + 1) 229 21 [vR (some 106), vI p1, vL (l2 + ((Int32.toInt64 (I1 121 1)) * (Int32.toInt64 (I1 121 3)))), vT, vI (l4 + 1)] [] (mm I1 D) Q)))) :
  Wp GG (d + 1) 229 21 [vR (some 106), vI p1, vL l2, vT, vI l4] [] (mm I D) Q := runC_p (cut := (fun pc => [21].contains pc)) 31 h
set_option maxRecDepth 100000 in
theorem s_M_tally {d : Nat} {I : IM} {D : DY} {Q : Option PV → PM → Prop} (p1 : Int32) (p2 : Int32) (p3 : Int32) (p4 : Int32) (h : CI d 169 [vI p1, vI 0, vI 8] (mm I D) (fun x1 I1 => brP (x1 = 0)
 (Q (some (vI (-2000000000))) (mm I1 D))
 (CI d 223 [vR (some 106), vI p2] (mm I1 D) (fun x2 I2 => brP (x2 = 0)
 (Q (some (vI (-2000000000))) (mm I2 D))
 (CI d 223 [vR (some 106), vI p3] (mm I2 D) (fun x3 I3 => brP (x3 = 0)
 (Q (some (vI (-2000000000))) (mm I3 D))
 (brP (p3 < p2)
 (Q (some (vI (-2000000000))) (mm I3 D))
 (CI d 169 [vI p4, vI 0, vI 2] (mm I3 D) (fun x4 I4 => brP (¬ x4 = 0)
 (Wp GG (d + 1) 230 59 [vR (some 106), vI p1, vI p2, vI p3, vI p4, vI 0, vI 0, vI (-2000000000), vI p2] [] (mm I4 D) Q)
 (Q (some (vI (-2000000000))) (mm I4 D))))))))))) :
  Mt GG (d + 1) 230 [vR (some 106), vI p1, vI p2, vI p3, vI p4] (mm I D) Q := runC_m (cut := (fun pc => [59].contains pc)) 30 h
set_option maxRecDepth 100000 in
theorem s_M_tally_59 {d : Nat} {I : IM} {D : DY} {Q : Option PV → PM → Prop} (p1 : Int32) (p2 : Int32) (p3 : Int32) (p4 : Int32) (l5 : Int32) (l6 : Int32) (l7 : Int32) (l8 : Int32) (h : brP (p3 < l8)
 (brP (¬ p4 = 0)
 (brP (¬ p4 = 1)
 (Q (some (vI l7)) (mm I D))
 (Q (some (vI l6)) (mm I D)))
 (Q (some (vI l5)) (mm I D)))
 (tsP (inB l8 241) (brP ((I 115 (ixN l8)) = p1)
 (CV d 195 [vR (some 106), vI l8] (mm I D) (fun I1 => brP (¬ l5 = 0)
 (CI d 39 [vI l7, vI (I1 106 25)] (mm I1 D) (fun x2 I2 => Wp GG (d + 1) 230 59 [vR (some 106), vI p1, vI p2, vI p3, vI p4, vI (l5 + 1), vI (l6 + (I2 106 25)), vI x2, vI (l8 + 1)] [] (mm I2 D) Q))
 (Wp GG (d + 1) 230 59 [vR (some 106), vI p1, vI p2, vI p3, vI p4, vI (l5 + 1), vI (l6 + (I1 106 25)), vI (I1 106 25), vI (l8 + 1)] [] (mm I1 D) Q)))
 (Wp GG (d + 1) 230 59 [vR (some 106), vI p1, vI p2, vI p3, vI p4, vI l5, vI l6, vI l7, vI (l8 + 1)] [] (mm I D) Q)))) :
  Wp GG (d + 1) 230 59 [vR (some 106), vI p1, vI p2, vI p3, vI p4, vI l5, vI l6, vI l7, vI l8] [] (mm I D) Q := runC_p (cut := (fun pc => [59].contains pc)) 28 h
set_option maxRecDepth 100000 in
theorem s_M_digest {d : Nat} {I : IM} {D : DY} {Q : Option PV → PM → Prop} (p1 : Int32) (h : CI d 169 [vI p1, vI 0, vI (I 106 14)] (mm I D) (fun x1 I1 => brP (¬ x1 = 0)
 (Wp GG (d + 1) 231 21 [vR (some 106), vI p1, vI 7, vI 1, vT] [] (mm I1 D) Q)
 (Q (some (vL (-1))) (mm I1 D)))) :
  Mt GG (d + 1) 231 [vR (some 106), vI p1] (mm I D) Q := runC_m (cut := (fun pc => [21, 34].contains pc)) 11 h
set_option maxRecDepth 100000 in
theorem s_M_digest_21 {d : Nat} {I : IM} {D : DY} {Q : Option PV → PM → Prop} (p1 : Int32) (l2 : Int32) (l3 : Int32) (w4 : PV) (h : brP (p1 < l3)
 (Q (some (vL ((Int32.toInt64 l2) &&& 4294967295))) (mm I D))
 (CV d 225 [vR (some 106), vI l3] (mm I D) (fun I1 => Wp GG (d + 1) 231 34 [vR (some 106), vI p1, vI l2, vI l3, vI 0] [] (mm I1 D) Q))) :
  Wp GG (d + 1) 231 21 [vR (some 106), vI p1, vI l2, vI l3, w4] [] (mm I D) Q := runC_p (cut := (fun pc => [21, 34].contains pc)) 9 h
set_option maxRecDepth 100000 in
theorem s_M_digest_34 {d : Nat} {I : IM} {D : DY} {Q : Option PV → PM → Prop} (p1 : Int32) (l2 : Int32) (l3 : Int32) (l4 : Int32) (h : brP ((I 106 47) ≤ l4)
 (Wp GG (d + 1) 231 21 [vR (some 106), vI p1, vI l2, vI (l3 + 1), vI l4] [] (mm I D) Q)
 (tsP (inB l4 80) (Wp GG (d + 1) 231 34 [vR (some 106), vI p1, vI ((l2 * 31) + (I 134 (ixN l4))), vI l3, vI (l4 + 1)] [] (mm I D) Q))) :
  Wp GG (d + 1) 231 34 [vR (some 106), vI p1, vI l2, vI l3, vI l4] [] (mm I D) Q := runC_p (cut := (fun pc => [21, 34].contains pc)) 16 h
set_option maxRecDepth 100000 in
theorem s_M_project {d : Nat} {I : IM} {D : DY} {Q : Option PV → PM → Prop} (p1 : Int32) (h : CI d 233 [vI p1] (mm I D) (fun x1 I1 => brP (¬ x1 = 0)
 (CI d 234 [vR (some 106)] (mm I1 D) (fun x2 I2 => brP (x2 < 0)
 (CV d 237 [vR (some 106), vI p1, vI 0] (mm I2 D) (fun I3 => tsP (inB ((2 * p1) + 1) 8) (Q (some (vI 1)) (mm (up2 I3 135 (ixN ((2 * p1) + 1)) 0) D))))
 (Q (some (vI ((-100) - (I2 106 4)))) (mm I2 D))))
 (Q (some (vI (-1))) (mm I1 D)))) :
  Mt GG (d + 1) 232 [vR (some 106), vI p1] (mm I D) Q := runC_m (cut := (fun _ => false)) 21 h
set_option maxRecDepth 100000 in
theorem s_M_isProjection {d : Nat} {I : IM} {D : DY} {Q : Option PV → PM → Prop} (p1 : Int32) (h : CI d 169 [vI p1, vI 0, vI 3] (mm I D) (fun x1 I1 => rtP 2 x1 (Q (some (vI x1)) (mm I1 D)))) :
  Mt GG (d + 1) 233 [vI p1] (mm I D) Q := runC_m (cut := (fun _ => false)) 5 h
set_option maxRecDepth 100000 in
theorem s_M_readProjection {d : Nat} {I : IM} {D : DY} {Q : Option PV → PM → Prop}  (h : CV d 171 [vR (some 106)] (mm I D) (fun I1 => CI d 172 [vR (some 106), vI 17, vI 22] (mm I1 D) (fun x2 I2 => CV d 176 [vR (some 106), vI 32] (mm (up2 I2 106 56 x2) D) (fun I3 => CI d 172 [vR (some 106), vI 26, vI 26] (mm I3 D) (fun x4 I4 => CV d 176 [vR (some 106), vI 32] (mm I4 D) (fun I5 => CI d 235 [vR (some 106)] (mm I5 D) (fun x6 I6 => CV d 176 [vR (some 106), vI 32] (mm (up2 I6 106 57 x6) D) (fun I7 => CI d 172 [vR (some 106), vI 27, vI 27] (mm I7 D) (fun x8 I8 => CV d 176 [vR (some 106), vI 32] (mm I8 D) (fun I9 => CI d 172 [vR (some 106), vI 23, vI 25] (mm I9 D) (fun x10 I10 => brP ((0 : Int32) ≤ (I10 106 4))
 (CI d 188 [vR (some 106)] (mm (up2 (up2 I10 106 58 x10) 106 59 0) D) (fun x11 I11 => Q (some (vI x11)) (mm I11 D)))
 (CI d 177 [vR (some 106)] (mm (up2 (up2 I10 106 58 x10) 106 59 0) D) (fun x12 I12 => brP (¬ x12 = 32)
 (CI d 188 [vR (some 106)] (mm I12 D) (fun x13 I13 => Q (some (vI x13)) (mm I13 D)))
 (CI d 172 [vR (some 106), vI 28, vI 28] (mm (up2 (up2 I12 106 59 1) 106 3 ((I12 106 3) + 1)) D) (fun x14 I14 => CV d 176 [vR (some 106), vI 32] (mm I14 D) (fun I15 => CV d 178 [vR (some 106), vI 70, vI 0] (mm I15 D) (fun I16 => CI d 188 [vR (some 106)] (mm I16 D) (fun x17 I17 => Q (some (vI x17)) (mm I17 D))))))))))))))))))) :
  Mt GG (d + 1) 234 [vR (some 106)] (mm I D) Q := runC_m (cut := (fun _ => false)) 74 h
set_option maxRecDepth 100000 in
theorem s_M_readKinds {d : Nat} {I : IM} {D : DY} {Q : Option PV → PM → Prop}  (h : brP ((I 106 4) < 0)
 (CI d 236 [vR (some 106), vI 32] (mm I D) (fun x1 I1 => brP (x1 = 0)
 (CI d 172 [vR (some 106), vI 0, vI 8] (mm I1 D) (fun x2 I2 => CI d 39 [vI 0, vI x2] (mm I2 D) (fun x3 I3 => Wp GG (d + 1) 235 45 [vR (some 106), vI (1 <<< x3)] [] (mm I3 D) Q)))
 (CI d 172 [vR (some 106), vI 32, vI 32] (mm I1 D) (fun x4 I4 => Q (some (vI 511)) (mm I4 D)))))
 (Q (some (vI 0)) (mm I D))) :
  Mt GG (d + 1) 235 [vR (some 106)] (mm I D) Q := runC_m (cut := (fun pc => [45].contains pc)) 17 h
set_option maxRecDepth 100000 in
theorem s_M_readKinds_45 {d : Nat} {I : IM} {D : DY} {Q : Option PV → PM → Prop} (l1 : Int32) (h : brP ((0 : Int32) ≤ (I 106 4))
 (Q (some (vI l1)) (mm I D))
 (CI d 177 [vR (some 106)] (mm I D) (fun x1 I1 => brP (¬ x1 = 43)
 (Q (some (vI l1)) (mm I1 D))
 (CI d 172 [vR (some 106), vI 0, vI 8] (mm (up2 I1 106 3 ((I1 106 3) + 1)) D) (fun x2 I2 => CI d 39 [vI 0, vI x2] (mm I2 D) (fun x3 I3 => Wp GG (d + 1) 235 45 [vR (some 106), vI (l1 ||| (1 <<< x3))] [] (mm I3 D) Q)))))) :
  Wp GG (d + 1) 235 45 [vR (some 106), vI l1] [] (mm I D) Q := runC_p (cut := (fun pc => [45].contains pc)) 26 h
set_option maxRecDepth 100000 in
theorem s_M_isNext {d : Nat} {I : IM} {D : DY} {Q : Option PV → PM → Prop} (p1 : Int32) (h : Wp GG (d + 1) 236 5 [vR (some 106), vI p1, vI (I 106 3)] [] (mm I D) Q) :
  Mt GG (d + 1) 236 [vR (some 106), vI p1] (mm I D) Q := runC_m (cut := (fun pc => [5].contains pc)) 4 h
set_option maxRecDepth 100000 in
theorem s_M_isNext_5 {d : Nat} {I : IM} {D : DY} {Q : Option PV → PM → Prop} (p1 : Int32) (l2 : Int32) (h : brP ((I 106 2) ≤ l2)
 (brP (l2 ≤ (I 106 3))
 (Q (some (vI 0)) (mm I D))
 (CI d 173 [vR (some 106), vI p1, vI (I 106 3), vI l2] (mm I D) (fun x1 I1 => brP (x1 = 0)
 (Q (some (vI 0)) (mm I1 D))
 (Q (some (vI 1)) (mm I1 D)))))
 (tsP (inB l2 160) (CI d 169 [vI (I 107 (ixN l2)), vI 97, vI 122] (mm I D) (fun x2 I2 => brP (x2 = 0)
 (brP (l2 ≤ (I2 106 3))
 (Q (some (vI 0)) (mm I2 D))
 (CI d 173 [vR (some 106), vI p1, vI (I2 106 3), vI l2] (mm I2 D) (fun x3 I3 => brP (x3 = 0)
 (Q (some (vI 0)) (mm I3 D))
 (Q (some (vI 1)) (mm I3 D)))))
 (Wp GG (d + 1) 236 5 [vR (some 106), vI p1, vI (l2 + 1)] [] (mm I2 D) Q))))) :
  Wp GG (d + 1) 236 5 [vR (some 106), vI p1, vI l2] [] (mm I D) Q := runC_p (cut := (fun pc => [5].contains pc)) 26 h
set_option maxRecDepth 100000 in
theorem s_M_layProjection {d : Nat} {I : IM} {D : DY} {Q : Option PV → PM → Prop} (p1 : Int32) (p2 : Int32) (h : tsP (inB ((2 * p1) + p2) 8) (tsP (inB ((2 * p1) + p2) 8) (tsP (inB ((2 * p1) + p2) 8) (tsP (inB ((2 * p1) + p2) 8) (brP (¬ (I 106 59) = 1)
 (CV d 239 [vR (some 106), vI ((2 * p1) + p2)] (mm (up2 (up2 (up2 (up2 I 136 (ixN ((2 * p1) + p2)) (I 106 56)) 137 (ixN ((2 * p1) + p2)) (I 106 57)) 138 (ixN ((2 * p1) + p2)) (I 106 58)) 139 (ixN ((2 * p1) + p2)) (I 106 59)) D) (fun I1 => Q none (mm I1 D)))
 (CI d 238 [vI p1, vI p2] (mm (up2 (up2 (up2 (up2 I 136 (ixN ((2 * p1) + p2)) (I 106 56)) 137 (ixN ((2 * p1) + p2)) (I 106 57)) 138 (ixN ((2 * p1) + p2)) (I 106 58)) 139 (ixN ((2 * p1) + p2)) (I 106 59)) D) (fun x2 I2 => CV d 190 [vR (some 106), vI 70, vI x2] (mm I2 D) (fun I3 => CV d 239 [vR (some 106), vI ((2 * p1) + p2)] (mm I3 D) (fun I4 => Q none (mm I4 D)))))))))) :
  Mt GG (d + 1) 237 [vR (some 106), vI p1, vI p2] (mm I D) Q := runC_m (cut := (fun _ => false)) 44 h
set_option maxRecDepth 100000 in
theorem s_M_projectionSlot {d : Nat} {I : IM} {D : DY} {Q : Option PV → PM → Prop} (p1 : Int32) (p2 : Int32) (h : Q (some (vI ((54 + (2 * p1)) + p2))) (mm I D)) :
  Mt GG d 238 [vI p1, vI p2] (mm I D) Q := runC_m (cut := (fun _ => false)) 8 h
set_option maxRecDepth 100000 in
theorem s_M_begin {d : Nat} {I : IM} {D : DY} {Q : Option PV → PM → Prop} (p1 : Int32) (h : tsP (inB p1 8) (tsP (inB p1 8) (Wp GG d 239 16 [vR (some 106), vI p1, vI 0] [] (mm (up2 (up2 I 135 (ixN p1) 1) 140 (ixN p1) 0) D) Q))) :
  Mt GG d 239 [vR (some 106), vI p1] (mm I D) Q := runC_m (cut := (fun pc => [16].contains pc)) 13 h
set_option maxRecDepth 100000 in
theorem s_M_begin_16 {d : Nat} {I : IM} {D : DY} {Q : Option PV → PM → Prop} (p1 : Int32) (l2 : Int32) (h : brP ((9 : Int32) ≤ l2)
 (Q none (mm I D))
 (tsP (inB ((9 * p1) + l2) 72) (tsP (inB ((9 * p1) + l2) 72) (Wp GG d 239 16 [vR (some 106), vI p1, vI (l2 + 1)] [] (mm (up2 (up2 I 141 (ixN ((9 * p1) + l2)) 0) 142 (ixN ((9 * p1) + l2)) 0) D) Q)))) :
  Wp GG d 239 16 [vR (some 106), vI p1, vI l2] [] (mm I D) Q := runC_p (cut := (fun pc => [16].contains pc)) 24 h
set_option maxRecDepth 100000 in
theorem s_M_rebuild {d : Nat} {I : IM} {D : DY} {Q : Option PV → PM → Prop} (p1 : Int32) (h : CI d 233 [vI p1] (mm I D) (fun x1 I1 => brP (¬ x1 = 0)
 (tsP (inB (2 * p1) 8) (brP (¬ (I1 135 (ixN (2 * p1))) = 0)
 (brP ((I1 106 2) ≤ 0)
 (tsP (inB (2 * p1) 8) (tsP (inB ((2 * p1) + 1) 8) (tsP (inB (2 * p1) 8) (tsP (inB ((2 * p1) + 1) 8) (tsP (inB (2 * p1) 8) (tsP (inB ((2 * p1) + 1) 8) (tsP (inB (2 * p1) 8) (tsP (inB ((2 * p1) + 1) 8) (CI d 238 [vI p1, vI 0] (mm (up2 (up2 (up2 (up2 I1 136 (ixN ((2 * p1) + 1)) (I1 136 (ixN (2 * p1)))) 137 (ixN ((2 * p1) + 1)) (I1 137 (ixN (2 * p1)))) 138 (ixN ((2 * p1) + 1)) (I1 138 (ixN (2 * p1)))) 139 (ixN ((2 * p1) + 1)) (I1 139 (ixN (2 * p1)))) D) (fun x2 I2 => CI d 238 [vI p1, vI 1] (mm I2 D) (fun x3 I3 => CV d 190 [vR (some 106), vI x2, vI x3] (mm I3 D) (fun I4 => CV d 239 [vR (some 106), vI ((2 * p1) + 1)] (mm I4 D) (fun I5 => Q (some (vI 1)) (mm I5 D))))))))))))))
 (CI d 234 [vR (some 106)] (mm I1 D) (fun x6 I6 => brP (x6 < 0)
 (CV d 237 [vR (some 106), vI p1, vI 1] (mm I6 D) (fun I7 => Q (some (vI 1)) (mm I7 D)))
 (Q (some (vI ((-100) - (I6 106 4)))) (mm I6 D)))))
 (Q (some (vI (-5))) (mm I1 D))))
 (Q (some (vI (-1))) (mm I1 D)))) :
  Mt GG (d + 1) 240 [vR (some 106), vI p1] (mm I D) Q := runC_m (cut := (fun _ => false)) 86 h
set_option maxRecDepth 100000 in
theorem s_M_deliver {d : Nat} {I : IM} {D : DY} {Q : Option PV → PM → Prop} (p1 : Int32) (p2 : Int32) (p3 : Int32) (p4 : Int32) (h : CI d 233 [vI p1] (mm I D) (fun x1 I1 => brP (x1 = 0)
 (Q (some (vI (-1))) (mm I1 D))
 (CI d 169 [vI p2, vI 0, vI 1] (mm I1 D) (fun x2 I2 => brP (x2 = 0)
 (Q (some (vI (-1))) (mm I2 D))
 (brP (p3 < 1)
 (Q (some (vI (-1))) (mm I2 D))
 (CI d 169 [vI p4, vI 1, vI 240] (mm I2 D) (fun x3 I3 => brP (¬ x3 = 0)
 (tsP (inB ((2 * p1) + p2) 8) (brP (¬ (I3 135 (ixN ((2 * p1) + p2))) = 0)
 (Wp GG (d + 1) 241 61 [vR (some 106), vI p1, vI p2, vI p3, vI p4, vI ((2 * p1) + p2), vI 0, vI 0, vT] [] (mm I3 D) Q)
 (Q (some (vI (-5))) (mm I3 D))))
 (Q (some (vI (-1))) (mm I3 D))))))))) :
  Mt GG (d + 1) 241 [vR (some 106), vI p1, vI p2, vI p3, vI p4] (mm I D) Q := runC_m (cut := (fun pc => [61].contains pc)) 32 h
set_option maxRecDepth 100000 in
theorem s_M_deliver_61 {d : Nat} {I : IM} {D : DY} {Q : Option PV → PM → Prop} (p1 : Int32) (p2 : Int32) (p3 : Int32) (p4 : Int32) (l5 : Int32) (l6 : Int32) (l7 : Int32) (w8 : PV) (h : brP (p4 ≤ l7)
 (Q (some (vI l6)) (mm I D))
 (brP (((I 106 14) - l7) < p3)
 (Q (some (vI l6)) (mm I D))
 (tsP (inB l5 8) (brP ((I 140 (ixN l5)) < (p3 + l7))
 (tsP (inB l5 8) (brP ((p3 + l7) ≤ ((I 140 (ixN l5)) + 1))
 (CI d 238 [vI p1, vI p2] (mm I D) (fun x1 I1 => CV d 242 [vR (some 106), vI l5, vI x1, vI (p3 + l7), vR (some 141), vR (some 142), vI (9 * l5)] (mm I1 D) (fun I2 => tsP (inB l5 8) (tsP (inB l5 8) (Wp GG (d + 1) 241 61 [vR (some 106), vI p1, vI p2, vI p3, vI p4, vI l5, vI (l6 + 1), vI (l7 + 1), vI (p3 + l7)] [] (mm (up2 (up2 I2 140 (ixN l5) ((I2 140 (ixN l5)) + 1)) 125 4 ((I2 125 4) + 1)) D) Q)))))
 (Q (some (vI l6)) (mm (up2 I 125 6 ((I 125 6) + 1)) D))))
 (Wp GG (d + 1) 241 61 [vR (some 106), vI p1, vI p2, vI p3, vI p4, vI l5, vI l6, vI (l7 + 1), vI (p3 + l7)] [] (mm (up2 I 125 5 ((I 125 5) + 1)) D) Q))))) :
  Wp GG (d + 1) 241 61 [vR (some 106), vI p1, vI p2, vI p3, vI p4, vI l5, vI l6, vI l7, w8] [] (mm I D) Q := runC_p (cut := (fun pc => [61].contains pc)) 61 h
set_option maxRecDepth 100000 in
theorem s_M_handleA {d : Nat} {I : IM} {D : DY} {Q : Option PV → PM → Prop} (p1 : Int32) (p2 : Int32) (p3 : Int32) (p6 : Int32) (h : tsP (inB p1 8) (tsP (inB p3 241) (brP (¬ (((I 137 (ixN p1)) >>> (I 115 (ixN p3))) &&& 1) = 0)
 (CV d 243 [vR (some 106), vI p3] (mm I D) (fun I1 => tsP (inB p1 8) (brP (¬ (I1 139 (ixN p1)) = 1)
 (Wp GG (d + 1) 242 43 [vR (some 106), vI p1, vI p2, vI p3, vR (some 141), vR (some 142), vI p6, vT, vT] [] (mm I1 D) Q)
 (CI d 196 [vR (some 106), vI p2] (mm I1 D) (fun x2 I2 => brP (¬ x2 = 0)
 (Wp GG (d + 1) 242 43 [vR (some 106), vI p1, vI p2, vI p3, vR (some 141), vR (some 142), vI p6, vT, vT] [] (mm I2 D) Q)
 (Q none (mm I2 D)))))))
 (Q none (mm I D))))) :
  Mt GG (d + 1) 242 [vR (some 106), vI p1, vI p2, vI p3, vR (some 141), vR (some 142), vI p6] (mm I D) Q := runC_m (cut := (fun pc => [43, 91].contains pc)) 26 h
set_option maxRecDepth 100000 in
theorem s_M_handleA_43 {d : Nat} {I : IM} {D : DY} {Q : Option PV → PM → Prop} (p1 : Int32) (p2 : Int32) (p3 : Int32) (p6 : Int32) (h : CV d 195 [vR (some 106), vI p3] (mm I D) (fun I1 => tsP (inB p1 8) (brP (¬ (I1 138 (ixN p1)) = 0)
 (tsP (inB p1 8) (brP (¬ (I1 138 (ixN p1)) = 1)
 (Wp GG (d + 1) 242 91 [vR (some 106), vI p1, vI p2, vI p3, vR (some 141), vR (some 142), vI p6, vI (p6 + 0), vT] [] (mm I1 D) Q)
 (tsP (inB p3 241) (Wp GG (d + 1) 242 91 [vR (some 106), vI p1, vI p2, vI p3, vR (some 141), vR (some 142), vI p6, vI (p6 + (I1 115 (ixN p3))), vT] [] (mm I1 D) Q))))
 (tsP (inB p3 241) (Wp GG (d + 1) 242 91 [vR (some 106), vI p1, vI p2, vI p3, vR (some 141), vR (some 142), vI p6, vI (p6 + (I1 113 (ixN p3))), vT] [] (mm I1 D) Q))))) :
  Wp GG (d + 1) 242 43 [vR (some 106), vI p1, vI p2, vI p3, vR (some 141), vR (some 142), vI p6, vT, vT] [] (mm I D) Q := runC_p (cut := (fun pc => [43, 91].contains pc)) 23 h
set_option maxRecDepth 100000 in
theorem s_M_handleA_91 {d : Nat} {I : IM} {D : DY} {Q : Option PV → PM → Prop} (p1 : Int32) (p2 : Int32) (p3 : Int32) (p6 : Int32) (l7 : Int32) (h : tsP (inB l7 72) (brP (¬ (I 141 (ixN l7)) = 0)
 (tsP (inB l7 72) (tsP (inB p1 8) (brP ((I 136 (ixN p1)) = (0 : Int32))
 (tsP (inB l7 72) (tsP (inB l7 72) (Q none (mm (up2 (up2 I 141 (ixN l7) 1) 142 (ixN l7) ((I 142 (ixN l7)) + (I 106 25))) D))))
 (brP ((I 136 (ixN p1)) = ((0 : Int32) + 1))
 (tsP (inB l7 72) (tsP (inB l7 72) (Q none (mm (up2 (up2 I 141 (ixN l7) 1) 142 (ixN l7) ((I 142 (ixN l7)) + 1)) D))))
 (brP ((I 136 (ixN p1)) = (((0 : Int32) + 1) + 1))
 (tsP (inB l7 72) (CI d 39 [vI (I 142 (ixN l7)), vI (I 106 25)] (mm (up2 I 141 (ixN l7) 1) D) (fun x1 I1 => tsP (inB l7 72) (Q none (mm (up2 I1 142 (ixN l7) x1) D)))))
 (brP ((I 136 (ixN p1)) = ((((0 : Int32) + 1) + 1) + 1))
 (tsP (inB l7 72) (CI d 40 [vI (I 142 (ixN l7)), vI (I 106 25)] (mm (up2 I 141 (ixN l7) 1) D) (fun x2 I2 => tsP (inB l7 72) (Q none (mm (up2 I2 142 (ixN l7) x2) D)))))
 (brP ((I 136 (ixN p1)) = (((((0 : Int32) + 1) + 1) + 1) + 1))
 (Q none (mm (up2 I 141 (ixN l7) 1) D))
 (tsP (inB l7 72) (Q none (mm (up2 (up2 I 141 (ixN l7) 1) 142 (ixN l7) (I 106 25)) D))))))))))
 (tsP (inB l7 72) (tsP (inB p1 8) (brP ((I 136 (ixN p1)) = (0 : Int32))
 (tsP (inB l7 72) (Q none (mm (up2 (up2 I 141 (ixN l7) 1) 142 (ixN l7) (I 106 25)) D)))
 (brP ((I 136 (ixN p1)) = ((0 : Int32) + 1))
 (tsP (inB l7 72) (Q none (mm (up2 (up2 I 141 (ixN l7) 1) 142 (ixN l7) 1) D)))
 (brP ((I 136 (ixN p1)) = (((0 : Int32) + 1) + 1))
 (tsP (inB l7 72) (Q none (mm (up2 (up2 I 141 (ixN l7) 1) 142 (ixN l7) (I 106 25)) D)))
 (brP ((I 136 (ixN p1)) = ((((0 : Int32) + 1) + 1) + 1))
 (tsP (inB l7 72) (Q none (mm (up2 (up2 I 141 (ixN l7) 1) 142 (ixN l7) (I 106 25)) D)))
 (brP ((I 136 (ixN p1)) = (((((0 : Int32) + 1) + 1) + 1) + 1))
 (tsP (inB l7 72) (Q none (mm (up2 (up2 I 141 (ixN l7) 1) 142 (ixN l7) (I 106 25)) D)))
 (tsP (inB l7 72) (Q none (mm (up2 (up2 I 141 (ixN l7) 1) 142 (ixN l7) (I 106 25)) D)))))))))))) :
  Wp GG (d + 1) 242 91 [vR (some 106), vI p1, vI p2, vI p3, vR (some 141), vR (some 142), vI p6, vI l7, vT] [] (mm I D) Q := runC_p (cut := (fun pc => [43, 91].contains pc)) 28 h
set_option maxRecDepth 100000 in
theorem s_M_handleB {d : Nat} {I : IM} {D : DY} {Q : Option PV → PM → Prop} (p1 : Int32) (p2 : Int32) (p3 : Int32) (p6 : Int32) (h : tsP (inB p1 8) (tsP (inB p3 241) (brP (¬ (((I 137 (ixN p1)) >>> (I 115 (ixN p3))) &&& 1) = 0)
 (CV d 243 [vR (some 106), vI p3] (mm I D) (fun I1 => tsP (inB p1 8) (brP (¬ (I1 139 (ixN p1)) = 1)
 (Wp GG (d + 1) 242 43 [vR (some 106), vI p1, vI p2, vI p3, vR (some 143), vR (some 144), vI p6, vT, vT] [] (mm I1 D) Q)
 (CI d 196 [vR (some 106), vI p2] (mm I1 D) (fun x2 I2 => brP (¬ x2 = 0)
 (Wp GG (d + 1) 242 43 [vR (some 106), vI p1, vI p2, vI p3, vR (some 143), vR (some 144), vI p6, vT, vT] [] (mm I2 D) Q)
 (Q none (mm I2 D)))))))
 (Q none (mm I D))))) :
  Mt GG (d + 1) 242 [vR (some 106), vI p1, vI p2, vI p3, vR (some 143), vR (some 144), vI p6] (mm I D) Q := runC_m (cut := (fun pc => [43, 91].contains pc)) 26 h
set_option maxRecDepth 100000 in
theorem s_M_handleB_43 {d : Nat} {I : IM} {D : DY} {Q : Option PV → PM → Prop} (p1 : Int32) (p2 : Int32) (p3 : Int32) (p6 : Int32) (h : CV d 195 [vR (some 106), vI p3] (mm I D) (fun I1 => tsP (inB p1 8) (brP (¬ (I1 138 (ixN p1)) = 0)
 (tsP (inB p1 8) (brP (¬ (I1 138 (ixN p1)) = 1)
 (Wp GG (d + 1) 242 91 [vR (some 106), vI p1, vI p2, vI p3, vR (some 143), vR (some 144), vI p6, vI (p6 + 0), vT] [] (mm I1 D) Q)
 (tsP (inB p3 241) (Wp GG (d + 1) 242 91 [vR (some 106), vI p1, vI p2, vI p3, vR (some 143), vR (some 144), vI p6, vI (p6 + (I1 115 (ixN p3))), vT] [] (mm I1 D) Q))))
 (tsP (inB p3 241) (Wp GG (d + 1) 242 91 [vR (some 106), vI p1, vI p2, vI p3, vR (some 143), vR (some 144), vI p6, vI (p6 + (I1 113 (ixN p3))), vT] [] (mm I1 D) Q))))) :
  Wp GG (d + 1) 242 43 [vR (some 106), vI p1, vI p2, vI p3, vR (some 143), vR (some 144), vI p6, vT, vT] [] (mm I D) Q := runC_p (cut := (fun pc => [43, 91].contains pc)) 23 h
set_option maxRecDepth 100000 in
theorem s_M_handleB_91 {d : Nat} {I : IM} {D : DY} {Q : Option PV → PM → Prop} (p1 : Int32) (p2 : Int32) (p3 : Int32) (p6 : Int32) (l7 : Int32) (h : tsP (inB l7 9) (brP (¬ (I 143 (ixN l7)) = 0)
 (tsP (inB l7 9) (tsP (inB p1 8) (brP ((I 136 (ixN p1)) = (0 : Int32))
 (tsP (inB l7 9) (tsP (inB l7 9) (Q none (mm (up2 (up2 I 143 (ixN l7) 1) 144 (ixN l7) ((I 144 (ixN l7)) + (I 106 25))) D))))
 (brP ((I 136 (ixN p1)) = ((0 : Int32) + 1))
 (tsP (inB l7 9) (tsP (inB l7 9) (Q none (mm (up2 (up2 I 143 (ixN l7) 1) 144 (ixN l7) ((I 144 (ixN l7)) + 1)) D))))
 (brP ((I 136 (ixN p1)) = (((0 : Int32) + 1) + 1))
 (tsP (inB l7 9) (CI d 39 [vI (I 144 (ixN l7)), vI (I 106 25)] (mm (up2 I 143 (ixN l7) 1) D) (fun x1 I1 => tsP (inB l7 9) (Q none (mm (up2 I1 144 (ixN l7) x1) D)))))
 (brP ((I 136 (ixN p1)) = ((((0 : Int32) + 1) + 1) + 1))
 (tsP (inB l7 9) (CI d 40 [vI (I 144 (ixN l7)), vI (I 106 25)] (mm (up2 I 143 (ixN l7) 1) D) (fun x2 I2 => tsP (inB l7 9) (Q none (mm (up2 I2 144 (ixN l7) x2) D)))))
 (brP ((I 136 (ixN p1)) = (((((0 : Int32) + 1) + 1) + 1) + 1))
 (Q none (mm (up2 I 143 (ixN l7) 1) D))
 (tsP (inB l7 9) (Q none (mm (up2 (up2 I 143 (ixN l7) 1) 144 (ixN l7) (I 106 25)) D))))))))))
 (tsP (inB l7 9) (tsP (inB p1 8) (brP ((I 136 (ixN p1)) = (0 : Int32))
 (tsP (inB l7 9) (Q none (mm (up2 (up2 I 143 (ixN l7) 1) 144 (ixN l7) (I 106 25)) D)))
 (brP ((I 136 (ixN p1)) = ((0 : Int32) + 1))
 (tsP (inB l7 9) (Q none (mm (up2 (up2 I 143 (ixN l7) 1) 144 (ixN l7) 1) D)))
 (brP ((I 136 (ixN p1)) = (((0 : Int32) + 1) + 1))
 (tsP (inB l7 9) (Q none (mm (up2 (up2 I 143 (ixN l7) 1) 144 (ixN l7) (I 106 25)) D)))
 (brP ((I 136 (ixN p1)) = ((((0 : Int32) + 1) + 1) + 1))
 (tsP (inB l7 9) (Q none (mm (up2 (up2 I 143 (ixN l7) 1) 144 (ixN l7) (I 106 25)) D)))
 (brP ((I 136 (ixN p1)) = (((((0 : Int32) + 1) + 1) + 1) + 1))
 (tsP (inB l7 9) (Q none (mm (up2 (up2 I 143 (ixN l7) 1) 144 (ixN l7) (I 106 25)) D)))
 (tsP (inB l7 9) (Q none (mm (up2 (up2 I 143 (ixN l7) 1) 144 (ixN l7) (I 106 25)) D)))))))))))) :
  Wp GG (d + 1) 242 91 [vR (some 106), vI p1, vI p2, vI p3, vR (some 143), vR (some 144), vI p6, vI l7, vT] [] (mm I D) Q := runC_p (cut := (fun pc => [43, 91].contains pc)) 28 h
set_option maxRecDepth 100000 in
theorem s_M_giveRead {d : Nat} {I : IM} {D : DY} {Q : Option PV → PM → Prop} (p1 : Int32) (h : CV d 195 [vR (some 106), vI p1] (mm I D) (fun I1 => tsP (inB p1 241) (Q none (mm (up2 (up2 (up2 I1 112 0 (I1 106 25)) 112 1 (I1 106 26)) 112 2 (I1 113 (ixN p1))) D)))) :
  Mt GG (d + 1) 243 [vR (some 106), vI p1] (mm I D) Q := runC_m (cut := (fun _ => false)) 24 h
set_option maxRecDepth 100000 in
theorem s_M_swap {d : Nat} {I : IM} {D : DY} {Q : Option PV → PM → Prop} (p1 : Int32) (h : CI d 233 [vI p1] (mm I D) (fun x1 I1 => brP (¬ x1 = 0)
 (tsP (inB ((2 * p1) + 1) 8) (brP ((I1 135 (ixN ((2 * p1) + 1))) = 0)
 (Q (some (vI (-5))) (mm I1 D))
 (tsP (inB ((2 * p1) + 1) 8) (tsP (inB (2 * p1) 8) (brP ((I1 140 (ixN (2 * p1))) ≤ (I1 140 (ixN ((2 * p1) + 1))))
 (tsP (inB ((2 * p1) + 1) 8) (tsP (inB (2 * p1) 8) (tsP (inB ((2 * p1) + 1) 8) (tsP (inB (2 * p1) 8) (tsP (inB ((2 * p1) + 1) 8) (tsP (inB (2 * p1) 8) (tsP (inB ((2 * p1) + 1) 8) (tsP (inB (2 * p1) 8) (CI d 238 [vI p1, vI 1] (mm (up2 (up2 (up2 (up2 I1 136 (ixN (2 * p1)) (I1 136 (ixN ((2 * p1) + 1)))) 137 (ixN (2 * p1)) (I1 137 (ixN ((2 * p1) + 1)))) 138 (ixN (2 * p1)) (I1 138 (ixN ((2 * p1) + 1)))) 139 (ixN (2 * p1)) (I1 139 (ixN ((2 * p1) + 1)))) D) (fun x2 I2 => CI d 238 [vI p1, vI 0] (mm I2 D) (fun x3 I3 => CV d 190 [vR (some 106), vI x2, vI x3] (mm I3 D) (fun I4 => tsP (inB ((2 * p1) + 1) 8) (tsP (inB (2 * p1) 8) (Wp GG (d + 1) 244 130 [vR (some 106), vI p1, vI (2 * p1), vI 0] [] (mm (up2 I4 140 (ixN (2 * p1)) (I4 140 (ixN ((2 * p1) + 1)))) D) Q))))))))))))))
 (Q (some (vI (-5))) (mm I1 D)))))))
 (Q (some (vI (-1))) (mm I1 D)))) :
  Mt GG (d + 1) 244 [vR (some 106), vI p1] (mm I D) Q := runC_m (cut := (fun pc => [130].contains pc)) 86 h
set_option maxRecDepth 100000 in
theorem s_M_swap_130 {d : Nat} {I : IM} {D : DY} {Q : Option PV → PM → Prop} (p1 : Int32) (l2 : Int32) (l3 : Int32) (h : brP ((9 : Int32) ≤ l3)
 (tsP (inB (l2 + 1) 8) (tsP (inB l2 8) (Q (some (vI (I 140 (ixN l2)))) (mm (up2 I 135 (ixN (l2 + 1)) 0) D))))
 (tsP (inB (((9 * l2) + 9) + l3) 72) (tsP (inB ((9 * l2) + l3) 72) (tsP (inB (((9 * l2) + 9) + l3) 72) (tsP (inB ((9 * l2) + l3) 72) (Wp GG (d + 1) 244 130 [vR (some 106), vI p1, vI l2, vI (l3 + 1)] [] (mm (up2 (up2 I 141 (ixN ((9 * l2) + l3)) (I 141 (ixN (((9 * l2) + 9) + l3)))) 142 (ixN ((9 * l2) + l3)) (I 142 (ixN (((9 * l2) + 9) + l3)))) D) Q)))))) :
  Wp GG (d + 1) 244 130 [vR (some 106), vI p1, vI l2, vI l3] [] (mm I D) Q := runC_p (cut := (fun pc => [130].contains pc)) 42 h
set_option maxRecDepth 100000 in
theorem s_M_look {d : Nat} {I : IM} {D : DY} {Q : Option PV → PM → Prop} (p1 : Int32) (p2 : Int32) (p3 : Int32) (h : CI d 246 [vR (some 106), vI p1, vI p2] (mm I D) (fun x1 I1 => brP (¬ x1 = 0)
 (Wp GG (d + 1) 245 29 [vR (some 106), vI p1, vI p2, vI p3, vI ((2 * p1) + p2), vI 0, vI 0, vI 0] [] (mm I1 D) Q)
 (Q (some (vI (-2000000000))) (mm I1 D)))) :
  Mt GG (d + 1) 245 [vR (some 106), vI p1, vI p2, vI p3] (mm I D) Q := runC_m (cut := (fun pc => [29].contains pc)) 18 h
set_option maxRecDepth 100000 in
theorem s_M_look_29 {d : Nat} {I : IM} {D : DY} {Q : Option PV → PM → Prop} (p1 : Int32) (p2 : Int32) (p3 : Int32) (l4 : Int32) (l5 : Int32) (l6 : Int32) (l7 : Int32) (h : brP ((9 : Int32) ≤ l7)
 (brP (p3 = (0 : Int32))
 (tsP (inB l4 8) (Q (some (vI (I 140 (ixN l4)))) (mm I D)))
 (brP (p3 = ((0 : Int32) + 1))
 (Q (some (vI l5)) (mm I D))
 (brP (p3 = (((0 : Int32) + 1) + 1))
 (tsP (inB l4 8) (Q (some (vI ((I 106 14) - (I 140 (ixN l4))))) (mm I D)))
 (brP (p3 = ((((0 : Int32) + 1) + 1) + 1))
 (CI d 238 [vI p1, vI p2] (mm I D) (fun x1 I1 => CI d 247 [vR (some 106), vI l4, vI x1] (mm I1 D) (fun x2 I2 => brP (x2 = 0)
 (Q (some (vI 0)) (mm I2 D))
 (Q (some (vI 1)) (mm I2 D)))))
 (brP (p3 = (((((0 : Int32) + 1) + 1) + 1) + 1))
 (Q (some (vI l6)) (mm I D))
 (Q (some (vI (-2000000000))) (mm I D)))))))
 (tsP (inB ((9 * l4) + l7) 72) (brP (¬ (I 141 (ixN ((9 * l4) + l7))) = 0)
 (tsP (inB ((9 * l4) + l7) 72) (Wp GG (d + 1) 245 29 [vR (some 106), vI p1, vI p2, vI p3, vI l4, vI (l5 + 1), vI (l6 + (I 142 (ixN ((9 * l4) + l7)))), vI (l7 + 1)] [] (mm I D) Q))
 (Wp GG (d + 1) 245 29 [vR (some 106), vI p1, vI p2, vI p3, vI l4, vI l5, vI l6, vI (l7 + 1)] [] (mm I D) Q)))) :
  Wp GG (d + 1) 245 29 [vR (some 106), vI p1, vI p2, vI p3, vI l4, vI l5, vI l6, vI l7] [] (mm I D) Q := runC_p (cut := (fun pc => [29].contains pc)) 27 h
set_option maxRecDepth 100000 in
theorem s_M_isOne {d : Nat} {I : IM} {D : DY} {Q : Option PV → PM → Prop} (p1 : Int32) (p2 : Int32) (h : CI d 233 [vI p1] (mm I D) (fun x1 I1 => brP (x1 = 0)
 (Q (some (vI 0)) (mm I1 D))
 (CI d 169 [vI p2, vI 0, vI 1] (mm I1 D) (fun x2 I2 => brP (x2 = 0)
 (Q (some (vI 0)) (mm I2 D))
 (tsP (inB ((2 * p1) + p2) 8) (brP (¬ (I2 135 (ixN ((2 * p1) + p2))) = 1)
 (Q (some (vI 0)) (mm I2 D))
 (Q (some (vI 1)) (mm I2 D)))))))) :
  Mt GG (d + 1) 246 [vR (some 106), vI p1, vI p2] (mm I D) Q := runC_m (cut := (fun _ => false)) 21 h
set_option maxRecDepth 100000 in
theorem s_M_isTrue {d : Nat} {I : IM} {D : DY} {Q : Option PV → PM → Prop} (p1 : Int32) (p2 : Int32) (h : Wp GG (d + 1) 247 2 [vR (some 106), vI p1, vI p2, vI 0] [] (mm I D) Q) :
  Mt GG (d + 1) 247 [vR (some 106), vI p1, vI p2] (mm I D) Q := runC_m (cut := (fun pc => [2, 23, 57].contains pc)) 3 h
set_option maxRecDepth 100000 in
theorem s_M_isTrue_2 {d : Nat} {I : IM} {D : DY} {Q : Option PV → PM → Prop} (p1 : Int32) (p2 : Int32) (l3 : Int32) (h : brP ((9 : Int32) ≤ l3)
 (Wp GG (d + 1) 247 23 [vR (some 106), vI p1, vI p2, vI 1] [] (mm I D) Q)
 (tsP (inB l3 9) (Wp GG (d + 1) 247 2 [vR (some 106), vI p1, vI p2, vI (l3 + 1)] [] (mm (up2 I 143 (ixN l3) 0) D) Q))) :
  Wp GG (d + 1) 247 2 [vR (some 106), vI p1, vI p2, vI l3] [] (mm I D) Q := runC_p (cut := (fun pc => [2, 23, 57].contains pc)) 11 h
set_option maxRecDepth 100000 in
theorem s_M_isTrue_23 {d : Nat} {I : IM} {D : DY} {Q : Option PV → PM → Prop} (p1 : Int32) (p2 : Int32) (l3 : Int32) (h : tsP (inB p1 8) (brP ((I 140 (ixN p1)) < l3)
 (Wp GG (d + 1) 247 57 [vR (some 106), vI p1, vI p2, vI 0] [] (mm I D) Q)
 (CV d 242 [vR (some 106), vI p1, vI p2, vI l3, vR (some 143), vR (some 144), vI 0] (mm I D) (fun I1 => Wp GG (d + 1) 247 23 [vR (some 106), vI p1, vI p2, vI (l3 + 1)] [] (mm I1 D) Q)))) :
  Wp GG (d + 1) 247 23 [vR (some 106), vI p1, vI p2, vI l3] [] (mm I D) Q := runC_p (cut := (fun pc => [2, 23, 57].contains pc)) 19 h
set_option maxRecDepth 100000 in
theorem s_M_isTrue_57 {d : Nat} {I : IM} {D : DY} {Q : Option PV → PM → Prop} (p1 : Int32) (p2 : Int32) (l3 : Int32) (h : brP ((9 : Int32) ≤ l3)
 (Q (some (vI 1)) (mm I D))
 (tsP (inB l3 9) (tsP (inB ((9 * p1) + l3) 72) (brP (¬ (I 143 (ixN l3)) = (I 141 (ixN ((9 * p1) + l3))))
 (Q (some (vI 0)) (mm I D))
 (tsP (inB l3 9) (brP (¬ (I 143 (ixN l3)) = 1)
 (Wp GG (d + 1) 247 57 [vR (some 106), vI p1, vI p2, vI (l3 + 1)] [] (mm I D) Q)
 (tsP (inB l3 9) (tsP (inB ((9 * p1) + l3) 72) (brP ((I 144 (ixN l3)) = (I 142 (ixN ((9 * p1) + l3))))
 (Wp GG (d + 1) 247 57 [vR (some 106), vI p1, vI p2, vI (l3 + 1)] [] (mm I D) Q)
 (Q (some (vI 0)) (mm I D))))))))))) :
  Wp GG (d + 1) 247 57 [vR (some 106), vI p1, vI p2, vI l3] [] (mm I D) Q := runC_p (cut := (fun pc => [2, 23, 57].contains pc)) 38 h
set_option maxRecDepth 100000 in
theorem s_M_row {d : Nat} {I : IM} {D : DY} {Q : Option PV → PM → Prop} (p1 : Int32) (p2 : Int32) (p3 : Int32) (h : CI d 246 [vR (some 106), vI p1, vI p2] (mm I D) (fun x1 I1 => brP (x1 = 0)
 (Q (some (vI (-2000000000))) (mm I1 D))
 (CI d 169 [vI p3, vI 0, vI 8] (mm I1 D) (fun x2 I2 => brP (¬ x2 = 0)
 (tsP (inB ((9 * ((2 * p1) + p2)) + p3) 72) (brP (¬ (I2 141 (ixN ((9 * ((2 * p1) + p2)) + p3))) = 1)
 (Q (some (vI (-2000000000))) (mm I2 D))
 (tsP (inB ((9 * ((2 * p1) + p2)) + p3) 72) (Q (some (vI (I2 142 (ixN ((9 * ((2 * p1) + p2)) + p3))))) (mm I2 D)))))
 (Q (some (vI (-2000000000))) (mm I2 D)))))) :
  Mt GG (d + 1) 248 [vR (some 106), vI p1, vI p2, vI p3] (mm I D) Q := runC_m (cut := (fun _ => false)) 32 h
set_option maxRecDepth 100000 in
theorem s_M_policy {d : Nat} {I : IM} {D : DY} {Q : Option PV → PM → Prop} (p1 : Int32) (h : CI d 250 [vI p1] (mm I D) (fun x1 I1 => brP (¬ x1 = 0)
 (CV d 171 [vR (some 106)] (mm I1 D) (fun I2 => CI d 172 [vR (some 106), vI 29, vI 29] (mm I2 D) (fun x3 I3 => CV d 176 [vR (some 106), vI 32] (mm I3 D) (fun I4 => CI d 235 [vR (some 106)] (mm I4 D) (fun x5 I5 => CV d 176 [vR (some 106), vI 32] (mm I5 D) (fun I6 => brP ((0 : Int32) ≤ (I6 106 4))
 (CI d 172 [vR (some 106), vI 30, vI 30] (mm I6 D) (fun x7 I7 => CV d 176 [vR (some 106), vI 32] (mm I7 D) (fun I8 => brP ((0 : Int32) ≤ (I8 106 4))
 (CI d 188 [vR (some 106)] (mm I8 D) (fun x9 I9 => brP (x9 < 0)
 (tsP (inB p1 4) (tsP (inB p1 4) (tsP (inB p1 4) (tsP (inB p1 4) (brP ((I9 106 34) = 0)
 (tsP (inB p1 4) (tsP (inB p1 4) (tsP (inB p1 4) (brP ((I9 106 34) = 0)
 (tsP (inB p1 4) (tsP (inB p1 4) (tsP (inB p1 4) (Q (some (vI 1)) (mm (up2 (up2 (up2 (up2 (up2 (up2 (up2 (up2 (up2 (up2 I9 145 (ixN p1) 1) 146 (ixN p1) x5) 147 (ixN p1) 0) 148 (ixN p1) (I9 106 31)) 149 (ixN p1) 0) 150 (ixN p1) (I9 106 32)) 151 (ixN p1) (I9 106 33)) 152 (ixN p1) (I9 106 14)) 153 (ixN p1) 0) 154 (ixN p1) 0) D)))))
 (CI d 251 [vI p1, vI 1] (mm (up2 (up2 (up2 (up2 (up2 (up2 (up2 I9 145 (ixN p1) 1) 146 (ixN p1) x5) 147 (ixN p1) 0) 148 (ixN p1) (I9 106 31)) 149 (ixN p1) 0) 150 (ixN p1) (I9 106 32)) 151 (ixN p1) (I9 106 33)) D) (fun x10 I10 => CV d 190 [vR (some 106), vI 71, vI x10] (mm I10 D) (fun I11 => tsP (inB p1 4) (tsP (inB p1 4) (tsP (inB p1 4) (Q (some (vI 1)) (mm (up2 (up2 (up2 I11 152 (ixN p1) (I11 106 14)) 153 (ixN p1) 0) 154 (ixN p1) 0) D)))))))))))
 (tsP (inB p1 4) (tsP (inB p1 4) (tsP (inB p1 4) (brP ((I9 106 34) = 0)
 (tsP (inB p1 4) (tsP (inB p1 4) (tsP (inB p1 4) (Q (some (vI 1)) (mm (up2 (up2 (up2 (up2 (up2 (up2 (up2 (up2 (up2 (up2 I9 145 (ixN p1) 1) 146 (ixN p1) x5) 147 (ixN p1) 0) 148 (ixN p1) (I9 106 31)) 149 (ixN p1) 1) 150 (ixN p1) (I9 106 32)) 151 (ixN p1) (I9 106 33)) 152 (ixN p1) (I9 106 14)) 153 (ixN p1) 0) 154 (ixN p1) 0) D)))))
 (CI d 251 [vI p1, vI 1] (mm (up2 (up2 (up2 (up2 (up2 (up2 (up2 I9 145 (ixN p1) 1) 146 (ixN p1) x5) 147 (ixN p1) 0) 148 (ixN p1) (I9 106 31)) 149 (ixN p1) 1) 150 (ixN p1) (I9 106 32)) 151 (ixN p1) (I9 106 33)) D) (fun x12 I12 => CV d 190 [vR (some 106), vI 71, vI x12] (mm I12 D) (fun I13 => tsP (inB p1 4) (tsP (inB p1 4) (tsP (inB p1 4) (Q (some (vI 1)) (mm (up2 (up2 (up2 I13 152 (ixN p1) (I13 106 14)) 153 (ixN p1) 0) 154 (ixN p1) 0) D))))))))))))))))
 (Q (some (vI ((-100) - (I9 106 4)))) (mm I9 D))))
 (CV d 208 [vR (some 106), vI 1, vI 71] (mm I8 D) (fun I14 => CI d 188 [vR (some 106)] (mm I14 D) (fun x15 I15 => brP (x15 < 0)
 (tsP (inB p1 4) (tsP (inB p1 4) (tsP (inB p1 4) (tsP (inB p1 4) (brP ((I15 106 34) = 0)
 (tsP (inB p1 4) (tsP (inB p1 4) (tsP (inB p1 4) (brP ((I15 106 34) = 0)
 (tsP (inB p1 4) (tsP (inB p1 4) (tsP (inB p1 4) (Q (some (vI 1)) (mm (up2 (up2 (up2 (up2 (up2 (up2 (up2 (up2 (up2 (up2 I15 145 (ixN p1) 1) 146 (ixN p1) x5) 147 (ixN p1) 0) 148 (ixN p1) (I15 106 31)) 149 (ixN p1) 0) 150 (ixN p1) (I15 106 32)) 151 (ixN p1) (I15 106 33)) 152 (ixN p1) (I15 106 14)) 153 (ixN p1) 0) 154 (ixN p1) 0) D)))))
 (CI d 251 [vI p1, vI 1] (mm (up2 (up2 (up2 (up2 (up2 (up2 (up2 I15 145 (ixN p1) 1) 146 (ixN p1) x5) 147 (ixN p1) 0) 148 (ixN p1) (I15 106 31)) 149 (ixN p1) 0) 150 (ixN p1) (I15 106 32)) 151 (ixN p1) (I15 106 33)) D) (fun x16 I16 => CV d 190 [vR (some 106), vI 71, vI x16] (mm I16 D) (fun I17 => tsP (inB p1 4) (tsP (inB p1 4) (tsP (inB p1 4) (Q (some (vI 1)) (mm (up2 (up2 (up2 I17 152 (ixN p1) (I17 106 14)) 153 (ixN p1) 0) 154 (ixN p1) 0) D)))))))))))
 (tsP (inB p1 4) (tsP (inB p1 4) (tsP (inB p1 4) (brP ((I15 106 34) = 0)
 (tsP (inB p1 4) (tsP (inB p1 4) (tsP (inB p1 4) (Q (some (vI 1)) (mm (up2 (up2 (up2 (up2 (up2 (up2 (up2 (up2 (up2 (up2 I15 145 (ixN p1) 1) 146 (ixN p1) x5) 147 (ixN p1) 0) 148 (ixN p1) (I15 106 31)) 149 (ixN p1) 1) 150 (ixN p1) (I15 106 32)) 151 (ixN p1) (I15 106 33)) 152 (ixN p1) (I15 106 14)) 153 (ixN p1) 0) 154 (ixN p1) 0) D)))))
 (CI d 251 [vI p1, vI 1] (mm (up2 (up2 (up2 (up2 (up2 (up2 (up2 I15 145 (ixN p1) 1) 146 (ixN p1) x5) 147 (ixN p1) 0) 148 (ixN p1) (I15 106 31)) 149 (ixN p1) 1) 150 (ixN p1) (I15 106 32)) 151 (ixN p1) (I15 106 33)) D) (fun x18 I18 => CV d 190 [vR (some 106), vI 71, vI x18] (mm I18 D) (fun I19 => tsP (inB p1 4) (tsP (inB p1 4) (tsP (inB p1 4) (Q (some (vI 1)) (mm (up2 (up2 (up2 I19 152 (ixN p1) (I19 106 14)) 153 (ixN p1) 0) 154 (ixN p1) 0) D))))))))))))))))
 (Q (some (vI ((-100) - (I15 106 4)))) (mm I15 D))))))))
 (CI d 236 [vR (some 106), vI 28] (mm I6 D) (fun x20 I20 => brP (x20 = 0)
 (CI d 172 [vR (some 106), vI 30, vI 30] (mm I20 D) (fun x21 I21 => CV d 176 [vR (some 106), vI 32] (mm I21 D) (fun I22 => brP ((0 : Int32) ≤ (I22 106 4))
 (CI d 188 [vR (some 106)] (mm I22 D) (fun x23 I23 => brP (x23 < 0)
 (tsP (inB p1 4) (tsP (inB p1 4) (tsP (inB p1 4) (tsP (inB p1 4) (brP ((I23 106 34) = 0)
 (tsP (inB p1 4) (tsP (inB p1 4) (tsP (inB p1 4) (brP ((I23 106 34) = 0)
 (tsP (inB p1 4) (tsP (inB p1 4) (tsP (inB p1 4) (Q (some (vI 1)) (mm (up2 (up2 (up2 (up2 (up2 (up2 (up2 (up2 (up2 (up2 I23 145 (ixN p1) 1) 146 (ixN p1) x5) 147 (ixN p1) 0) 148 (ixN p1) (I23 106 31)) 149 (ixN p1) 0) 150 (ixN p1) (I23 106 32)) 151 (ixN p1) (I23 106 33)) 152 (ixN p1) (I23 106 14)) 153 (ixN p1) 0) 154 (ixN p1) 0) D)))))
 (CI d 251 [vI p1, vI 1] (mm (up2 (up2 (up2 (up2 (up2 (up2 (up2 I23 145 (ixN p1) 1) 146 (ixN p1) x5) 147 (ixN p1) 0) 148 (ixN p1) (I23 106 31)) 149 (ixN p1) 0) 150 (ixN p1) (I23 106 32)) 151 (ixN p1) (I23 106 33)) D) (fun x24 I24 => CV d 190 [vR (some 106), vI 71, vI x24] (mm I24 D) (fun I25 => tsP (inB p1 4) (tsP (inB p1 4) (tsP (inB p1 4) (Q (some (vI 1)) (mm (up2 (up2 (up2 I25 152 (ixN p1) (I25 106 14)) 153 (ixN p1) 0) 154 (ixN p1) 0) D)))))))))))
 (tsP (inB p1 4) (tsP (inB p1 4) (tsP (inB p1 4) (brP ((I23 106 34) = 0)
 (tsP (inB p1 4) (tsP (inB p1 4) (tsP (inB p1 4) (Q (some (vI 1)) (mm (up2 (up2 (up2 (up2 (up2 (up2 (up2 (up2 (up2 (up2 I23 145 (ixN p1) 1) 146 (ixN p1) x5) 147 (ixN p1) 0) 148 (ixN p1) (I23 106 31)) 149 (ixN p1) 1) 150 (ixN p1) (I23 106 32)) 151 (ixN p1) (I23 106 33)) 152 (ixN p1) (I23 106 14)) 153 (ixN p1) 0) 154 (ixN p1) 0) D)))))
 (CI d 251 [vI p1, vI 1] (mm (up2 (up2 (up2 (up2 (up2 (up2 (up2 I23 145 (ixN p1) 1) 146 (ixN p1) x5) 147 (ixN p1) 0) 148 (ixN p1) (I23 106 31)) 149 (ixN p1) 1) 150 (ixN p1) (I23 106 32)) 151 (ixN p1) (I23 106 33)) D) (fun x26 I26 => CV d 190 [vR (some 106), vI 71, vI x26] (mm I26 D) (fun I27 => tsP (inB p1 4) (tsP (inB p1 4) (tsP (inB p1 4) (Q (some (vI 1)) (mm (up2 (up2 (up2 I27 152 (ixN p1) (I27 106 14)) 153 (ixN p1) 0) 154 (ixN p1) 0) D))))))))))))))))
 (Q (some (vI ((-100) - (I23 106 4)))) (mm I23 D))))
 (CV d 208 [vR (some 106), vI 1, vI 71] (mm I22 D) (fun I28 => CI d 188 [vR (some 106)] (mm I28 D) (fun x29 I29 => brP (x29 < 0)
 (tsP (inB p1 4) (tsP (inB p1 4) (tsP (inB p1 4) (tsP (inB p1 4) (brP ((I29 106 34) = 0)
 (tsP (inB p1 4) (tsP (inB p1 4) (tsP (inB p1 4) (brP ((I29 106 34) = 0)
 (tsP (inB p1 4) (tsP (inB p1 4) (tsP (inB p1 4) (Q (some (vI 1)) (mm (up2 (up2 (up2 (up2 (up2 (up2 (up2 (up2 (up2 (up2 I29 145 (ixN p1) 1) 146 (ixN p1) x5) 147 (ixN p1) 0) 148 (ixN p1) (I29 106 31)) 149 (ixN p1) 0) 150 (ixN p1) (I29 106 32)) 151 (ixN p1) (I29 106 33)) 152 (ixN p1) (I29 106 14)) 153 (ixN p1) 0) 154 (ixN p1) 0) D)))))
 (CI d 251 [vI p1, vI 1] (mm (up2 (up2 (up2 (up2 (up2 (up2 (up2 I29 145 (ixN p1) 1) 146 (ixN p1) x5) 147 (ixN p1) 0) 148 (ixN p1) (I29 106 31)) 149 (ixN p1) 0) 150 (ixN p1) (I29 106 32)) 151 (ixN p1) (I29 106 33)) D) (fun x30 I30 => CV d 190 [vR (some 106), vI 71, vI x30] (mm I30 D) (fun I31 => tsP (inB p1 4) (tsP (inB p1 4) (tsP (inB p1 4) (Q (some (vI 1)) (mm (up2 (up2 (up2 I31 152 (ixN p1) (I31 106 14)) 153 (ixN p1) 0) 154 (ixN p1) 0) D)))))))))))
 (tsP (inB p1 4) (tsP (inB p1 4) (tsP (inB p1 4) (brP ((I29 106 34) = 0)
 (tsP (inB p1 4) (tsP (inB p1 4) (tsP (inB p1 4) (Q (some (vI 1)) (mm (up2 (up2 (up2 (up2 (up2 (up2 (up2 (up2 (up2 (up2 I29 145 (ixN p1) 1) 146 (ixN p1) x5) 147 (ixN p1) 0) 148 (ixN p1) (I29 106 31)) 149 (ixN p1) 1) 150 (ixN p1) (I29 106 32)) 151 (ixN p1) (I29 106 33)) 152 (ixN p1) (I29 106 14)) 153 (ixN p1) 0) 154 (ixN p1) 0) D)))))
 (CI d 251 [vI p1, vI 1] (mm (up2 (up2 (up2 (up2 (up2 (up2 (up2 I29 145 (ixN p1) 1) 146 (ixN p1) x5) 147 (ixN p1) 0) 148 (ixN p1) (I29 106 31)) 149 (ixN p1) 1) 150 (ixN p1) (I29 106 32)) 151 (ixN p1) (I29 106 33)) D) (fun x32 I32 => CV d 190 [vR (some 106), vI 71, vI x32] (mm I32 D) (fun I33 => tsP (inB p1 4) (tsP (inB p1 4) (tsP (inB p1 4) (Q (some (vI 1)) (mm (up2 (up2 (up2 I33 152 (ixN p1) (I33 106 14)) 153 (ixN p1) 0) 154 (ixN p1) 0) D))))))))))))))))
 (Q (some (vI ((-100) - (I29 106 4)))) (mm I29 D))))))))
 (CI d 172 [vR (some 106), vI 28, vI 28] (mm I20 D) (fun x34 I34 => CV d 176 [vR (some 106), vI 32] (mm I34 D) (fun I35 => CV d 178 [vR (some 106), vI 70, vI 0] (mm I35 D) (fun I36 => CV d 176 [vR (some 106), vI 32] (mm I36 D) (fun I37 => CI d 172 [vR (some 106), vI 30, vI 30] (mm I37 D) (fun x38 I38 => CV d 176 [vR (some 106), vI 32] (mm I38 D) (fun I39 => brP ((0 : Int32) ≤ (I39 106 4))
 (CI d 188 [vR (some 106)] (mm I39 D) (fun x40 I40 => brP (x40 < 0)
 (tsP (inB p1 4) (tsP (inB p1 4) (tsP (inB p1 4) (tsP (inB p1 4) (brP ((I40 106 34) = 0)
 (tsP (inB p1 4) (tsP (inB p1 4) (tsP (inB p1 4) (CI d 251 [vI p1, vI 0] (mm (up2 (up2 (up2 (up2 (up2 (up2 (up2 I40 145 (ixN p1) 1) 146 (ixN p1) x5) 147 (ixN p1) 1) 148 (ixN p1) (I40 106 31)) 149 (ixN p1) 0) 150 (ixN p1) (I40 106 32)) 151 (ixN p1) (I40 106 33)) D) (fun x41 I41 => CV d 190 [vR (some 106), vI 70, vI x41] (mm I41 D) (fun I42 => brP ((I42 106 34) = 0)
 (tsP (inB p1 4) (tsP (inB p1 4) (tsP (inB p1 4) (Q (some (vI 1)) (mm (up2 (up2 (up2 I42 152 (ixN p1) (I42 106 14)) 153 (ixN p1) 0) 154 (ixN p1) 0) D)))))
 (CI d 251 [vI p1, vI 1] (mm I42 D) (fun x43 I43 => CV d 190 [vR (some 106), vI 71, vI x43] (mm I43 D) (fun I44 => tsP (inB p1 4) (tsP (inB p1 4) (tsP (inB p1 4) (Q (some (vI 1)) (mm (up2 (up2 (up2 I44 152 (ixN p1) (I44 106 14)) 153 (ixN p1) 0) 154 (ixN p1) 0) D)))))))))))))
 (tsP (inB p1 4) (tsP (inB p1 4) (tsP (inB p1 4) (CI d 251 [vI p1, vI 0] (mm (up2 (up2 (up2 (up2 (up2 (up2 (up2 I40 145 (ixN p1) 1) 146 (ixN p1) x5) 147 (ixN p1) 1) 148 (ixN p1) (I40 106 31)) 149 (ixN p1) 1) 150 (ixN p1) (I40 106 32)) 151 (ixN p1) (I40 106 33)) D) (fun x45 I45 => CV d 190 [vR (some 106), vI 70, vI x45] (mm I45 D) (fun I46 => brP ((I46 106 34) = 0)
 (tsP (inB p1 4) (tsP (inB p1 4) (tsP (inB p1 4) (Q (some (vI 1)) (mm (up2 (up2 (up2 I46 152 (ixN p1) (I46 106 14)) 153 (ixN p1) 0) 154 (ixN p1) 0) D)))))
 (CI d 251 [vI p1, vI 1] (mm I46 D) (fun x47 I47 => CV d 190 [vR (some 106), vI 71, vI x47] (mm I47 D) (fun I48 => tsP (inB p1 4) (tsP (inB p1 4) (tsP (inB p1 4) (Q (some (vI 1)) (mm (up2 (up2 (up2 I48 152 (ixN p1) (I48 106 14)) 153 (ixN p1) 0) 154 (ixN p1) 0) D))))))))))))))))))
 (Q (some (vI ((-100) - (I40 106 4)))) (mm I40 D))))
 (CV d 208 [vR (some 106), vI 1, vI 71] (mm I39 D) (fun I49 => CI d 188 [vR (some 106)] (mm I49 D) (fun x50 I50 => brP (x50 < 0)
 (tsP (inB p1 4) (tsP (inB p1 4) (tsP (inB p1 4) (tsP (inB p1 4) (brP ((I50 106 34) = 0)
 (tsP (inB p1 4) (tsP (inB p1 4) (tsP (inB p1 4) (CI d 251 [vI p1, vI 0] (mm (up2 (up2 (up2 (up2 (up2 (up2 (up2 I50 145 (ixN p1) 1) 146 (ixN p1) x5) 147 (ixN p1) 1) 148 (ixN p1) (I50 106 31)) 149 (ixN p1) 0) 150 (ixN p1) (I50 106 32)) 151 (ixN p1) (I50 106 33)) D) (fun x51 I51 => CV d 190 [vR (some 106), vI 70, vI x51] (mm I51 D) (fun I52 => brP ((I52 106 34) = 0)
 (tsP (inB p1 4) (tsP (inB p1 4) (tsP (inB p1 4) (Q (some (vI 1)) (mm (up2 (up2 (up2 I52 152 (ixN p1) (I52 106 14)) 153 (ixN p1) 0) 154 (ixN p1) 0) D)))))
 (CI d 251 [vI p1, vI 1] (mm I52 D) (fun x53 I53 => CV d 190 [vR (some 106), vI 71, vI x53] (mm I53 D) (fun I54 => tsP (inB p1 4) (tsP (inB p1 4) (tsP (inB p1 4) (Q (some (vI 1)) (mm (up2 (up2 (up2 I54 152 (ixN p1) (I54 106 14)) 153 (ixN p1) 0) 154 (ixN p1) 0) D)))))))))))))
 (tsP (inB p1 4) (tsP (inB p1 4) (tsP (inB p1 4) (CI d 251 [vI p1, vI 0] (mm (up2 (up2 (up2 (up2 (up2 (up2 (up2 I50 145 (ixN p1) 1) 146 (ixN p1) x5) 147 (ixN p1) 1) 148 (ixN p1) (I50 106 31)) 149 (ixN p1) 1) 150 (ixN p1) (I50 106 32)) 151 (ixN p1) (I50 106 33)) D) (fun x55 I55 => CV d 190 [vR (some 106), vI 70, vI x55] (mm I55 D) (fun I56 => brP ((I56 106 34) = 0)
 (tsP (inB p1 4) (tsP (inB p1 4) (tsP (inB p1 4) (Q (some (vI 1)) (mm (up2 (up2 (up2 I56 152 (ixN p1) (I56 106 14)) 153 (ixN p1) 0) 154 (ixN p1) 0) D)))))
 (CI d 251 [vI p1, vI 1] (mm I56 D) (fun x57 I57 => CV d 190 [vR (some 106), vI 71, vI x57] (mm I57 D) (fun I58 => tsP (inB p1 4) (tsP (inB p1 4) (tsP (inB p1 4) (Q (some (vI 1)) (mm (up2 (up2 (up2 I58 152 (ixN p1) (I58 106 14)) 153 (ixN p1) 0) 154 (ixN p1) 0) D))))))))))))))))))
 (Q (some (vI ((-100) - (I50 106 4)))) (mm I50 D))))))))))))))))))))
 (Q (some (vI (-1))) (mm I1 D)))) :
  Mt GG (d + 1) 249 [vR (some 106), vI p1] (mm I D) Q := runC_m (cut := (fun _ => false)) 143 h
set_option maxRecDepth 100000 in
theorem s_M_isPolicy {d : Nat} {I : IM} {D : DY} {Q : Option PV → PM → Prop} (p1 : Int32) (h : CI d 169 [vI p1, vI 0, vI 3] (mm I D) (fun x1 I1 => rtP 2 x1 (Q (some (vI x1)) (mm I1 D)))) :
  Mt GG (d + 1) 250 [vI p1] (mm I D) Q := runC_m (cut := (fun _ => false)) 5 h
set_option maxRecDepth 100000 in
theorem s_M_policySlot {d : Nat} {I : IM} {D : DY} {Q : Option PV → PM → Prop} (p1 : Int32) (p2 : Int32) (h : Q (some (vI ((62 + (2 * p1)) + p2))) (mm I D)) :
  Mt GG d 251 [vI p1, vI p2] (mm I D) Q := runC_m (cut := (fun _ => false)) 8 h
set_option maxRecDepth 100000 in
theorem s_M_run {d : Nat} {I : IM} {D : DY} {Q : Option PV → PM → Prop} (p1 : Int32) (p2 : Int32) (h : CI d 250 [vI p1] (mm I D) (fun x1 I1 => brP (x1 = 0)
 (Q (some (vI (-1))) (mm I1 D))
 (CI d 169 [vI p2, vI 1, vI 240] (mm I1 D) (fun x2 I2 => brP (¬ x2 = 0)
 (tsP (inB p1 4) (brP (¬ (I2 145 (ixN p1)) = 0)
 (Wp GG (d + 1) 252 34 [vR (some 106), vI p1, vI p2, vI 0] [] (mm I2 D) Q)
 (Q (some (vI (-5))) (mm I2 D))))
 (Q (some (vI (-1))) (mm I2 D)))))) :
  Mt GG (d + 1) 252 [vR (some 106), vI p1, vI p2] (mm I D) Q := runC_m (cut := (fun pc => [34].contains pc)) 16 h
set_option maxRecDepth 100000 in
theorem s_M_run_34 {d : Nat} {I : IM} {D : DY} {Q : Option PV → PM → Prop} (p1 : Int32) (p2 : Int32) (l3 : Int32) (h : brP (p2 ≤ l3)
 (Q (some (vI l3)) (mm I D))
 (tsP (inB p1 4) (brP ((I 106 14) ≤ (I 152 (ixN p1)))
 (Q (some (vI l3)) (mm I D))
 (tsP (inB p1 4) (CI d 253 [vR (some 106), vI p1, vI ((I 152 (ixN p1)) + 1)] (mm I D) (fun x1 I1 => brP (¬ x1 = 0)
 (tsP (inB p1 4) (tsP (inB p1 4) (Wp GG (d + 1) 252 34 [vR (some 106), vI p1, vI p2, vI (l3 + 1)] [] (mm (up2 I1 152 (ixN p1) ((I1 152 (ixN p1)) + 1)) D) Q)))
 (Q (some (vI l3)) (mm I1 D)))))))) :
  Wp GG (d + 1) 252 34 [vR (some 106), vI p1, vI p2, vI l3] [] (mm I D) Q := runC_p (cut := (fun pc => [34].contains pc)) 31 h
set_option maxRecDepth 100000 in
theorem s_M_ranOver {d : Nat} {I : IM} {D : DY} {Q : Option PV → PM → Prop} (p1 : Int32) (p2 : Int32) (h : tsP (inB p1 4) (tsP (inB p2 241) (brP (¬ (((I 146 (ixN p1)) >>> (I 115 (ixN p2))) &&& 1) = 0)
 (CV d 243 [vR (some 106), vI p2] (mm I D) (fun I1 => tsP (inB p1 4) (brP (¬ (I1 147 (ixN p1)) = 1)
 (CV d 243 [vR (some 106), vI p2] (mm I1 D) (fun I2 => tsP (inB p1 4) (tsP (inB p1 4) (brP (¬ (I2 149 (ixN p1)) = 1)
 (tsP (inB p1 4) (tsP (inB p1 4) (tsP (inB p2 241) (CI d 209 [vR (some 106), vI (I2 113 (ixN p2))] (mm (up2 (up2 (up2 I2 106 31 (I2 148 (ixN p1))) 106 32 (I2 150 (ixN p1))) 106 33 (I2 151 (ixN p1))) D) (fun x3 I3 => brP (¬ x3 = (-3))
 (brP (x3 ≤ 0)
 (tsP (inB p1 4) (tsP (inB p1 4) (Q (some (vI 1)) (mm (up2 I3 154 (ixN p1) ((I3 154 (ixN p1)) + 1)) D))))
 (tsP (inB p1 4) (tsP (inB p1 4) (Q (some (vI 1)) (mm (up2 I3 153 (ixN p1) ((I3 153 (ixN p1)) + 1)) D)))))
 (Q (some (vI 0)) (mm I3 D)))))))
 (CI d 251 [vI p1, vI 1] (mm (up2 I2 106 31 (I2 148 (ixN p1))) D) (fun x4 I4 => CI d 196 [vR (some 106), vI x4] (mm I4 D) (fun x5 I5 => CI d 40 [vI 999, vI x5] (mm I5 D) (fun x6 I6 => CI d 39 [vI 0, vI x6] (mm I6 D) (fun x7 I7 => tsP (inB p1 4) (tsP (inB p2 241) (CI d 209 [vR (some 106), vI (I7 113 (ixN p2))] (mm (up2 (up2 I7 106 32 x7) 106 33 (I7 151 (ixN p1))) D) (fun x8 I8 => brP (¬ x8 = (-3))
 (brP (x8 ≤ 0)
 (tsP (inB p1 4) (tsP (inB p1 4) (Q (some (vI 1)) (mm (up2 I8 154 (ixN p1) ((I8 154 (ixN p1)) + 1)) D))))
 (tsP (inB p1 4) (tsP (inB p1 4) (Q (some (vI 1)) (mm (up2 I8 153 (ixN p1) ((I8 153 (ixN p1)) + 1)) D)))))
 (Q (some (vI 0)) (mm I8 D))))))))))))))
 (CI d 251 [vI p1, vI 0] (mm I1 D) (fun x9 I9 => CI d 196 [vR (some 106), vI x9] (mm I9 D) (fun x10 I10 => brP (¬ x10 = 0)
 (CV d 243 [vR (some 106), vI p2] (mm I10 D) (fun I11 => tsP (inB p1 4) (tsP (inB p1 4) (brP (¬ (I11 149 (ixN p1)) = 1)
 (tsP (inB p1 4) (tsP (inB p1 4) (tsP (inB p2 241) (CI d 209 [vR (some 106), vI (I11 113 (ixN p2))] (mm (up2 (up2 (up2 I11 106 31 (I11 148 (ixN p1))) 106 32 (I11 150 (ixN p1))) 106 33 (I11 151 (ixN p1))) D) (fun x12 I12 => brP (¬ x12 = (-3))
 (brP (x12 ≤ 0)
 (tsP (inB p1 4) (tsP (inB p1 4) (Q (some (vI 1)) (mm (up2 I12 154 (ixN p1) ((I12 154 (ixN p1)) + 1)) D))))
 (tsP (inB p1 4) (tsP (inB p1 4) (Q (some (vI 1)) (mm (up2 I12 153 (ixN p1) ((I12 153 (ixN p1)) + 1)) D)))))
 (Q (some (vI 0)) (mm I12 D)))))))
 (CI d 251 [vI p1, vI 1] (mm (up2 I11 106 31 (I11 148 (ixN p1))) D) (fun x13 I13 => CI d 196 [vR (some 106), vI x13] (mm I13 D) (fun x14 I14 => CI d 40 [vI 999, vI x14] (mm I14 D) (fun x15 I15 => CI d 39 [vI 0, vI x15] (mm I15 D) (fun x16 I16 => tsP (inB p1 4) (tsP (inB p2 241) (CI d 209 [vR (some 106), vI (I16 113 (ixN p2))] (mm (up2 (up2 I16 106 32 x16) 106 33 (I16 151 (ixN p1))) D) (fun x17 I17 => brP (¬ x17 = (-3))
 (brP (x17 ≤ 0)
 (tsP (inB p1 4) (tsP (inB p1 4) (Q (some (vI 1)) (mm (up2 I17 154 (ixN p1) ((I17 154 (ixN p1)) + 1)) D))))
 (tsP (inB p1 4) (tsP (inB p1 4) (Q (some (vI 1)) (mm (up2 I17 153 (ixN p1) ((I17 153 (ixN p1)) + 1)) D)))))
 (Q (some (vI 0)) (mm I17 D))))))))))))))
 (Q (some (vI 1)) (mm I10 D))))))))
 (Q (some (vI 1)) (mm I D))))) :
  Mt GG (d + 1) 253 [vR (some 106), vI p1, vI p2] (mm I D) Q := runC_m (cut := (fun _ => false)) 83 h
set_option maxRecDepth 100000 in
theorem s_M_policyOf {d : Nat} {I : IM} {D : DY} {Q : Option PV → PM → Prop} (p1 : Int32) (p2 : Int32) (h : CI d 250 [vI p1] (mm I D) (fun x1 I1 => brP (x1 = 0)
 (Q (some (vI (-1))) (mm I1 D))
 (CI d 169 [vI p2, vI 0, vI 2] (mm I1 D) (fun x2 I2 => brP (¬ x2 = 0)
 (tsP (inB p1 4) (brP (¬ (I2 145 (ixN p1)) = 0)
 (brP (¬ p2 = 0)
 (brP (¬ p2 = 1)
 (tsP (inB p1 4) (Q (some (vI (I2 154 (ixN p1)))) (mm I2 D)))
 (tsP (inB p1 4) (Q (some (vI (I2 153 (ixN p1)))) (mm I2 D))))
 (tsP (inB p1 4) (Q (some (vI (I2 152 (ixN p1)))) (mm I2 D))))
 (Q (some (vI (-5))) (mm I2 D))))
 (Q (some (vI (-1))) (mm I2 D)))))) :
  Mt GG (d + 1) 254 [vR (some 106), vI p1, vI p2] (mm I D) Q := runC_m (cut := (fun _ => false)) 24 h
set_option maxRecDepth 100000 in
theorem s_M_see {d : Nat} {I : IM} {D : DY} {Q : Option PV → PM → Prop} (p1 : Int32) (p2 : Int32) (h : CI d 256 [vI p1] (mm I D) (fun x1 I1 => brP (x1 = 0)
 (Q (some (vI (-1))) (mm I1 D))
 (CI d 192 [vI p2] (mm I1 D) (fun x2 I2 => brP (¬ x2 = 0)
 (tsP (inB p1 4) (tsP (inB p1 4) (tsP (inB p2 8) (tsP (inB p1 4) (tsP (inB p2 8) (Q (some (vI (I2 120 (ixN p2)))) (mm (up2 (up2 (up2 I2 155 (ixN p1) 1) 156 (ixN p1) p2) 157 (ixN p1) (I2 120 (ixN p2))) D)))))))
 (Q (some (vI (-1))) (mm I2 D)))))) :
  Mt GG (d + 1) 255 [vR (some 106), vI p1, vI p2] (mm I D) Q := runC_m (cut := (fun _ => false)) 29 h
set_option maxRecDepth 100000 in
theorem s_M_isClient {d : Nat} {I : IM} {D : DY} {Q : Option PV → PM → Prop} (p1 : Int32) (h : CI d 169 [vI p1, vI 0, vI 3] (mm I D) (fun x1 I1 => rtP 2 x1 (Q (some (vI x1)) (mm I1 D)))) :
  Mt GG (d + 1) 256 [vI p1] (mm I D) Q := runC_m (cut := (fun _ => false)) 5 h
set_option maxRecDepth 100000 in
theorem s_M_harmless {d : Nat} {I : IM} {D : DY} {Q : Option PV → PM → Prop}  (h : CV d 171 [vR (some 106)] (mm I D) (fun I1 => brP (¬ (I1 106 2) = 0)
 (CI d 235 [vR (some 106)] (mm I1 D) (fun x2 I2 => CI d 188 [vR (some 106)] (mm I2 D) (fun x3 I3 => brP (x3 < 0)
 (Wp GG (d + 1) 257 44 [vR (some 106), vI x2, vI 0, vI 0] [] (mm (up2 I3 106 75 x2) D) Q)
 (Q (some (vI ((-100) - (I3 106 4)))) (mm I3 D)))))
 (CI d 188 [vR (some 106)] (mm I1 D) (fun x4 I4 => brP (x4 < 0)
 (Wp GG (d + 1) 257 44 [vR (some 106), vI 0, vI 0, vI 0] [] (mm (up2 I4 106 75 0) D) Q)
 (Q (some (vI ((-100) - (I4 106 4)))) (mm I4 D)))))) :
  Mt GG (d + 1) 257 [vR (some 106)] (mm I D) Q := runC_m (cut := (fun pc => [44].contains pc)) 19 h
set_option maxRecDepth 100000 in
theorem s_M_harmless_44 {d : Nat} {I : IM} {D : DY} {Q : Option PV → PM → Prop} (l1 : Int32) (l2 : Int32) (l3 : Int32) (h : brP ((9 : Int32) ≤ l3)
 (Q (some (vI l2)) (mm I D))
 (Wp GG (d + 1) 257 44 [vR (some 106), vI l1, vI (l2 + ((l1 >>> l3) &&& 1)), vI (l3 + 1)] [] (mm I D) Q)) :
  Wp GG (d + 1) 257 44 [vR (some 106), vI l1, vI l2, vI l3] [] (mm I D) Q := runC_p (cut := (fun pc => [44].contains pc)) 14 h
set_option maxRecDepth 100000 in
theorem s_M_attempt {d : Nat} {I : IM} {D : DY} {Q : Option PV → PM → Prop} (p1 : Int32) (p2 : Int32) (h : CI d 256 [vI p1] (mm I D) (fun x1 I1 => brP (x1 = 0)
 (Q (some (vI (-1))) (mm I1 D))
 (CI d 169 [vI p2, vI 0, vI 1] (mm I1 D) (fun x2 I2 => brP (¬ x2 = 0)
 (tsP (inB p1 4) (brP (¬ (I2 155 (ixN p1)) = 0)
 (CI d 207 [vR (some 106)] (mm I2 D) (fun x3 I3 => brP (x3 < 0)
 (tsP (inB p1 4) (tsP (inB (I3 156 (ixN p1)) 8) (tsP (inB p1 4) (brP ((I3 120 (ixN (I3 156 (ixN p1)))) = (I3 157 (ixN p1)))
 (CI d 209 [vR (some 106), vI (I3 156 (ixN p1))] (mm I3 D) (fun x4 I4 => brP (x4 ≤ 0)
 (Q (some (vI x4)) (mm I4 D))
 (tsP (inB (I3 156 (ixN p1)) 8) (tsP (inB p1 4) (Q (some (vI x4)) (mm (up2 I4 157 (ixN p1) (I4 120 (ixN (I3 156 (ixN p1))))) D))))))
 (brP (p2 = 0)
 (Q (some (vI (-4))) (mm (up2 I3 125 2 ((I3 125 2) + 1)) D))
 (tsP (inB p1 4) (CI d 259 [vR (some 106), vI (I3 156 (ixN p1)), vI (I3 157 (ixN p1))] (mm I3 D) (fun x5 I5 => brP (¬ x5 = 0)
 (CI d 209 [vR (some 106), vI (I3 156 (ixN p1))] (mm I5 D) (fun x6 I6 => brP (x6 ≤ 0)
 (Q (some (vI x6)) (mm I6 D))
 (tsP (inB (I3 156 (ixN p1)) 8) (tsP (inB p1 4) (Q (some (vI x6)) (mm (up2 I6 157 (ixN p1) (I6 120 (ixN (I3 156 (ixN p1))))) D))))))
 (Q (some (vI (-4))) (mm (up2 I5 125 2 ((I5 125 2) + 1)) D))))))))))
 (Q (some (vI ((-100) - (I3 106 4)))) (mm I3 D))))
 (Q (some (vI (-5))) (mm I2 D))))
 (Q (some (vI (-1))) (mm I2 D)))))) :
  Mt GG (d + 1) 258 [vR (some 106), vI p1, vI p2] (mm I D) Q := runC_m (cut := (fun _ => false)) 56 h
set_option maxRecDepth 100000 in
theorem s_M_allHarmless {d : Nat} {I : IM} {D : DY} {Q : Option PV → PM → Prop} (p1 : Int32) (p2 : Int32) (h : Wp GG d 259 2 [vR (some 106), vI p1, vI p2, vI 1] [] (mm I D) Q) :
  Mt GG d 259 [vR (some 106), vI p1, vI p2] (mm I D) Q := runC_m (cut := (fun pc => [2].contains pc)) 3 h
set_option maxRecDepth 100000 in
theorem s_M_allHarmless_2 {d : Nat} {I : IM} {D : DY} {Q : Option PV → PM → Prop} (p1 : Int32) (p2 : Int32) (l3 : Int32) (h : brP ((I 106 14) < l3)
 (Q (some (vI 1)) (mm I D))
 (tsP (inB l3 241) (brP (¬ (I 113 (ixN l3)) = p1)
 (Wp GG d 259 2 [vR (some 106), vI p1, vI p2, vI (l3 + 1)] [] (mm I D) Q)
 (tsP (inB l3 241) (brP ((I 114 (ixN l3)) ≤ p2)
 (Wp GG d 259 2 [vR (some 106), vI p1, vI p2, vI (l3 + 1)] [] (mm I D) Q)
 (tsP (inB l3 241) (brP (¬ (((I 106 75) >>> (I 115 (ixN l3))) &&& 1) = 0)
 (Wp GG d 259 2 [vR (some 106), vI p1, vI p2, vI (l3 + 1)] [] (mm I D) Q)
 (Q (some (vI 0)) (mm I D))))))))) :
  Wp GG d 259 2 [vR (some 106), vI p1, vI p2, vI l3] [] (mm I D) Q := runC_p (cut := (fun pc => [2].contains pc)) 29 h
set_option maxRecDepth 100000 in
theorem s_M_watch {d : Nat} {I : IM} {D : DY} {Q : Option PV → PM → Prop} (p1 : Int32) (p2 : Int32) (h : CI d 192 [vI p1] (mm I D) (fun x1 I1 => brP (x1 = 0)
 (Q (some (vI (-1))) (mm I1 D))
 (CI d 169 [vI p2, vI 0, vI 3] (mm I1 D) (fun x2 I2 => brP (¬ x2 = 0)
 (CV d 171 [vR (some 106)] (mm I2 D) (fun I3 => CV d 178 [vR (some 106), vI 72, vI 1] (mm I3 D) (fun I4 => CI d 188 [vR (some 106)] (mm I4 D) (fun x5 I5 => brP (x5 < 0)
 (Wp GG (d + 1) 260 63 [vR (some 106), vI p1, vI p2, vI (-2), vI (-2), vI 0, vI 0, vI 0, vI 0, vT] [] (mm I5 D) Q)
 (Q (some (vI ((-100) - (I5 106 4)))) (mm I5 D))))))
 (Q (some (vI (-1))) (mm I2 D)))))) :
  Mt GG (d + 1) 260 [vR (some 106), vI p1, vI p2] (mm I D) Q := runC_m (cut := (fun pc => [63, 88].contains pc)) 30 h
set_option maxRecDepth 100000 in
theorem s_M_watch_63 {d : Nat} {I : IM} {D : DY} {Q : Option PV → PM → Prop} (p1 : Int32) (p2 : Int32) (l3 : Int32) (l4 : Int32) (l5 : Int32) (l6 : Int32) (l7 : Int32) (l8 : Int32) (w9 : PV) (h : tsP (inB p1 8) (brP ((I 120 (ixN p1)) < l8)
 (brP (¬ p2 = 0)
 (brP (¬ p2 = 1)
 (brP (¬ p2 = 2)
 (Q (some (vI l4)) (mm I D))
 (Q (some (vI l7)) (mm I D)))
 (Q (some (vI l5)) (mm I D)))
 (Q (some (vI l3)) (mm I D)))
 (CV d 194 [vR (some 106), vI p1, vI (I 106 14), vI l8] (mm I D) (fun I1 => Wp GG (d + 1) 260 88 [vR (some 106), vI p1, vI p2, vI l3, vI l4, vI l5, vI l6, vI l7, vI l8, vI 0] [] (mm I1 D) Q)))) :
  Wp GG (d + 1) 260 63 [vR (some 106), vI p1, vI p2, vI l3, vI l4, vI l5, vI l6, vI l7, vI l8, w9] [] (mm I D) Q := runC_p (cut := (fun pc => [63, 88].contains pc)) 17 h
set_option maxRecDepth 100000 in
theorem s_M_watch_88 {d : Nat} {I : IM} {D : DY} {Q : Option PV → PM → Prop} (p1 : Int32) (p2 : Int32) (l3 : Int32) (l4 : Int32) (l5 : Int32) (l6 : Int32) (l7 : Int32) (l8 : Int32) (l9 : Int32) (h : brP ((4 : Int32) ≤ l9)
 (CI d 196 [vR (some 106), vI 72] (mm (up2 I 112 4 l8) D) (fun x1 I1 => brP (¬ x1 = 0)
 (brP (¬ l3 = (-2))
 (CI d 39 [vI l7, vI (l6 + 1)] (mm I1 D) (fun x2 I2 => Wp GG (d + 1) 260 63 [vR (some 106), vI p1, vI p2, vI l3, vI l8, vI (l5 + 1), vI (l6 + 1), vI x2, vI (l8 + 1), vI l9] [] (mm I2 D) Q))
 (CI d 39 [vI l7, vI (l6 + 1)] (mm I1 D) (fun x3 I3 => Wp GG (d + 1) 260 63 [vR (some 106), vI p1, vI p2, vI l8, vI l8, vI (l5 + 1), vI (l6 + 1), vI x3, vI (l8 + 1), vI l9] [] (mm I3 D) Q)))
 (Wp GG (d + 1) 260 63 [vR (some 106), vI p1, vI p2, vI l3, vI l4, vI l5, vI 0, vI l7, vI (l8 + 1), vI l9] [] (mm I1 D) Q)))
 (tsP (inB l9 4) (tsP (inB l9 5) (Wp GG (d + 1) 260 88 [vR (some 106), vI p1, vI p2, vI l3, vI l4, vI l5, vI l6, vI l7, vI l8, vI (l9 + 1)] [] (mm (up2 I 112 (ixN l9) (I 121 (ixN l9))) D) Q)))) :
  Wp GG (d + 1) 260 88 [vR (some 106), vI p1, vI p2, vI l3, vI l4, vI l5, vI l6, vI l7, vI l8, vI l9] [] (mm I D) Q := runC_p (cut := (fun pc => [63, 88].contains pc)) 28 h
set_option maxRecDepth 100000 in
theorem s_M_image {d : Nat} {I : IM} {D : DY} {Q : Option PV → PM → Prop}  (h : CV d 262 [vR (some 106), vI 0] (mm (up2 I 106 76 1) D) (fun I1 => Q (some (vI (I1 106 14))) (mm I1 D))) :
  Mt GG (d + 1) 261 [vR (some 106)] (mm I D) Q := runC_m (cut := (fun _ => false)) 9 h
set_option maxRecDepth 100000 in
theorem s_M_swapAll {d : Nat} {I : IM} {D : DY} {Q : Option PV → PM → Prop} (p1 : Int32) (h : CI d 263 [vR (some 106), vI (I 106 14), vI p1] (mm (up2 I 106 78 0) D) (fun x1 I1 => CI d 263 [vR (some 106), vI (I1 106 22), vI p1] (mm (up2 I1 106 14 x1) D) (fun x2 I2 => CI d 263 [vR (some 106), vI (I2 106 23), vI p1] (mm (up2 I2 106 22 x2) D) (fun x3 I3 => CI d 263 [vR (some 106), vI (I3 106 75), vI p1] (mm (up2 I3 106 23 x3) D) (fun x4 I4 => CV d 264 [vR (some 106), vR (some 113), vI p1] (mm (up2 I4 106 75 x4) D) (fun I5 => CV d 264 [vR (some 106), vR (some 114), vI p1] (mm I5 D) (fun I6 => CV d 264 [vR (some 106), vR (some 115), vI p1] (mm I6 D) (fun I7 => CV d 264 [vR (some 106), vR (some 116), vI p1] (mm I7 D) (fun I8 => CV d 264 [vR (some 106), vR (some 117), vI p1] (mm I8 D) (fun I9 => CV d 264 [vR (some 106), vR (some 118), vI p1] (mm I9 D) (fun I10 => CV d 264 [vR (some 106), vR (some 119), vI p1] (mm I10 D) (fun I11 => CV d 264 [vR (some 106), vR (some 120), vI p1] (mm I11 D) (fun I12 => CV d 264 [vR (some 106), vR (some 122), vI p1] (mm I12 D) (fun I13 => CV d 264 [vR (some 106), vR (some 123), vI p1] (mm I13 D) (fun I14 => CV d 264 [vR (some 106), vR (some 124), vI p1] (mm I14 D) (fun I15 => CV d 264 [vR (some 106), vR (some 126), vI p1] (mm I15 D) (fun I16 => CV d 264 [vR (some 106), vR (some 125), vI p1] (mm I16 D) (fun I17 => CV d 264 [vR (some 106), vR (some 135), vI p1] (mm I17 D) (fun I18 => CV d 264 [vR (some 106), vR (some 136), vI p1] (mm I18 D) (fun I19 => CV d 264 [vR (some 106), vR (some 137), vI p1] (mm I19 D) (fun I20 => CV d 264 [vR (some 106), vR (some 138), vI p1] (mm I20 D) (fun I21 => CV d 264 [vR (some 106), vR (some 139), vI p1] (mm I21 D) (fun I22 => CV d 264 [vR (some 106), vR (some 140), vI p1] (mm I22 D) (fun I23 => CV d 264 [vR (some 106), vR (some 141), vI p1] (mm I23 D) (fun I24 => CV d 264 [vR (some 106), vR (some 142), vI p1] (mm I24 D) (fun I25 => CV d 264 [vR (some 106), vR (some 145), vI p1] (mm I25 D) (fun I26 => CV d 264 [vR (some 106), vR (some 146), vI p1] (mm I26 D) (fun I27 => CV d 264 [vR (some 106), vR (some 147), vI p1] (mm I27 D) (fun I28 => CV d 264 [vR (some 106), vR (some 148), vI p1] (mm I28 D) (fun I29 => CV d 264 [vR (some 106), vR (some 149), vI p1] (mm I29 D) (fun I30 => CV d 264 [vR (some 106), vR (some 150), vI p1] (mm I30 D) (fun I31 => CV d 264 [vR (some 106), vR (some 151), vI p1] (mm I31 D) (fun I32 => CV d 264 [vR (some 106), vR (some 152), vI p1] (mm I32 D) (fun I33 => CV d 264 [vR (some 106), vR (some 153), vI p1] (mm I33 D) (fun I34 => CV d 264 [vR (some 106), vR (some 154), vI p1] (mm I34 D) (fun I35 => CV d 264 [vR (some 106), vR (some 155), vI p1] (mm I35 D) (fun I36 => CV d 264 [vR (some 106), vR (some 156), vI p1] (mm I36 D) (fun I37 => CV d 264 [vR (some 106), vR (some 157), vI p1] (mm I37 D) (fun I38 => Wp GG (d + 1) 262 365 [vR (some 106), vI p1, vI 0] [] (mm I38 D) Q))))))))))))))))))))))))))))))))))))))) :
  Mt GG (d + 1) 262 [vR (some 106), vI p1] (mm I D) Q := runC_m (cut := (fun pc => [365].contains pc)) 204 h
set_option maxRecDepth 100000 in
theorem s_M_swapAll_365 {d : Nat} {I : IM} {D : DY} {Q : Option PV → PM → Prop} (p1 : Int32) (l2 : Int32) (h : brP ((80 : Int32) ≤ l2)
 (Q none (mm I D))
 (brP (p1 = 0)
 (CV d 190 [vR (some 106), vI l2, vI (80 + l2)] (mm I D) (fun I1 => Wp GG (d + 1) 262 365 [vR (some 106), vI p1, vI (l2 + 1)] [] (mm I1 D) Q))
 (CV d 190 [vR (some 106), vI (80 + l2), vI l2] (mm I D) (fun I2 => Wp GG (d + 1) 262 365 [vR (some 106), vI p1, vI (l2 + 1)] [] (mm I2 D) Q)))) :
  Wp GG (d + 1) 262 365 [vR (some 106), vI p1, vI l2] [] (mm I D) Q := runC_p (cut := (fun pc => [365].contains pc)) 15 h
set_option maxRecDepth 100000 in
theorem s_M_swapOne {d : Nat} {I : IM} {D : DY} {Q : Option PV → PM → Prop} (p1 : Int32) (p2 : Int32) (h : brP (p2 = 0)
 (tsP (inB (I 106 78) 4200) (Q (some (vI p1)) (mm (up2 (up2 I 158 (ixN (I 106 78)) p1) 106 78 ((I 106 78) + 1)) D)))
 (tsP (inB (I 106 78) 4200) (Q (some (vI (I 158 (ixN (I 106 78))))) (mm (up2 I 106 78 ((I 106 78) + 1)) D)))) :
  Mt GG d 263 [vR (some 106), vI p1, vI p2] (mm I D) Q := runC_m (cut := (fun _ => false)) 19 h
set_option maxRecDepth 100000 in
theorem s_M_swapRow {d : Nat} {I : IM} {D : DY} {Q : Option PV → PM → Prop} (p1 : Option Nat) (p2 : Int32) (h : Wp GG (d + 1) 264 2 [vR (some 106), vR p1, vI p2, vI 0] [] (mm I D) Q) :
  Mt GG (d + 1) 264 [vR (some 106), vR p1, vI p2] (mm I D) Q := runC_m (cut := (fun pc => [2].contains pc)) 3 h
set_option maxRecDepth 100000 in
theorem s_M_swapRow_2 {d : Nat} {I : IM} {D : DY} {Q : Option PV → PM → Prop} (p1 : Option Nat) (p2 : Int32) (l3 : Int32) (h : onR False p1 (fun a1 => tsP (19 ≤ pKd (mm I D) a1 ∧ pKd (mm I D) a1 < 26) (brP ((Int32.ofNat (pLn (mm I D) a1)) ≤ l3)
 (Q none (mm I D))
 (onR False p1 (fun a2 => tsP (pKd (mm I D) a2 = 20) (tsP (inB l3 (pLn (mm I D) a2)) (CI d 263 [vR (some 106), vI (I a2 (ixN l3)), vI p2] (mm I D) (fun x1 I1 => onR False p1 (fun a3 => tsP (pKd (mm I1 D) a3 = kInt) (tsP (inB l3 (pLn (mm I1 D) a3)) (Wp GG (d + 1) 264 2 [vR (some 106), vR p1, vI p2, vI (l3 + 1)] [] (mm (up2 I1 a3 (ixN l3) x1) D) Q))))))))))) :
  Wp GG (d + 1) 264 2 [vR (some 106), vR p1, vI p2, vI l3] [] (mm I D) Q := runC_p (cut := (fun pc => [2].contains pc)) 16 h
set_option maxRecDepth 100000 in
theorem s_M_back {d : Nat} {I : IM} {D : DY} {Q : Option PV → PM → Prop}  (h : brP (¬ (I 106 76) = 0)
 (CV d 262 [vR (some 106), vI 1] (mm I D) (fun I1 => Q (some (vI (I1 106 14))) (mm I1 D)))
 (Q (some (vI (-5))) (mm I D))) :
  Mt GG (d + 1) 265 [vR (some 106)] (mm I D) Q := runC_m (cut := (fun _ => false)) 9 h
set_option maxRecDepth 100000 in
theorem s_M_led {d : Nat} {I : IM} {D : DY} {Q : Option PV → PM → Prop} (p1 : Int32) (h : CI d 169 [vI p1, vI 0, vI 6] (mm I D) (fun x1 I1 => brP (x1 = 0)
 (Q (some (vI (-1))) (mm I1 D))
 (tsP (inB p1 7) (Q (some (vI (I1 125 (ixN p1)))) (mm I1 D))))) :
  Mt GG (d + 1) 266 [vR (some 106), vI p1] (mm I D) Q := runC_m (cut := (fun _ => false)) 11 h
set_option maxRecDepth 100000 in
theorem s_M_count {d : Nat} {I : IM} {D : DY} {Q : Option PV → PM → Prop} (p1 : Int32) (h : brP (p1 = (0 : Int32))
 (Q (some (vI (I 106 14))) (mm I D))
 (brP (p1 = ((0 : Int32) + 1))
 (Q (some (vI (I 106 22))) (mm I D))
 (brP (p1 = (((0 : Int32) + 1) + 1))
 (Q (some (vI (I 106 2))) (mm I D))
 (brP (p1 = ((((0 : Int32) + 1) + 1) + 1))
 (Wp GG d 267 65 [vR (some 106), vI p1, vI 0, vI 0] [] (mm I D) Q)
 (brP (p1 = (((((0 : Int32) + 1) + 1) + 1) + 1))
 (Wp GG d 267 93 [vR (some 106), vI p1, vI 0, vI 1] [] (mm I D) Q)
 (brP (p1 = ((((((0 : Int32) + 1) + 1) + 1) + 1) + 1))
 (Wp GG d 267 122 [vR (some 106), vI p1, vI 0, vI 0] [] (mm I D) Q)
 (brP (p1 = (((((((0 : Int32) + 1) + 1) + 1) + 1) + 1) + 1))
 (Wp GG d 267 147 [vR (some 106), vI p1, vI 0, vI 0] [] (mm I D) Q)
 (brP (p1 = ((((((((0 : Int32) + 1) + 1) + 1) + 1) + 1) + 1) + 1))
 (Q (some (vI (I 106 23))) (mm I D))
 (Q (some (vI (-1))) (mm I D)))))))))) :
  Mt GG d 267 [vR (some 106), vI p1] (mm I D) Q := runC_m (cut := (fun pc => [65, 93, 122, 147].contains pc)) 7 h
set_option maxRecDepth 100000 in
theorem s_M_count_65 {d : Nat} {I : IM} {D : DY} {Q : Option PV → PM → Prop} (p1 : Int32) (l2 : Int32) (l3 : Int32) (h : brP ((8 : Int32) ≤ l3)
 (Q (some (vI l2)) (mm I D))
 (tsP (inB l3 8) (brP ((I 120 (ixN l3)) ≤ 0)
 (Wp GG d 267 65 [vR (some 106), vI p1, vI l2, vI (l3 + 1)] [] (mm I D) Q)
 (Wp GG d 267 65 [vR (some 106), vI p1, vI (l2 + 1), vI (l3 + 1)] [] (mm I D) Q)))) :
  Wp GG d 267 65 [vR (some 106), vI p1, vI l2, vI l3] [] (mm I D) Q := runC_p (cut := (fun pc => [65, 93, 122, 147].contains pc)) 12 h
set_option maxRecDepth 100000 in
theorem s_M_count_93 {d : Nat} {I : IM} {D : DY} {Q : Option PV → PM → Prop} (p1 : Int32) (l2 : Int32) (l3 : Int32) (h : brP ((1000 : Int32) ≤ l3)
 (Q (some (vI l2)) (mm I D))
 (tsP (inB l3 1000) (brP ((I 126 (ixN l3)) ≤ 0)
 (Wp GG d 267 93 [vR (some 106), vI p1, vI l2, vI (l3 + 1)] [] (mm I D) Q)
 (Wp GG d 267 93 [vR (some 106), vI p1, vI (l2 + 1), vI (l3 + 1)] [] (mm I D) Q)))) :
  Wp GG d 267 93 [vR (some 106), vI p1, vI l2, vI l3] [] (mm I D) Q := runC_p (cut := (fun pc => [65, 93, 122, 147].contains pc)) 12 h
set_option maxRecDepth 100000 in
theorem s_M_count_122 {d : Nat} {I : IM} {D : DY} {Q : Option PV → PM → Prop} (p1 : Int32) (l2 : Int32) (l3 : Int32) (h : brP ((8 : Int32) ≤ l3)
 (Q (some (vI l2)) (mm I D))
 (tsP (inB l3 8) (Wp GG d 267 122 [vR (some 106), vI p1, vI (l2 + (I 122 (ixN l3))), vI (l3 + 1)] [] (mm I D) Q))) :
  Wp GG d 267 122 [vR (some 106), vI p1, vI l2, vI l3] [] (mm I D) Q := runC_p (cut := (fun pc => [65, 93, 122, 147].contains pc)) 13 h
set_option maxRecDepth 100000 in
theorem s_M_count_147 {d : Nat} {I : IM} {D : DY} {Q : Option PV → PM → Prop} (p1 : Int32) (l2 : Int32) (l3 : Int32) (h : brP ((4 : Int32) ≤ l3)
 (Q (some (vI l2)) (mm I D))
 (tsP (inB (2 * l3) 8) (Wp GG d 267 147 [vR (some 106), vI p1, vI (l2 + (I 135 (ixN (2 * l3)))), vI (l3 + 1)] [] (mm I D) Q))) :
  Wp GG d 267 147 [vR (some 106), vI p1, vI l2, vI l3] [] (mm I D) Q := runC_p (cut := (fun pc => [65, 93, 122, 147].contains pc)) 15 h
