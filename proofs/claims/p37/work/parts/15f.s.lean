def lawCut (pc : Nat) : Bool := [76, 86, 93, 112, 128, 178, 218, 234, 271, 280, 317, 366, 376, 414, 422, 447, 463, 521, 578, 585, 621, 639, 670, 679, 711, 714, 747, 758, 771, 780, 794, 810, 816, 849, 858, 874, 879].contains pc
set_option maxRecDepth 100000 in
theorem s_law_7 {d : Nat} {I : IM} {D : DY} {Q : Option PV → PM → Prop}  (h : AR d 195 [] (mm I D) (fun x1 I1 D1 => AI d 202 [vR (some 45), vR x1] (mm I1 D1) (fun x2 I2 D2 => brP (¬ x2 = 0)
 (CI d 193 [vR (some 45), vR (some 126)] (mm I2 D2) (fun x3 I3 => brP (x3 = 0)
 (Q (some (vI 0)) (mm I3 D2))
 (AI d 109 [vR (some 45), vI 0] (mm I3 D2) (fun x4 I4 D3 => brP (¬ x4 = 1)
 (Q (some (vI 0)) (mm I4 D3))
 (CI d 193 [vR (some 45), vR (some 128)] (mm I4 D3) (fun x5 I5 => brP (x5 = 0)
 (Q (some (vI 0)) (mm I5 D3))
 (AI d 109 [vR (some 45), vI 1] (mm I5 D3) (fun x6 I6 D4 => brP (¬ x6 = 1)
 (Q (some (vI 0)) (mm I6 D4))
 (CI d 193 [vR (some 45), vR (some 130)] (mm I6 D4) (fun x7 I7 => brP (x7 = 0)
 (Q (some (vI 0)) (mm I7 D4))
 (AI d 132 [vR (some 45), vI 0] (mm I7 D4) (fun x8 I8 D5 => brP (x8 = 1)
 (Wp GG (d + 1) 268 76 [vR (some 0), vR (some 45), vT, vT, vT, vT, vT, vT, vT, vT] [] (mm I8 D5) Q)
 (Q (some (vI 0)) (mm I8 D5))))))))))))))
 (Q (some (vI 0)) (mm I2 D2))))) :
  Wp GG (d + 1) 268 7 [vR (some 0), vT, vT, vT, vT, vT, vT, vT, vT, vT] [vR (some 45)] (mm I D) Q := runC_p (cut := lawCut) 34 h
set_option maxRecDepth 100000 in
theorem s_law_76 {d : Nat} {I : IM} {D : DY} {Q : Option PV → PM → Prop}  (h : CAN (mkN (mm I D) 20 6) (fun I1 D1 => Wp GG (d + 1) 268 86 [vR (some 0), vR (some 45), vR (some (dZ D)), vI 0, vI 0, vT, vT, vT, vT, vT] [] (mm I1 D1) Q)) :
  Wp GG (d + 1) 268 76 [vR (some 0), vR (some 45), vT, vT, vT, vT, vT, vT, vT, vT] [] (mm I D) Q := runC_p (cut := lawCut) 8 h
set_option maxRecDepth 100000 in
theorem s_law_86 {d : Nat} {I : IM} {D : DY} {Q : Option PV → PM → Prop} (l2 : Option Nat) (l3 : Int32) (l4 : Int32) (w5 : PV) (w6 : PV) (w7 : PV) (w8 : PV) (w9 : PV) (h : brP ((30 : Int32) ≤ l4)
 (Wp GG (d + 1) 268 621 [vR (some 0), vR (some 45), vR l2, vI l3, vI l4, w5, w6, w7, w8, w9] [] (mm I D) Q)
 (Wp GG (d + 1) 268 93 [vR (some 0), vR (some 45), vR l2, vI l3, vI l4, w5, w6, w7, w8, w9] [] (mm I D) Q)) :
  Wp GG (d + 1) 268 86 [vR (some 0), vR (some 45), vR l2, vI l3, vI l4, w5, w6, w7, w8, w9] [] (mm I D) Q := runC_p (cut := lawCut) 4 h
set_option maxRecDepth 100000 in
theorem s_law_93 {d : Nat} {I : IM} {D : DY} {Q : Option PV → PM → Prop} (l2 : Option Nat) (l3 : Int32) (l4 : Int32) (w5 : PV) (w6 : PV) (w7 : PV) (w8 : PV) (w9 : PV) (h : CI d 192 [vR (some 0), vI l4] (mm I D) (fun x1 I1 => CI d 192 [vR (some 0), vI ((30 : Int32) + l4)] (mm I1 D) (fun x2 I2 => Wp GG (d + 1) 268 112 [vR (some 0), vR (some 45), vR l2, vI l3, vI l4, vI x1, vI x2, w7, w8, w9] [] (mm I2 D) Q))) :
  Wp GG (d + 1) 268 93 [vR (some 0), vR (some 45), vR l2, vI l3, vI l4, w5, w6, w7, w8, w9] [] (mm I D) Q := runC_p (cut := lawCut) 11 h
set_option maxRecDepth 100000 in
theorem s_law_112 {d : Nat} {I : IM} {D : DY} {Q : Option PV → PM → Prop} (l2 : Option Nat) (l3 : Int32) (l4 : Int32) (l5 : Int32) (l6 : Int32) (w7 : PV) (w8 : PV) (w9 : PV) (h : CI d 162 [vR (some 45), vI 0] (mm I D) (fun x1 I1 => brP ((4 : Int32) ≤ (l6 - l6 / 8 * 8))
 (Wp GG (d + 1) 268 271 [vR (some 0), vR (some 45), vR l2, vI l3, vI l4, vI l5, vI l6, vI x1, w8, w9] [] (mm I1 D) Q)
 (Wp GG (d + 1) 268 128 [vR (some 0), vR (some 45), vR l2, vI l3, vI l4, vI l5, vI l6, vI x1, w8, w9] [] (mm I1 D) Q))) :
  Wp GG (d + 1) 268 112 [vR (some 0), vR (some 45), vR l2, vI l3, vI l4, vI l5, vI l6, w7, w8, w9] [] (mm I D) Q := runC_p (cut := lawCut) 10 h
set_option maxRecDepth 100000 in
theorem s_law_128 {d : Nat} {I : IM} {D : DY} {Q : Option PV → PM → Prop} (l2 : Option Nat) (l3 : Int32) (l4 : Int32) (l5 : Int32) (l6 : Int32) (l7 : Int32) (w8 : PV) (w9 : PV) (h : AR d 200 [vI l5] (mm I D) (fun x1 I1 D1 => CI d 193 [vR (some 45), vR x1] (mm I1 D1) (fun x2 I2 => brP (¬ x2 = 0)
 (CI d 196 [vI l5] (mm I2 D1) (fun x3 I3 => brP (¬ ((l6 >>> 6) &&& 3) = 0)
 (Wp GG (d + 1) 268 178 [vR (some 0), vR (some 45), vR l2, vI l3, vI l4, vI l5, vI l6, vI l7, vI ((l6 >>> 3) - (l6 >>> 3) / 6 * 6), w9] [vI (-1), vI x3, vR (some 45)] (mm I3 D1) Q)
 (Wp GG (d + 1) 268 178 [vR (some 0), vR (some 45), vR l2, vI l3, vI l4, vI l5, vI l6, vI l7, vI ((l6 >>> 3) - (l6 >>> 3) / 6 * 6), w9] [vI ((l6 >>> 8) - (l6 >>> 8) / 5 * 5), vI x3, vR (some 45)] (mm I3 D1) Q)))
 (Q (some (vI 0)) (mm I2 D1))))) :
  Wp GG (d + 1) 268 128 [vR (some 0), vR (some 45), vR l2, vI l3, vI l4, vI l5, vI l6, vI l7, w8, w9] [] (mm I D) Q := runC_p (cut := lawCut) 27 h
set_option maxRecDepth 100000 in
theorem s_law_178 {d : Nat} {I : IM} {D : DY} {Q : Option PV → PM → Prop} (l2 : Option Nat) (l3 : Int32) (l4 : Int32) (l5 : Int32) (l6 : Int32) (l7 : Int32) (l8 : Int32) (w9 : PV) (t1 : Int32) (t2 : Int32) (h : AI d 14 [vR (some 45), vI t1, vI t2, vI l8] (mm I D) (fun x1 I1 D1 => brP (l8 ≤ 0)
 (Wp GG (d + 1) 268 218 [vR (some 0), vR (some 45), vR l2, vI l3, vI l4, vI l5, vI l6, vI l7, vI l8, vI x1] [] (mm I1 D1) Q)
 (onR False l2 (fun a1 => tsP (pKd (mm I1 D1) a1 = 20) (tsP (inB l8 (pLn (mm I1 D1) a1)) (brP ((I1 a1 (ixN l8)) ≤ 0)
 (Wp GG (d + 1) 268 218 [vR (some 0), vR (some 45), vR l2, vI l3, vI l4, vI l5, vI l6, vI l7, vI l8, vI x1] [] (mm I1 D1) Q)
 (onR False l2 (fun a2 => tsP (pKd (mm I1 D1) a2 = 20) (tsP (inB l8 (pLn (mm I1 D1) a2)) (brP (¬ x1 = (I1 a2 (ixN l8)))
 (Q (some (vI 0)) (mm I1 D1))
 (CI d 162 [vR (some 45), vI 0] (mm I1 D1) (fun x2 I2 => brP (x2 = l7)
 (Wp GG (d + 1) 268 218 [vR (some 0), vR (some 45), vR l2, vI l3, vI l4, vI l5, vI l6, vI l7, vI l8, vI x1] [] (mm I2 D1) Q)
 (Q (some (vI 0)) (mm I2 D1)))))))))))))) :
  Wp GG (d + 1) 268 178 [vR (some 0), vR (some 45), vR l2, vI l3, vI l4, vI l5, vI l6, vI l7, vI l8, w9] [vI t2, vI t1, vR (some 45)] (mm I D) Q := runC_p (cut := lawCut) 21 h
set_option maxRecDepth 100000 in
theorem s_law_218 {d : Nat} {I : IM} {D : DY} {Q : Option PV → PM → Prop} (l2 : Option Nat) (l3 : Int32) (l4 : Int32) (l5 : Int32) (l6 : Int32) (l7 : Int32) (l8 : Int32) (l9 : Int32) (h : brP (l9 ≤ 0)
 (Wp GG (d + 1) 268 234 [vR (some 0), vR (some 45), vR l2, vI l3, vI l4, vI l5, vI l6, vI l7, vI l8, vI l9] [] (mm I D) Q)
 (brP (l8 ≤ 0)
 (Wp GG (d + 1) 268 234 [vR (some 0), vR (some 45), vR l2, vI l3, vI l4, vI l5, vI l6, vI l7, vI l8, vI l9] [] (mm I D) Q)
 (onR False l2 (fun a1 => tsP (pKd (mm I D) a1 = kInt) (tsP (inB l8 (pLn (mm I D) a1)) (Wp GG (d + 1) 268 234 [vR (some 0), vR (some 45), vR l2, vI l3, vI l4, vI l5, vI l6, vI l7, vI l8, vI l9] [] (mm (up2 I a1 (ixN l8) l9) D) Q)))))) :
  Wp GG (d + 1) 268 218 [vR (some 0), vR (some 45), vR l2, vI l3, vI l4, vI l5, vI l6, vI l7, vI l8, vI l9] [] (mm I D) Q := runC_p (cut := lawCut) 9 h
set_option maxRecDepth 100000 in
theorem s_law_234 {d : Nat} {I : IM} {D : DY} {Q : Option PV → PM → Prop} (l2 : Option Nat) (l3 : Int32) (l4 : Int32) (l5 : Int32) (l6 : Int32) (l7 : Int32) (l8 : Int32) (l9 : Int32) (h : brP ((0 : Int32) < l9)
 (brP (l9 = 0)
 (Q (some (vI 0)) (mm I D))
 (CI d 162 [vR (some 45), vI 0] (mm I D) (fun x1 I1 => brP (x1 ≤ (l7 + 2))
 (Wp GG (d + 1) 268 578 [vR (some 0), vR (some 45), vR l2, vI l3, vI l4, vI l5, vI l6, vI l7, vI l8, vI l9] [] (mm I1 D) Q)
 (Q (some (vI 0)) (mm I1 D)))))
 (CI d 162 [vR (some 45), vI 0] (mm I D) (fun x2 I2 => brP (¬ x2 = l7)
 (Q (some (vI 0)) (mm I2 D))
 (brP (l9 = 0)
 (Q (some (vI 0)) (mm I2 D))
 (CI d 162 [vR (some 45), vI 0] (mm I2 D) (fun x3 I3 => brP (x3 ≤ (l7 + 2))
 (Wp GG (d + 1) 268 578 [vR (some 0), vR (some 45), vR l2, vI l3, vI l4, vI l5, vI l6, vI l7, vI l8, vI l9] [] (mm I3 D) Q)
 (Q (some (vI 0)) (mm I3 D)))))))) :
  Wp GG (d + 1) 268 234 [vR (some 0), vR (some 45), vR l2, vI l3, vI l4, vI l5, vI l6, vI l7, vI l8, vI l9] [] (mm I D) Q := runC_p (cut := lawCut) 18 h
set_option maxRecDepth 100000 in
theorem s_law_271 {d : Nat} {I : IM} {D : DY} {Q : Option PV → PM → Prop} (l2 : Option Nat) (l3 : Int32) (l4 : Int32) (l5 : Int32) (l6 : Int32) (l7 : Int32) (w8 : PV) (w9 : PV) (h : brP (¬ (l6 - l6 / 8 * 8) = 4)
 (brP (¬ (l6 - l6 / 8 * 8) = 5)
 (Wp GG (d + 1) 268 366 [vR (some 0), vR (some 45), vR l2, vI l3, vI l4, vI l5, vI l6, vI l7, w8, w9] [] (mm I D) Q)
 (Wp GG (d + 1) 268 317 [vR (some 0), vR (some 45), vR l2, vI l3, vI l4, vI l5, vI l6, vI l7, w8, w9] [] (mm I D) Q))
 (Wp GG (d + 1) 268 280 [vR (some 0), vR (some 45), vR l2, vI l3, vI l4, vI l5, vI l6, vI l7, w8, w9] [] (mm I D) Q)) :
  Wp GG (d + 1) 268 271 [vR (some 0), vR (some 45), vR l2, vI l3, vI l4, vI l5, vI l6, vI l7, w8, w9] [] (mm I D) Q := runC_p (cut := lawCut) 11 h
set_option maxRecDepth 100000 in
theorem s_law_280 {d : Nat} {I : IM} {D : DY} {Q : Option PV → PM → Prop} (l2 : Option Nat) (l3 : Int32) (l4 : Int32) (l5 : Int32) (l6 : Int32) (l7 : Int32) (w8 : PV) (w9 : PV) (h : CI d 95 [vR (some 45), vI ((l6 >>> 3) - (l6 >>> 3) / 3 * 3)] (mm I D) (fun x1 I1 => brP (x1 < 0)
 (Q (some (vI 0)) (mm I1 D))
 (CI d 98 [vR (some 45), vI ((l6 >>> 5) - (l6 >>> 5) / 4 * 4)] (mm I1 D) (fun x2 I2 => brP ((0 : Int32) ≤ x2)
 (Wp GG (d + 1) 268 578 [vR (some 0), vR (some 45), vR l2, vI l3, vI l4, vI l5, vI l6, vI l7, w8, w9] [] (mm I2 D) Q)
 (Q (some (vI 0)) (mm I2 D)))))) :
  Wp GG (d + 1) 268 280 [vR (some 0), vR (some 45), vR l2, vI l3, vI l4, vI l5, vI l6, vI l7, w8, w9] [] (mm I D) Q := runC_p (cut := lawCut) 18 h
set_option maxRecDepth 100000 in
theorem s_law_317 {d : Nat} {I : IM} {D : DY} {Q : Option PV → PM → Prop} (l2 : Option Nat) (l3 : Int32) (l4 : Int32) (l5 : Int32) (l6 : Int32) (l7 : Int32) (w8 : PV) (w9 : PV) (h : tsP (¬ l7 + 2 = 0) (CI d 117 [vR (some 45), vI ((l6 >>> 3) - (l6 >>> 3) / 2 * 2), vI 0, vI ((1 : Int32) + ((l6 >>> 4) - (l6 >>> 4) / (l7 + 2) * (l7 + 2))), vI ((1 : Int32) + ((l6 >>> 9) - (l6 >>> 9) / 20 * 20))] (mm I D) (fun x1 I1 => brP ((0 : Int32) ≤ x1)
 (Wp GG (d + 1) 268 578 [vR (some 0), vR (some 45), vR l2, vI (l3 + x1), vI l4, vI l5, vI l6, vI l7, vI x1, w9] [] (mm I1 D) Q)
 (Q (some (vI 0)) (mm I1 D))))) :
  Wp GG (d + 1) 268 317 [vR (some 0), vR (some 45), vR l2, vI l3, vI l4, vI l5, vI l6, vI l7, w8, w9] [] (mm I D) Q := runC_p (cut := lawCut) 33 h
set_option maxRecDepth 100000 in
theorem s_law_366 {d : Nat} {I : IM} {D : DY} {Q : Option PV → PM → Prop} (l2 : Option Nat) (l3 : Int32) (l4 : Int32) (l5 : Int32) (l6 : Int32) (l7 : Int32) (w8 : PV) (w9 : PV) (h : brP (¬ (l6 - l6 / 8 * 8) = 6)
 (Wp GG (d + 1) 268 414 [vR (some 0), vR (some 45), vR l2, vI l3, vI l4, vI l5, vI l6, vI l7, w8, w9] [] (mm I D) Q)
 (Wp GG (d + 1) 268 376 [vR (some 0), vR (some 45), vR l2, vI l3, vI l4, vI l5, vI l6, vI l7, w8, w9] [] (mm I D) Q)) :
  Wp GG (d + 1) 268 366 [vR (some 0), vR (some 45), vR l2, vI l3, vI l4, vI l5, vI l6, vI l7, w8, w9] [] (mm I D) Q := runC_p (cut := lawCut) 6 h
set_option maxRecDepth 100000 in
theorem s_law_376 {d : Nat} {I : IM} {D : DY} {Q : Option PV → PM → Prop} (l2 : Option Nat) (l3 : Int32) (l4 : Int32) (l5 : Int32) (l6 : Int32) (l7 : Int32) (w8 : PV) (w9 : PV) (h : CI d 135 [vR (some 45), vI 0, vI ((1 : Int32) + ((l6 >>> 3) - (l6 >>> 3) / 4 * 4))] (mm I D) (fun x1 I1 => brP (x1 < 0)
 (Q (some (vI 0)) (mm I1 D))
 (CI d 162 [vR (some 45), vI 0] (mm I1 D) (fun x2 I2 => brP (x2 ≤ (l7 + x1))
 (Wp GG (d + 1) 268 578 [vR (some 0), vR (some 45), vR l2, vI l3, vI l4, vI l5, vI l6, vI l7, vI x1, w9] [] (mm I2 D) Q)
 (Q (some (vI 0)) (mm I2 D)))))) :
  Wp GG (d + 1) 268 376 [vR (some 0), vR (some 45), vR l2, vI l3, vI l4, vI l5, vI l6, vI l7, w8, w9] [] (mm I D) Q := runC_p (cut := lawCut) 22 h
set_option maxRecDepth 100000 in
theorem s_law_414 {d : Nat} {I : IM} {D : DY} {Q : Option PV → PM → Prop} (l2 : Option Nat) (l3 : Int32) (l4 : Int32) (l5 : Int32) (l6 : Int32) (l7 : Int32) (w8 : PV) (w9 : PV) (h : brP (¬ (l6 &&& 8) = 0)
 (Wp GG (d + 1) 268 463 [vR (some 0), vR (some 45), vR l2, vI l3, vI l4, vI l5, vI l6, vI l7, w8, w9] [] (mm I D) Q)
 (Wp GG (d + 1) 268 422 [vR (some 0), vR (some 45), vR l2, vI l3, vI l4, vI l5, vI l6, vI l7, w8, w9] [] (mm I D) Q)) :
  Wp GG (d + 1) 268 414 [vR (some 0), vR (some 45), vR l2, vI l3, vI l4, vI l5, vI l6, vI l7, w8, w9] [] (mm I D) Q := runC_p (cut := lawCut) 5 h
set_option maxRecDepth 100000 in
theorem s_law_422 {d : Nat} {I : IM} {D : DY} {Q : Option PV → PM → Prop} (l2 : Option Nat) (l3 : Int32) (l4 : Int32) (l5 : Int32) (l6 : Int32) (l7 : Int32) (w8 : PV) (w9 : PV) (h : CI d 162 [vR (some 45), vI 1] (mm I D) (fun x1 I1 => brP ((2 : Int32) ≤ x1)
 (Wp GG (d + 1) 268 463 [vR (some 0), vR (some 45), vR l2, vI l3, vI l4, vI l5, vI l6, vI l7, w8, w9] [] (mm I1 D) Q)
 (brP (¬ (l6 &&& 16) = 0)
 (Wp GG (d + 1) 268 447 [vR (some 0), vR (some 45), vR l2, vI l3, vI l4, vI l5, vI l6, vI l7, w8, w9] [vR (some 134), vR (some 45)] (mm I1 D) Q)
 (Wp GG (d + 1) 268 447 [vR (some 0), vR (some 45), vR l2, vI l3, vI l4, vI l5, vI l6, vI l7, w8, w9] [vR (some 132), vR (some 45)] (mm I1 D) Q)))) :
  Wp GG (d + 1) 268 422 [vR (some 0), vR (some 45), vR l2, vI l3, vI l4, vI l5, vI l6, vI l7, w8, w9] [] (mm I D) Q := runC_p (cut := lawCut) 13 h
set_option maxRecDepth 100000 in
theorem s_law_447 {d : Nat} {I : IM} {D : DY} {Q : Option PV → PM → Prop} (l2 : Option Nat) (l3 : Int32) (l4 : Int32) (l5 : Int32) (l6 : Int32) (l7 : Int32) (w8 : PV) (w9 : PV) (l1 : Option Nat) (h : CI d 193 [vR (some 45), vR l1] (mm I D) (fun x1 I1 => brP (x1 = 0)
 (Q (some (vI 0)) (mm I1 D))
 (AI d 73 [vR (some 45)] (mm I1 D) (fun x2 I2 D1 => brP ((2 : Int32) ≤ x2)
 (Wp GG (d + 1) 268 578 [vR (some 0), vR (some 45), vR l2, vI l3, vI l4, vI l5, vI l6, vI l7, w8, w9] [] (mm I2 D1) Q)
 (Q (some (vI 0)) (mm I2 D1)))))) :
  Wp GG (d + 1) 268 447 [vR (some 0), vR (some 45), vR l2, vI l3, vI l4, vI l5, vI l6, vI l7, w8, w9] [vR l1, vR (some 45)] (mm I D) Q := runC_p (cut := lawCut) 8 h
set_option maxRecDepth 100000 in
theorem s_law_463 {d : Nat} {I : IM} {D : DY} {Q : Option PV → PM → Prop} (l2 : Option Nat) (l3 : Int32) (l4 : Int32) (l5 : Int32) (l6 : Int32) (l7 : Int32) (w8 : PV) (w9 : PV) (h : CAN (mkN (mm I D) 12 4) (fun I1 D1 => tsP (pKd (mm I1 D1) (dZ D) = 12) (AV d 167 [vR (some (dZ D))] (mm I1 D1) (fun I2 D2 => CI d 196 [vI l5] (mm I2 D2) (fun x2 I3 => tsP (pKd (mm I3 D2) (dZ D) = 12) (AR d 169 [vR (some (dZ D)), vI x2] (mm I3 D2) (fun x3 I4 D3 => onR False x3 (fun a1 => tsP (pKd (mm I4 D3) a1 = 12) (AR d 168 [vR (some a1), vR (some 136)] (mm I4 D3) (fun x4 I5 D4 => AR d 200 [vI l5] (mm I5 D4) (fun x5 I6 D5 => onR False x4 (fun a2 => tsP (pKd (mm I6 D5) a2 = 12) (AR d 168 [vR (some a2), vR x5] (mm I6 D5) (fun x6 I7 D6 => onR False x6 (fun a3 => tsP (pKd (mm I7 D6) a3 = 12) (AR d 168 [vR (some a3), vR (some 138)] (mm I7 D6) (fun x7 I8 D7 => CI d 196 [vI l6] (mm I8 D7) (fun x8 I9 => onR False x7 (fun a4 => tsP (pKd (mm I9 D7) a4 = 12) (AR d 169 [vR (some a4), vI x8] (mm I9 D7) (fun x9 I10 D8 => onR False x9 (fun a5 => tsP (pKd (mm I10 D8) a5 = 12) (AR d 168 [vR (some a5), vR (some 140)] (mm I10 D8) (fun x10 I11 D9 => onR False x10 (fun a6 => tsP (pKd (mm I11 D9) a6 = 12) (AR d 170 [vR (some a6)] (mm I11 D9) (fun x11 I12 D10 => CI d 193 [vR (some 45), vR x11] (mm I12 D10) (fun x12 I13 => brP (¬ x12 = 0)
 (Wp GG (d + 1) 268 521 [vR (some 0), vR (some 45), vR l2, vI l3, vI l4, vI l5, vI l6, vI l7, w8, w9] [] (mm I13 D10) Q)
 (Q (some (vI 0)) (mm I13 D10)))))))))))))))))))))))))))))) :
  Wp GG (d + 1) 268 463 [vR (some 0), vR (some 45), vR l2, vI l3, vI l4, vI l5, vI l6, vI l7, w8, w9] [] (mm I D) Q := runC_p (cut := lawCut) 24 h
set_option maxRecDepth 100000 in
theorem s_law_521 {d : Nat} {I : IM} {D : DY} {Q : Option PV → PM → Prop} (l2 : Option Nat) (l3 : Int32) (l4 : Int32) (l5 : Int32) (l6 : Int32) (l7 : Int32) (w8 : PV) (w9 : PV) (h : AI d 63 [vR (some 45)] (mm I D) (fun x1 I1 D1 => brP (x1 ≤ (-300))
 (CI d 162 [vR (some 45), vI 0] (mm I1 D1) (fun x2 I2 => brP (x2 ≤ l7)
 (brP (x1 ≤ 0)
 (Wp GG (d + 1) 268 578 [vR (some 0), vR (some 45), vR l2, vI l3, vI l4, vI l5, vI l6, vI l7, vI x1, w9] [] (mm I2 D1) Q)
 (CI d 162 [vR (some 45), vI 0] (mm I2 D1) (fun x3 I3 => brP (x3 = (l7 + x1))
 (Wp GG (d + 1) 268 578 [vR (some 0), vR (some 45), vR l2, vI l3, vI l4, vI l5, vI l6, vI l7, vI x1, w9] [] (mm I3 D1) Q)
 (Q (some (vI 0)) (mm I3 D1)))))
 (Q (some (vI 0)) (mm I2 D1))))
 (CI d 162 [vR (some 45), vI 0] (mm I1 D1) (fun x4 I4 => brP (x4 ≤ l7)
 (Q (some (vI 0)) (mm I4 D1))
 (brP (x1 ≤ 0)
 (Wp GG (d + 1) 268 578 [vR (some 0), vR (some 45), vR l2, vI l3, vI l4, vI l5, vI l6, vI l7, vI x1, w9] [] (mm I4 D1) Q)
 (CI d 162 [vR (some 45), vI 0] (mm I4 D1) (fun x5 I5 => brP (x5 = (l7 + x1))
 (Wp GG (d + 1) 268 578 [vR (some 0), vR (some 45), vR l2, vI l3, vI l4, vI l5, vI l6, vI l7, vI x1, w9] [] (mm I5 D1) Q)
 (Q (some (vI 0)) (mm I5 D1))))))))) :
  Wp GG (d + 1) 268 521 [vR (some 0), vR (some 45), vR l2, vI l3, vI l4, vI l5, vI l6, vI l7, w8, w9] [] (mm I D) Q := runC_p (cut := lawCut) 27 h
set_option maxRecDepth 100000 in
theorem s_law_578 {d : Nat} {I : IM} {D : DY} {Q : Option PV → PM → Prop} (l2 : Option Nat) (l3 : Int32) (l4 : Int32) (l5 : Int32) (l6 : Int32) (l7 : Int32) (w8 : PV) (w9 : PV) (h : AI d 203 [vR (some 45)] (mm I D) (fun x1 I1 D1 => brP (x1 = 0)
 (Q (some (vI 0)) (mm I1 D1))
 (Wp GG (d + 1) 268 585 [vR (some 0), vR (some 45), vR l2, vI l3, vI l4, vI l5, vI l6, vI l7, w8, w9] [] (mm I1 D1) Q))) :
  Wp GG (d + 1) 268 578 [vR (some 0), vR (some 45), vR l2, vI l3, vI l4, vI l5, vI l6, vI l7, w8, w9] [] (mm I D) Q := runC_p (cut := lawCut) 5 h
set_option maxRecDepth 100000 in
theorem s_law_585 {d : Nat} {I : IM} {D : DY} {Q : Option PV → PM → Prop} (l2 : Option Nat) (l3 : Int32) (l4 : Int32) (l5 : Int32) (l6 : Int32) (l7 : Int32) (w8 : PV) (w9 : PV) (h : CI d 161 [vR (some 45), vI 4] (mm I D) (fun x1 I1 => brP (¬ x1 = l3)
 (Q (some (vI 0)) (mm I1 D))
 (AI d 125 [vR (some 45), vI 0, vI 0, vI 0] (mm I1 D) (fun x2 I2 D1 => AI d 125 [vR (some 45), vI 1, vI 0, vI 0] (mm I2 D1) (fun x3 I3 D2 => brP ((x2 + x3) = l3)
 (Wp GG (d + 1) 268 86 [vR (some 0), vR (some 45), vR l2, vI l3, vI (l4 + 1), vI l5, vI l6, vI l7, w8, w9] [] (mm I3 D2) Q)
 (Q (some (vI 0)) (mm I3 D2))))))) :
  Wp GG (d + 1) 268 585 [vR (some 0), vR (some 45), vR l2, vI l3, vI l4, vI l5, vI l6, vI l7, w8, w9] [] (mm I D) Q := runC_p (cut := lawCut) 21 h
set_option maxRecDepth 100000 in
theorem s_law_621 {d : Nat} {I : IM} {D : DY} {Q : Option PV → PM → Prop} (l2 : Option Nat) (l3 : Int32) (l4 : Int32) (w5 : PV) (w6 : PV) (w7 : PV) (w8 : PV) (w9 : PV) (h : CI d 193 [vR (some 45), vR (some 126)] (mm I D) (fun x1 I1 => brP (x1 = 0)
 (Q (some (vI 0)) (mm I1 D))
 (AI d 109 [vR (some 45), vI 2] (mm I1 D) (fun x2 I2 D1 => brP (¬ x2 = 1)
 (Q (some (vI 0)) (mm I2 D1))
 (Wp GG (d + 1) 268 639 [vR (some 0), vR (some 45), vR l2, vI l3, vI l4, w5, w6, w7, w8, w9] [] (mm I2 D1) Q))))) :
  Wp GG (d + 1) 268 621 [vR (some 0), vR (some 45), vR l2, vI l3, vI l4, w5, w6, w7, w8, w9] [] (mm I D) Q := runC_p (cut := lawCut) 11 h
set_option maxRecDepth 100000 in
theorem s_law_639 {d : Nat} {I : IM} {D : DY} {Q : Option PV → PM → Prop} (l2 : Option Nat) (l3 : Int32) (l4 : Int32) (w5 : PV) (w6 : PV) (w7 : PV) (w8 : PV) (w9 : PV) (h : CI d 117 [vR (some 45), vI 2, vI 0, vI 1, vI 240] (mm I D) (fun x1 I1 => CI d 162 [vR (some 45), vI 0] (mm I1 D) (fun x2 I2 => brP (¬ x1 = x2)
 (Q (some (vI 0)) (mm I2 D))
 (AI d 125 [vR (some 45), vI 2, vI 0, vI 3] (mm I2 D) (fun x3 I3 D1 => brP (x3 = 1)
 (Wp GG (d + 1) 268 670 [vR (some 0), vR (some 45), vR l2, vI l3, vI l4, w5, w6, w7, w8, w9] [] (mm I3 D1) Q)
 (Q (some (vI 0)) (mm I3 D1))))))) :
  Wp GG (d + 1) 268 639 [vR (some 0), vR (some 45), vR l2, vI l3, vI l4, w5, w6, w7, w8, w9] [] (mm I D) Q := runC_p (cut := lawCut) 19 h
set_option maxRecDepth 100000 in
theorem s_law_670 {d : Nat} {I : IM} {D : DY} {Q : Option PV → PM → Prop} (l2 : Option Nat) (l3 : Int32) (l4 : Int32) (w5 : PV) (w6 : PV) (w7 : PV) (w8 : PV) (w9 : PV) (h : CAN (mkN (mm I D) 20 9) (fun I1 D1 => Wp GG (d + 1) 268 679 [vR (some 0), vR (some 45), vR l2, vI l3, vR (some (dZ D)), vI 1, w6, w7, w8, w9] [] (mm I1 D1) Q)) :
  Wp GG (d + 1) 268 670 [vR (some 0), vR (some 45), vR l2, vI l3, vI l4, w5, w6, w7, w8, w9] [] (mm I D) Q := runC_p (cut := lawCut) 6 h
set_option maxRecDepth 100000 in
theorem s_law_679 {d : Nat} {I : IM} {D : DY} {Q : Option PV → PM → Prop} (l2 : Option Nat) (l3 : Int32) (l4 : Option Nat) (l5 : Int32) (w6 : PV) (w7 : PV) (w8 : PV) (w9 : PV) (h : AI d 125 [vR (some 45), vI 1, vI 0, vI 0] (mm I D) (fun x1 I1 D1 => brP (x1 < l5)
 (Wp GG (d + 1) 268 711 [vR (some 0), vR (some 45), vR l2, vI l3, vR l4, vI l5, w6, w7, w8, w9] [] (mm I1 D1) Q)
 (CI d 99 [vR (some 45), vI l5, vI 2] (mm I1 D1) (fun x2 I2 => onR False l4 (fun a1 => tsP (pKd (mm I2 D1) a1 = 20) (tsP (inB x2 (pLn (mm I2 D1) a1)) (onR False l4 (fun a2 => tsP (pKd (mm I2 D1) a2 = kInt) (tsP (inB x2 (pLn (mm I2 D1) a2)) (Wp GG (d + 1) 268 679 [vR (some 0), vR (some 45), vR l2, vI l3, vR l4, vI (l5 + 1), w6, w7, w8, w9] [] (mm (up2 I2 a2 (ixN x2) ((I2 a1 (ixN x2)) + 1)) D1) Q)))))))))) :
  Wp GG (d + 1) 268 679 [vR (some 0), vR (some 45), vR l2, vI l3, vR l4, vI l5, w6, w7, w8, w9] [] (mm I D) Q := runC_p (cut := lawCut) 20 h
set_option maxRecDepth 100000 in
theorem s_law_711 {d : Nat} {I : IM} {D : DY} {Q : Option PV → PM → Prop} (l2 : Option Nat) (l3 : Int32) (l4 : Option Nat) (l5 : Int32) (w6 : PV) (w7 : PV) (w8 : PV) (w9 : PV) (h : Wp GG (d + 1) 268 714 [vR (some 0), vR (some 45), vR l2, vI l3, vR l4, vI 0, w6, w7, w8, w9] [] (mm I D) Q) :
  Wp GG (d + 1) 268 711 [vR (some 0), vR (some 45), vR l2, vI l3, vR l4, vI l5, w6, w7, w8, w9] [] (mm I D) Q := runC_p (cut := lawCut) 3 h
set_option maxRecDepth 100000 in
theorem s_law_714 {d : Nat} {I : IM} {D : DY} {Q : Option PV → PM → Prop} (l2 : Option Nat) (l3 : Int32) (l4 : Option Nat) (l5 : Int32) (w6 : PV) (w7 : PV) (w8 : PV) (w9 : PV) (h : brP ((9 : Int32) ≤ l5)
 (Wp GG (d + 1) 268 758 [vR (some 0), vR (some 45), vR l2, vI l3, vR l4, vI l5, w6, w7, w8, w9] [] (mm I D) Q)
 (CI d 131 [vR (some 45), vI 1, vI 0, vI l5] (mm I D) (fun x1 I1 => onR False l4 (fun a1 => tsP (pKd (mm I1 D) a1 = 20) (tsP (inB l5 (pLn (mm I1 D) a1)) (brP (¬ (I1 a1 (ixN l5)) = 0)
 (onR False l4 (fun a2 => tsP (pKd (mm I1 D) a2 = 20) (tsP (inB l5 (pLn (mm I1 D) a2)) (Wp GG (d + 1) 268 747 [vR (some 0), vR (some 45), vR l2, vI l3, vR l4, vI l5, w6, w7, w8, w9] [vI (I1 a2 (ixN l5)), vI x1] (mm I1 D) Q))))
 (Wp GG (d + 1) 268 747 [vR (some 0), vR (some 45), vR l2, vI l3, vR l4, vI l5, w6, w7, w8, w9] [vI (-2000000000), vI x1] (mm I1 D) Q))))))) :
  Wp GG (d + 1) 268 714 [vR (some 0), vR (some 45), vR l2, vI l3, vR l4, vI l5, w6, w7, w8, w9] [] (mm I D) Q := runC_p (cut := lawCut) 16 h
set_option maxRecDepth 100000 in
theorem s_law_747 {d : Nat} {I : IM} {D : DY} {Q : Option PV → PM → Prop} (l2 : Option Nat) (l3 : Int32) (l4 : Option Nat) (l5 : Int32) (w6 : PV) (w7 : PV) (w8 : PV) (w9 : PV) (t0 : Int32) (t1 : Int32) (h : brP (t0 = t1)
 (Wp GG (d + 1) 268 714 [vR (some 0), vR (some 45), vR l2, vI l3, vR l4, vI (l5 + 1), w6, w7, w8, w9] [] (mm I D) Q)
 (Q (some (vI 0)) (mm I D))) :
  Wp GG (d + 1) 268 747 [vR (some 0), vR (some 45), vR l2, vI l3, vR l4, vI l5, w6, w7, w8, w9] [vI t1, vI t0] (mm I D) Q := runC_p (cut := lawCut) 4 h
set_option maxRecDepth 100000 in
theorem s_law_758 {d : Nat} {I : IM} {D : DY} {Q : Option PV → PM → Prop} (l2 : Option Nat) (l3 : Int32) (l4 : Option Nat) (l5 : Int32) (w6 : PV) (w7 : PV) (w8 : PV) (w9 : PV) (h : AI d 125 [vR (some 45), vI 1, vI 0, vI 3] (mm I D) (fun x1 I1 D1 => brP (x1 = 1)
 (Wp GG (d + 1) 268 771 [vR (some 0), vR (some 45), vR l2, vI l3, vR l4, vI l5, w6, w7, w8, w9] [] (mm I1 D1) Q)
 (Q (some (vI 0)) (mm I1 D1)))) :
  Wp GG (d + 1) 268 758 [vR (some 0), vR (some 45), vR l2, vI l3, vR l4, vI l5, w6, w7, w8, w9] [] (mm I D) Q := runC_p (cut := lawCut) 9 h
set_option maxRecDepth 100000 in
theorem s_law_771 {d : Nat} {I : IM} {D : DY} {Q : Option PV → PM → Prop} (l2 : Option Nat) (l3 : Int32) (l4 : Option Nat) (l5 : Int32) (w6 : PV) (w7 : PV) (w8 : PV) (w9 : PV) (h : AI d 125 [vR (some 45), vI 0, vI 0, vI 0] (mm I D) (fun x1 I1 D1 => Wp GG (d + 1) 268 780 [vR (some 0), vR (some 45), vR l2, vI l3, vR l4, vI x1, w6, w7, w8, w9] [] (mm I1 D1) Q)) :
  Wp GG (d + 1) 268 771 [vR (some 0), vR (some 45), vR l2, vI l3, vR l4, vI l5, w6, w7, w8, w9] [] (mm I D) Q := runC_p (cut := lawCut) 7 h
set_option maxRecDepth 100000 in
theorem s_law_780 {d : Nat} {I : IM} {D : DY} {Q : Option PV → PM → Prop} (l2 : Option Nat) (l3 : Int32) (l4 : Option Nat) (l5 : Int32) (w6 : PV) (w7 : PV) (w8 : PV) (w9 : PV) (h : AI d 115 [vR (some 45), vI 0] (mm I D) (fun x1 I1 D1 => brP (¬ x1 = 1)
 (Q (some (vI 0)) (mm I1 D1))
 (brP (l5 ≤ 0)
 (Wp GG (d + 1) 268 810 [vR (some 0), vR (some 45), vR l2, vI l3, vR l4, vI l5, w6, w7, w8, w9] [] (mm I1 D1) Q)
 (Wp GG (d + 1) 268 794 [vR (some 0), vR (some 45), vR l2, vI l3, vR l4, vI l5, w6, w7, w8, w9] [] (mm I1 D1) Q)))) :
  Wp GG (d + 1) 268 780 [vR (some 0), vR (some 45), vR l2, vI l3, vR l4, vI l5, w6, w7, w8, w9] [] (mm I D) Q := runC_p (cut := lawCut) 8 h
set_option maxRecDepth 100000 in
theorem s_law_794 {d : Nat} {I : IM} {D : DY} {Q : Option PV → PM → Prop} (l2 : Option Nat) (l3 : Int32) (l4 : Option Nat) (l5 : Int32) (w6 : PV) (w7 : PV) (w8 : PV) (w9 : PV) (h : CI d 117 [vR (some 45), vI 0, vI 1, vI 1, vI l5] (mm I D) (fun x1 I1 => brP (x1 = l5)
 (Wp GG (d + 1) 268 810 [vR (some 0), vR (some 45), vR l2, vI l3, vR l4, vI l5, w6, w7, w8, w9] [] (mm I1 D) Q)
 (Q (some (vI 0)) (mm I1 D)))) :
  Wp GG (d + 1) 268 794 [vR (some 0), vR (some 45), vR l2, vI l3, vR l4, vI l5, w6, w7, w8, w9] [] (mm I D) Q := runC_p (cut := lawCut) 10 h
set_option maxRecDepth 100000 in
theorem s_law_810 {d : Nat} {I : IM} {D : DY} {Q : Option PV → PM → Prop} (l2 : Option Nat) (l3 : Int32) (l4 : Option Nat) (l5 : Int32) (w6 : PV) (w7 : PV) (w8 : PV) (w9 : PV) (h : Wp GG (d + 1) 268 816 [vR (some 0), vR (some 45), vR l2, vI l3, vR l4, vI l5, vI 1, vI 0, w8, w9] [] (mm I D) Q) :
  Wp GG (d + 1) 268 810 [vR (some 0), vR (some 45), vR l2, vI l3, vR l4, vI l5, w6, w7, w8, w9] [] (mm I D) Q := runC_p (cut := lawCut) 5 h
set_option maxRecDepth 100000 in
theorem s_law_816 {d : Nat} {I : IM} {D : DY} {Q : Option PV → PM → Prop} (l2 : Option Nat) (l3 : Int32) (l4 : Option Nat) (l5 : Int32) (l6 : Int32) (l7 : Int32) (w8 : PV) (w9 : PV) (h : brP ((8 : Int32) ≤ l7)
 (Wp GG (d + 1) 268 858 [vR (some 0), vR (some 45), vR l2, vI l3, vR l4, vI l5, vI l6, vI l7, w8, w9] [] (mm I D) Q)
 (CI d 131 [vR (some 45), vI 0, vI 0, vI l7] (mm I D) (fun x1 I1 => CI d 131 [vR (some 45), vI 0, vI 1, vI l7] (mm I1 D) (fun x2 I2 => brP (¬ x1 = x2)
 (Wp GG (d + 1) 268 849 [vR (some 0), vR (some 45), vR l2, vI l3, vR l4, vI l5, vI l6, vI l7, w8, w9] [vI 0, vI l6] (mm I2 D) Q)
 (Wp GG (d + 1) 268 849 [vR (some 0), vR (some 45), vR l2, vI l3, vR l4, vI l5, vI l6, vI l7, w8, w9] [vI 1, vI l6] (mm I2 D) Q))))) :
  Wp GG (d + 1) 268 816 [vR (some 0), vR (some 45), vR l2, vI l3, vR l4, vI l5, vI l6, vI l7, w8, w9] [] (mm I D) Q := runC_p (cut := lawCut) 18 h
set_option maxRecDepth 100000 in
theorem s_law_849 {d : Nat} {I : IM} {D : DY} {Q : Option PV → PM → Prop} (l2 : Option Nat) (l3 : Int32) (l4 : Option Nat) (l5 : Int32) (l6 : Int32) (l7 : Int32) (w8 : PV) (w9 : PV) (t0 : Int32) (t1 : Int32) (h : Wp GG (d + 1) 268 816 [vR (some 0), vR (some 45), vR l2, vI l3, vR l4, vI l5, vI (t0 &&& t1), vI (l7 + 1), w8, w9] [] (mm I D) Q) :
  Wp GG (d + 1) 268 849 [vR (some 0), vR (some 45), vR l2, vI l3, vR l4, vI l5, vI l6, vI l7, w8, w9] [vI t1, vI t0] (mm I D) Q := runC_p (cut := lawCut) 5 h
set_option maxRecDepth 100000 in
theorem s_law_858 {d : Nat} {I : IM} {D : DY} {Q : Option PV → PM → Prop} (l2 : Option Nat) (l3 : Int32) (l4 : Option Nat) (l5 : Int32) (l6 : Int32) (l7 : Int32) (w8 : PV) (w9 : PV) (h : AI d 125 [vR (some 45), vI 0, vI 0, vI 3] (mm I D) (fun x1 I1 D1 => brP (¬ x1 = 1)
 (Wp GG (d + 1) 268 874 [vR (some 0), vR (some 45), vR l2, vI l3, vR l4, vI l5, vI l6, vI l7, w8, w9] [vI 0] (mm I1 D1) Q)
 (Wp GG (d + 1) 268 874 [vR (some 0), vR (some 45), vR l2, vI l3, vR l4, vI l5, vI l6, vI l7, w8, w9] [vI 1] (mm I1 D1) Q))) :
  Wp GG (d + 1) 268 858 [vR (some 0), vR (some 45), vR l2, vI l3, vR l4, vI l5, vI l6, vI l7, w8, w9] [] (mm I D) Q := runC_p (cut := lawCut) 10 h
set_option maxRecDepth 100000 in
theorem s_law_874 {d : Nat} {I : IM} {D : DY} {Q : Option PV → PM → Prop} (l2 : Option Nat) (l3 : Int32) (l4 : Option Nat) (l5 : Int32) (l6 : Int32) (l7 : Int32) (w8 : PV) (w9 : PV) (t0 : Int32) (h : brP (¬ t0 = l6)
 (Q (some (vI 0)) (mm I D))
 (Wp GG (d + 1) 268 879 [vR (some 0), vR (some 45), vR l2, vI l3, vR l4, vI l5, vI l6, vI l7, w8, w9] [] (mm I D) Q)) :
  Wp GG (d + 1) 268 874 [vR (some 0), vR (some 45), vR l2, vI l3, vR l4, vI l5, vI l6, vI l7, w8, w9] [vI t0] (mm I D) Q := runC_p (cut := lawCut) 4 h
set_option maxRecDepth 100000 in
theorem s_law_879 {d : Nat} {I : IM} {D : DY} {Q : Option PV → PM → Prop} (l2 : Option Nat) (l3 : Int32) (l4 : Option Nat) (l5 : Int32) (l6 : Int32) (l7 : Int32) (w8 : PV) (w9 : PV) (h : AI d 125 [vR (some 45), vI 0, vI 1, vI 3] (mm I D) (fun x1 I1 D1 => brP (¬ x1 = 1)
 (Q (some (vI 0)) (mm I1 D1))
 (AI d 124 [vR (some 45), vI 0] (mm I1 D1) (fun x2 I2 D2 => brP (¬ x2 = l5)
 (Q (some (vI 0)) (mm I2 D2))
 (AI d 125 [vR (some 45), vI 0, vI 0, vI 3] (mm I2 D2) (fun x3 I3 D3 => brP (¬ x3 = 1)
 (Q (some (vI 0)) (mm I3 D3))
 (Q (some (vI 1)) (mm I3 D3)))))))) :
  Wp GG (d + 1) 268 879 [vR (some 0), vR (some 45), vR l2, vI l3, vR l4, vI l5, vI l6, vI l7, w8, w9] [] (mm I D) Q := runC_p (cut := lawCut) 22 h
