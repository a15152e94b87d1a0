theorem s_within {d : Nat} {I : IM} {D : DY} {Q : Option PV → PM → Prop} (v : Int32) (lo : Int32) (hi : Int32) (h : brP (v < lo)
 (Q (some (vI 0)) (mm I D))
 (brP (hi < v)
 (Q (some (vI 0)) (mm I D))
 (Q (some (vI 1)) (mm I D)))) :
  Mt GG d 12 [vI v, vI lo, vI hi] (mm I D) Q := runC_m (cut := (fun _ => false)) 9 h
theorem s_feed {d : Nat} {I : IM} {D : DY} {Q : Option PV → PM → Prop} (x : Int32) (h : CI d 12 [vI x, vI 1, vI 255] (mm I D) (fun x1 I1 => brP (x1 = 0)
 (Q (some (vI (-1))) (mm I1 D))
 (CI d 13 [vR (some 46), vI x] (mm I1 D) (fun x2 I2 => Q (some (vI x2)) (mm I2 D))))) :
  Mt GG (d + 1) 11 [vR (some 45), vI x] (mm I D) Q := runC_m (cut := (fun _ => false)) 11 h
theorem s_tadd {d : Nat} {I : IM} {D : DY} {Q : Option PV → PM → Prop} (x : Int32) (h : brP ((I 46 4) < 160)
 (tsP (inB (I 46 4) 160) (Q (some (vI ((I 46 4) + 1))) (mm (up2 (up2 I 47 (ixN (I 46 4)) x) 46 4 ((I 46 4) + 1)) D)))
 (Q (some (vI (-3))) (mm I D))) :
  Mt GG d 13 [vR (some 46), vI x] (mm I D) Q := runC_m (cut := (fun _ => false)) 21 h
theorem s_bget {d : Nat} {I : IM} {D : DY} {Q : Option PV → PM → Prop} (b : Nat) (s : Int32) (w : Int32) (h : brP (((s * 4) + w) < 0)
 (Q (some (vI 0)) (mm I D))
 (tsP (pKd (mm I D) b = 1) (onR False (pR (mm I D) b 0) (fun a1 => tsP (19 ≤ pKd (mm I D) a1 ∧ pKd (mm I D) a1 < 26) (brP ((Int32.ofNat (pLn (mm I D) a1)) ≤ ((s * 4) + w))
 (Q (some (vI 0)) (mm I D))
 (tsP (pKd (mm I D) b = 1) (onR False (pR (mm I D) b 0) (fun a2 => tsP (pKd (mm I D) a2 = 20) (tsP (inB ((s * 4) + w) (pLn (mm I D) a2)) (Q (some (vI (I a2 (ixN ((s * 4) + w))))) (mm I D))))))))))) :
  Mt GG d 51 [vR (some b), vI s, vI w] (mm I D) Q := runC_m (cut := (fun _ => false)) 19 h
theorem s_change {d : Nat} {I : IM} {D : DY} {Q : Option PV → PM → Prop} (b : Nat) (s : Int32) (k : Int32) (a : Int32) (h : brP (k = (0 : Int32))
 (tsP (pKd (mm I D) b = 1) (CV d 59 [vR (some b), vI s, vI 0, vI 1] (mm I D) (fun I1 => tsP (pKd (mm I1 D) b = 1) (CV d 59 [vR (some b), vI s, vI 3, vI a] (mm I1 D) (fun I2 => Q none (mm I2 D))))))
 (brP (k = ((0 : Int32) + 1))
 (tsP (pKd (mm I D) b = 1) (CV d 60 [vR (some b), vI s, vI 1, vI a] (mm I D) (fun I3 => Q none (mm I3 D))))
 (brP (k = (((0 : Int32) + 1) + 1))
 (tsP (pKd (mm I D) b = 1) (CV d 60 [vR (some b), vI s, vI 1, vI (-a)] (mm I D) (fun I4 => Q none (mm I4 D))))
 (brP (k = ((((0 : Int32) + 1) + 1) + 1))
 (tsP (pKd (mm I D) b = 1) (CV d 60 [vR (some b), vI s, vI 2, vI a] (mm I D) (fun I5 => Q none (mm I5 D))))
 (brP (k = (((((0 : Int32) + 1) + 1) + 1) + 1))
 (tsP (pKd (mm I D) b = 1) (CV d 60 [vR (some b), vI s, vI 2, vI (-a)] (mm I D) (fun I6 => Q none (mm I6 D))))
 (brP (k = ((((((0 : Int32) + 1) + 1) + 1) + 1) + 1))
 (tsP (pKd (mm I D) b = 1) (CV d 59 [vR (some b), vI s, vI 3, vI a] (mm I D) (fun I7 => Q none (mm I7 D))))
 (brP (k = (((((((0 : Int32) + 1) + 1) + 1) + 1) + 1) + 1))
 (tsP (pKd (mm I D) b = 1) (CV d 60 [vR (some b), vI s, vI 1, vI (-a)] (mm I D) (fun I8 => Q none (mm I8 D))))
 (brP (k = ((((((((0 : Int32) + 1) + 1) + 1) + 1) + 1) + 1) + 1))
 (tsP (pKd (mm I D) b = 1) (CV d 60 [vR (some b), vI s, vI 1, vI a] (mm I D) (fun I9 => Q none (mm I9 D))))
 (brP (k = (((((((((0 : Int32) + 1) + 1) + 1) + 1) + 1) + 1) + 1) + 1))
 (tsP (pKd (mm I D) b = 1) (CV d 59 [vR (some b), vI s, vI 0, vI 2] (mm I D) (fun I10 => Q none (mm I10 D))))
 (Q none (mm I D))))))))))) :
  Mt GG (d + 1) 58 [vR (some b), vI s, vI k, vI a] (mm I D) Q := runC_m (cut := (fun _ => false)) 14 h
theorem s_ask {d : Nat} {I : IM} {D : DY} {Q : Option PV → PM → Prop} (s : Int32) (e : Int32) (n : Int32) (h : CI d 15 [vI s] (mm I D) (fun x1 I1 => brP (x1 = 0)
 (Q (some (vI (-1))) (mm I1 D))
 (brP (e < (-1))
 (Q (some (vI (-1))) (mm I1 D))
 (CI d 12 [vI n, vI 0, vI 999] (mm I1 D) (fun x2 I2 => brP (¬ x2 = 0)
 (CV d 16 [vR (some 46)] (mm I2 D) (fun I3 => AR d 17 [vR (some 46), vI 0] (mm I3 D) (fun x4 I4 D1 => CI d 45 [vR (some 46)] (mm I4 D1) (fun x5 I5 => brP (x5 < 0)
 (CI d 46 [vR (some 54), vI s, vI e, vI n, vR x4] (mm I5 D1) (fun x6 I6 => Q (some (vI x6)) (mm I6 D1)))
 (Q (some (vI ((-100) - x5))) (mm I5 D1))))))
 (Q (some (vI (-1))) (mm I2 D))))))) :
  Mt GG (d + 1) 14 [vR (some 45), vI s, vI e, vI n] (mm I D) Q := runC_m (cut := (fun _ => false)) 33 h
theorem s_carry {d : Nat} {I : IM} {D : DY} {Q : Option PV → PM → Prop} (s : Int32) (c : Option Nat) (a : Int32) (h : CI d 50 [vR (some 59), vI s, vR c, vI a] (mm I D) (fun x1 I1 => brP (x1 ≤ 0)
 (onR False c (fun a1 => tsP (pKd (mm I1 D) a1 = 2) (CI d 52 [vR (some a1)] (mm I1 D) (fun x2 I2 => CI d 53 [vR (some 55)] (mm I2 D) (fun x3 I3 => brP (x2 ≤ x3)
 (onR False c (fun a2 => tsP (pKd (mm I3 D) a2 = 2) (brP (¬ (I3 a2 0) = 6)
 (onR False c (fun a3 => tsP (pKd (mm I3 D) a3 = 2) (CV d 54 [vR (some 54), vI s, vI (I3 a3 0), vI a, vI 0] (mm I3 D) (fun I4 => CV d 47 [vR (some 54), vI 0] (mm I4 D) (fun I5 => CI d 48 [vR (some 55), vI s] (mm I5 D) (fun x6 I6 => Q (some (vI x6)) (mm I6 D)))))))
 (onR False c (fun a4 => tsP (pKd (mm I3 D) a4 = 2) (CV d 54 [vR (some 54), vI s, vI 6, vI a, vI (I3 a4 2)] (mm I3 D) (fun I7 => onR False c (fun a5 => tsP (pKd (mm I7 D) a5 = 2) (CV d 54 [vR (some 54), vI (I7 a5 2), vI 7, vI a, vI s] (mm I7 D) (fun I8 => CV d 47 [vR (some 54), vI 0] (mm I8 D) (fun I9 => CI d 48 [vR (some 55), vI s] (mm I9 D) (fun x10 I10 => Q (some (vI x10)) (mm I10 D)))))))))))))
 (Q (some (vI (-3))) (mm I3 D)))))))
 (CV d 47 [vR (some 54), vI 3] (mm I1 D) (fun I11 => Q (some (vI (-x1))) (mm I11 D))))) :
  Mt GG (d + 1) 49 [vR (some 54), vI s, vR c, vI a] (mm I D) Q := runC_m (cut := (fun _ => false)) 42 h
theorem s_look {d : Nat} {I : IM} {D : DY} {Q : Option PV → PM → Prop} (p : Int32) (w : Int32) (k : Int32) (h : CI d 110 [vI p] (mm I D) (fun x1 I1 => brP (x1 = 0)
 (Q (some (vI (-2000000000))) (mm I1 D))
 (CI d 12 [vI w, vI 0, vI 1] (mm I1 D) (fun x2 I2 => brP (x2 = 0)
 (Q (some (vI (-2000000000))) (mm I2 D))
 (CI d 12 [vI k, vI 0, vI 4] (mm I2 D) (fun x3 I3 => brP (¬ x3 = 0)
 (CR d 118 [vR (some 54), vI p, vI w] (mm I3 D) (fun x4 I4 => brP (x4 = none)
 (Q (some (vI (-2000000000))) (mm I4 D))
 (brP (k = (0 : Int32))
 (onR False x4 (fun a1 => tsP (pKd (mm I4 D) a1 = 7) (Q (some (vI (I4 a1 6))) (mm I4 D))))
 (brP (k = ((0 : Int32) + 1))
 (onR False x4 (fun a2 => tsP (pKd (mm I4 D) a2 = 7) (CI d 126 [vR (some a2)] (mm I4 D) (fun x5 I5 => Q (some (vI x5)) (mm I5 D)))))
 (brP (k = (((0 : Int32) + 1) + 1))
 (onR False x4 (fun a3 => tsP (pKd (mm I4 D) a3 = 7) (Q (some (vI ((I4 55 4) - (I4 a3 6)))) (mm I4 D))))
 (brP (k = ((((0 : Int32) + 1) + 1) + 1))
 (AI d 128 [vR (some 54), vR x4] (mm I4 D) (fun x6 I6 D1 => brP (x6 = 0)
 (Q (some (vI 0)) (mm I6 D1))
 (Q (some (vI 1)) (mm I6 D1))))
 (onR False x4 (fun a4 => tsP (pKd (mm I4 D) a4 = 7) (CI d 130 [vR (some a4)] (mm I4 D) (fun x7 I7 => Q (some (vI x7)) (mm I7 D)))))))))))
 (Q (some (vI (-2000000000))) (mm I3 D)))))))) :
  Mt GG (d + 1) 125 [vR (some 45), vI p, vI w, vI k] (mm I D) Q := runC_m (cut := (fun _ => false)) 31 h
theorem s_fadd {d : Nat} {I : IM} {D : DY} {Q : Option PV → PM → Prop} (k : Int32) (a : Option Nat) (b : Option Nat) (h : brP (k < 0)
 (Q (some (vI (-1))) (mm I D))
 (brP (k < 9)
 (tsP (inB k 9) (brP ((I 64 (ixN k)) < 3)
 (tsP (inB k 9) (brP (((k * 3) + (I 64 (ixN k))) < 0)
 (Q (some (vI (-3))) (mm I D))
 (brP ((27 : Int32) ≤ ((k * 3) + (I 64 (ixN k))))
 (Q (some (vI (-3))) (mm I D))
 (brP (((k * 3) + (I 64 (ixN k))) < 27)
 (tsP (inB ((k * 3) + (I 64 (ixN k))) 27) (astP (mm I D) 65 a (tsP (inB ((k * 3) + (I 64 (ixN k))) 27) (astP (setR (mm I D) 65 (ixN ((k * 3) + (I 64 (ixN k)))) a) 66 b (tsP (inB k 9) (tsP (inB k 9) (CI d 55 [vR (some 63), vI k] (setR (setR (mm (up2 (up2 I 64 (ixN k) ((I 64 (ixN k)) + 1)) 63 4 ((I 63 4) + 1)) D) 65 (ixN ((k * 3) + (I 64 (ixN k)))) a) 66 (ixN ((k * 3) + (I 64 (ixN k)))) b) (fun x1 I1 => Q (some (vI x1)) (setR (setR (mm I1 D) 65 (ixN ((k * 3) + (I 64 (ixN k)))) a) 66 (ixN ((k * 3) + (I 64 (ixN k)))) b)))))))))
 (Q (some (vI (-3))) (mm I D))))))
 (Q (some (vI (-3))) (mm I D))))
 (Q (some (vI (-1))) (mm I D)))) :
  Mt GG (d + 1) 75 [vR (some 63), vI k, vR a, vR b] (mm I D) Q := runC_m (cut := (fun _ => false)) 62 h
