/-! The law: one call after another. -/
theorem RMS.frm {σ : SS} {I I2 : IM} (h : RMS σ I) (hf : FrM I I2) : RMS σ I2 := by
  obtain ⟨a, b, c, e, f, g, y, l, v, u⟩ := h
  exact ⟨a.mv (fun q k z => hf q k (by unfold ZE at z; omega) (by unfold ZE at z; omega)), b.mv (fun q k z => hf q k (by unfold ZC at z; omega) (by unfold ZC at z; omega)), c.mv (fun q k z => hf q k (by unfold ZS at z; omega) (by unfold ZS at z; omega)), fun k hk => (hf _ _ (by omega) (by omega)).trans (e k hk),
    f.mv (fun q k z => hf q k (by unfold ZP at z; omega) (by unfold ZP at z; omega)), g.mv (fun q k z => hf q k (by unfold ZQ at z; omega) (by unfold ZQ at z; omega)), y.mv (fun q k z => hf q k (by unfold ZY at z; omega) (by unfold ZY at z; omega)), fun k hk => (hf _ _ (by omega) (by omega)).trans (l k hk), (hf _ _ (by omega) (by omega)).trans v, (hf _ _ (by omega) (by omega)).trans u⟩
theorem RM.frm {τ : ST} {I I2 : IM} (h : RM τ I) (hf : FrM I I2) : RM τ I2 := by
  obtain ⟨⟨a1, a2, a3, a4, a5⟩, b, c, e⟩ := h
  exact ⟨⟨(hf _ _ (by omega) (by omega)).trans a1, a2, fun k hk => (hf _ _ (by omega) (by omega)).trans (a3 k hk), a4, fun s hs => by
    obtain ⟨n, h1, h2⟩ := a5 s hs
    exact ⟨n, h1, (hf _ _ (by omega) (by omega)).trans h2⟩⟩, fun k hk => (hf _ _ (by omega) (by omega)).trans (b k hk), c.frm hf, e.mv (hf _ _ (by omega) (by omega)) (fun k => hf _ _ (by omega) (by omega)) (fun k _ => hf _ _ (by omega) (by omega)) (fun k _ => hf _ _ (by omega) (by omega))⟩
section
variable {d y : Nat} {as : List PV} {I : IM} {D : DY} {τ : ST}
theorem br_AI {x0 : Int32} {K : Int32 → IM → DY → Prop} (hz : 159 ≤ dZ D) (hc : AI d y as (mm I D) (fun x I2 D2 => x = x0 ∧ FrM I I2 ∧ GD D D2 ∧ RC τ I2 D2)) (hk : ∀ I2 D2, SCR I D I2 D2 → FrM I I2 → GD D D2 → RC τ I2 D2 → K x0 I2 D2) : AI d y as (mm I D) K :=
  Mt.mono (AI.fs hz hc) fun v M' ⟨x, I2, D2, e1, e2, ⟨e3, h1, h2, h3⟩, hs⟩ => ⟨x, I2, D2, e1, e2, by subst e3; exact hk I2 D2 hs h1 h2 h3⟩
theorem br_AL {x0 : Int64} {K : Int64 → IM → DY → Prop} (hz : 159 ≤ dZ D) (hc : AL d y as (mm I D) (fun x I2 D2 => x = x0 ∧ FrM I I2 ∧ GD D D2 ∧ RC τ I2 D2)) (hk : ∀ I2 D2, SCR I D I2 D2 → FrM I I2 → GD D D2 → RC τ I2 D2 → K x0 I2 D2) : AL d y as (mm I D) K :=
  Mt.mono (AL.fs hz hc) fun v M' ⟨x, I2, D2, e1, e2, ⟨e3, h1, h2, h3⟩, hs⟩ => ⟨x, I2, D2, e1, e2, by subst e3; exact hk I2 D2 hs h1 h2 h3⟩
theorem br_CI {x0 : Int32} {P : IM → Prop} {K : Int32 → IM → Prop} (hz : 159 ≤ dZ D) (hc : CI d y as (mm I D) (fun x I2 => x = x0 ∧ P I2)) (hk : ∀ I2, SCR I D I2 D → P I2 → K x0 I2) : CI d y as (mm I D) K :=
  Mt.mono (CI.fs hz hc) fun v M' ⟨x, I2, e1, e2, ⟨e3, h1⟩, hs⟩ => ⟨x, I2, e1, e2, by subst e3; exact hk I2 hs h1⟩
theorem br_CL {x0 : Int64} {P : IM → Prop} {K : Int64 → IM → Prop} (hz : 159 ≤ dZ D) (hc : CL d y as (mm I D) (fun x I2 => x = x0 ∧ P I2)) (hk : ∀ I2, SCR I D I2 D → P I2 → K x0 I2) : CL d y as (mm I D) K :=
  Mt.mono (CL.fs hz hc) fun v M' ⟨x, I2, e1, e2, ⟨e3, h1⟩, hs⟩ => ⟨x, I2, e1, e2, by subst e3; exact hk I2 hs h1⟩
end
theorem lcmp_rf (x : Int64) : lcmpV x x = 0 := by
  unfold lcmpV
  rw [if_neg Int64.lt_irrefl, if_pos rfl]
set_option maxRecDepth 100000 in
theorem s_L_law_18 {d : Nat} {I : IM} {D : DY} {Q : Option PV → PM → Prop} (p3 : Int32) (h : brP (((Int32.ofNat (pLn (mm I D) 0)) - 5) < p3)
 (Q (some (vI 1)) (mm I D))
 (tsP (inB p3 (pLn (mm I D) 0)) (brP (((I 0 (ixN p3)) &&& 63) = (0 : Int32))
 (tsP (inB (p3 + 1) (pLn (mm I D) 0)) (CI d 11 [vR (some 45), vI (I 0 (ixN (p3 + 1)))] (mm I D) (fun x1 I1 => tsP (inB (p3 + 1) (pLn (mm I1 D) 0)) (CI d 168 [vR (some 106), vI (I1 0 (ixN (p3 + 1)))] (mm I1 D) (fun x2 I2 => brP (x1 = x2)
 (Wp GG (d + 1) 268 18 [vR (some 0), vR (some 45), vR (some 106), vI (p3 + 5)] [] (mm I2 D) Q)
 (Q (some (vI 0)) (mm I2 D)))))))
 (brP (((I 0 (ixN p3)) &&& 63) = ((0 : Int32) + 1))
 (tsP (inB (p3 + 1) (pLn (mm I D) 0)) (tsP (inB (p3 + 2) (pLn (mm I D) 0)) (tsP (inB (p3 + 3) (pLn (mm I D) 0)) (AI d 14 [vR (some 45), vI (I 0 (ixN (p3 + 1))), vI (I 0 (ixN (p3 + 2))), vI (I 0 (ixN (p3 + 3)))] (mm I D) (fun x3 I3 D1 => tsP (inB (p3 + 1) (pLn (mm I3 D1) 0)) (tsP (inB (p3 + 2) (pLn (mm I3 D1) 0)) (tsP (inB (p3 + 3) (pLn (mm I3 D1) 0)) (CI d 206 [vR (some 106), vI (I3 0 (ixN (p3 + 1))), vI (I3 0 (ixN (p3 + 2))), vI (I3 0 (ixN (p3 + 3)))] (mm I3 D1) (fun x4 I4 => brP (x3 = x4)
 (Wp GG (d + 1) 268 18 [vR (some 0), vR (some 45), vR (some 106), vI (p3 + 5)] [] (mm I4 D1) Q)
 (Q (some (vI 0)) (mm I4 D1)))))))))))
 (brP (((I 0 (ixN p3)) &&& 63) = (((0 : Int32) + 1) + 1))
 (AI d 63 [vR (some 45)] (mm I D) (fun x5 I5 D2 => CI d 214 [vR (some 106)] (mm I5 D2) (fun x6 I6 => brP (x5 = x6)
 (Wp GG (d + 1) 268 18 [vR (some 0), vR (some 45), vR (some 106), vI (p3 + 5)] [] (mm I6 D2) Q)
 (Q (some (vI 0)) (mm I6 D2)))))
 (brP (((I 0 (ixN p3)) &&& 63) = ((((0 : Int32) + 1) + 1) + 1))
 (AI d 73 [vR (some 45)] (mm I D) (fun x7 I7 D3 => CI d 170 [vR (some 106)] (mm I7 D3) (fun x8 I8 => brP (x7 = x8)
 (Wp GG (d + 1) 268 18 [vR (some 0), vR (some 45), vR (some 106), vI (p3 + 5)] [] (mm I8 D3) Q)
 (Q (some (vI 0)) (mm I8 D3)))))
 (brP (((I 0 (ixN p3)) &&& 63) = (((((0 : Int32) + 1) + 1) + 1) + 1))
 (tsP (inB (p3 + 1) (pLn (mm I D) 0)) (tsP (inB (p3 + 2) (pLn (mm I D) 0)) (CI d 87 [vR (some 45), vI (I 0 (ixN (p3 + 1))), vI (I 0 (ixN (p3 + 2)))] (mm I D) (fun x9 I9 => tsP (inB (p3 + 1) (pLn (mm I9 D) 0)) (tsP (inB (p3 + 2) (pLn (mm I9 D) 0)) (CI d 191 [vR (some 106), vI (I9 0 (ixN (p3 + 1))), vI (I9 0 (ixN (p3 + 2)))] (mm I9 D) (fun x10 I10 => brP (x9 = x10)
 (Wp GG (d + 1) 268 18 [vR (some 0), vR (some 45), vR (some 106), vI (p3 + 5)] [] (mm I10 D) Q)
 (Q (some (vI 0)) (mm I10 D)))))))))
 (brP (((I 0 (ixN p3)) &&& 63) = ((((((0 : Int32) + 1) + 1) + 1) + 1) + 1))
 (tsP (inB (p3 + 1) (pLn (mm I D) 0)) (tsP (inB (p3 + 2) (pLn (mm I D) 0)) (tsP (inB (p3 + 3) (pLn (mm I D) 0)) (CI d 88 [vR (some 45), vI (I 0 (ixN (p3 + 1))), vI (I 0 (ixN (p3 + 2))), vI (I 0 (ixN (p3 + 3)))] (mm I D) (fun x11 I11 => tsP (inB (p3 + 1) (pLn (mm I11 D) 0)) (tsP (inB (p3 + 2) (pLn (mm I11 D) 0)) (tsP (inB (p3 + 3) (pLn (mm I11 D) 0)) (CI d 199 [vR (some 106), vI (I11 0 (ixN (p3 + 1))), vI (I11 0 (ixN (p3 + 2))), vI (I11 0 (ixN (p3 + 3)))] (mm I11 D) (fun x12 I12 => brP (x11 = x12)
 (Wp GG (d + 1) 268 18 [vR (some 0), vR (some 45), vR (some 106), vI (p3 + 5)] [] (mm I12 D) Q)
 (Q (some (vI 0)) (mm I12 D)))))))))))
 (brP (((I 0 (ixN p3)) &&& 63) = (((((((0 : Int32) + 1) + 1) + 1) + 1) + 1) + 1))
 (tsP (inB (p3 + 1) (pLn (mm I D) 0)) (tsP (inB (p3 + 2) (pLn (mm I D) 0)) (CI d 91 [vR (some 45), vI (I 0 (ixN (p3 + 1))), vI (I 0 (ixN (p3 + 2)))] (mm I D) (fun x13 I13 => tsP (inB (p3 + 1) (pLn (mm I13 D) 0)) (tsP (inB (p3 + 2) (pLn (mm I13 D) 0)) (CI d 201 [vR (some 106), vI (I13 0 (ixN (p3 + 1))), vI (I13 0 (ixN (p3 + 2)))] (mm I13 D) (fun x14 I14 => brP (x13 = x14)
 (Wp GG (d + 1) 268 18 [vR (some 0), vR (some 45), vR (some 106), vI (p3 + 5)] [] (mm I14 D) Q)
 (Q (some (vI 0)) (mm I14 D)))))))))
 (brP (((I 0 (ixN p3)) &&& 63) = ((((((((0 : Int32) + 1) + 1) + 1) + 1) + 1) + 1) + 1))
 (tsP (inB (p3 + 1) (pLn (mm I D) 0)) (CI d 95 [vR (some 45), vI (I 0 (ixN (p3 + 1)))] (mm I D) (fun x15 I15 => tsP (inB (p3 + 1) (pLn (mm I15 D) 0)) (CI d 202 [vR (some 106), vI (I15 0 (ixN (p3 + 1)))] (mm I15 D) (fun x16 I16 => brP (x15 = x16)
 (Wp GG (d + 1) 268 18 [vR (some 0), vR (some 45), vR (some 106), vI (p3 + 5)] [] (mm I16 D) Q)
 (Q (some (vI 0)) (mm I16 D)))))))
 (brP (((I 0 (ixN p3)) &&& 63) = (((((((((0 : Int32) + 1) + 1) + 1) + 1) + 1) + 1) + 1) + 1))
 (tsP (inB (p3 + 1) (pLn (mm I D) 0)) (tsP (inB (p3 + 2) (pLn (mm I D) 0)) (CI d 96 [vR (some 45), vI (I 0 (ixN (p3 + 1))), vI (I 0 (ixN (p3 + 2)))] (mm I D) (fun x17 I17 => tsP (inB (p3 + 1) (pLn (mm I17 D) 0)) (tsP (inB (p3 + 2) (pLn (mm I17 D) 0)) (CI d 204 [vR (some 106), vI (I17 0 (ixN (p3 + 1))), vI (I17 0 (ixN (p3 + 2)))] (mm I17 D) (fun x18 I18 => brP (x17 = x18)
 (Wp GG (d + 1) 268 18 [vR (some 0), vR (some 45), vR (some 106), vI (p3 + 5)] [] (mm I18 D) Q)
 (Q (some (vI 0)) (mm I18 D)))))))))
 (brP (((I 0 (ixN p3)) &&& 63) = ((((((((((0 : Int32) + 1) + 1) + 1) + 1) + 1) + 1) + 1) + 1) + 1))
 (tsP (inB (p3 + 1) (pLn (mm I D) 0)) (CI d 98 [vR (some 45), vI (I 0 (ixN (p3 + 1)))] (mm I D) (fun x19 I19 => tsP (inB (p3 + 1) (pLn (mm I19 D) 0)) (CI d 205 [vR (some 106), vI (I19 0 (ixN (p3 + 1)))] (mm I19 D) (fun x20 I20 => brP (x19 = x20)
 (Wp GG (d + 1) 268 18 [vR (some 0), vR (some 45), vR (some 106), vI (p3 + 5)] [] (mm I20 D) Q)
 (Q (some (vI 0)) (mm I20 D)))))))
 (brP (((I 0 (ixN p3)) &&& 63) = (((((((((((0 : Int32) + 1) + 1) + 1) + 1) + 1) + 1) + 1) + 1) + 1) + 1))
 (tsP (inB (p3 + 1) (pLn (mm I D) 0)) (tsP (inB (p3 + 2) (pLn (mm I D) 0)) (CI d 99 [vR (some 45), vI (I 0 (ixN (p3 + 1))), vI (I 0 (ixN (p3 + 2)))] (mm I D) (fun x21 I21 => tsP (inB (p3 + 1) (pLn (mm I21 D) 0)) (tsP (inB (p3 + 2) (pLn (mm I21 D) 0)) (CI d 222 [vR (some 106), vI (I21 0 (ixN (p3 + 1))), vI (I21 0 (ixN (p3 + 2)))] (mm I21 D) (fun x22 I22 => brP (x21 = x22)
 (Wp GG (d + 1) 268 18 [vR (some 0), vR (some 45), vR (some 106), vI (p3 + 5)] [] (mm I22 D) Q)
 (Q (some (vI 0)) (mm I22 D)))))))))
 (brP (((I 0 (ixN p3)) &&& 63) = ((((((((((((0 : Int32) + 1) + 1) + 1) + 1) + 1) + 1) + 1) + 1) + 1) + 1) + 1))
 (tsP (inB (p3 + 1) (pLn (mm I D) 0)) (tsP (inB (p3 + 2) (pLn (mm I D) 0)) (CI d 100 [vR (some 45), vI (I 0 (ixN (p3 + 1))), vI (I 0 (ixN (p3 + 2)))] (mm I D) (fun x23 I23 => tsP (inB (p3 + 1) (pLn (mm I23 D) 0)) (tsP (inB (p3 + 2) (pLn (mm I23 D) 0)) (CI d 224 [vR (some 106), vI (I23 0 (ixN (p3 + 1))), vI (I23 0 (ixN (p3 + 2)))] (mm I23 D) (fun x24 I24 => brP (x23 = x24)
 (Wp GG (d + 1) 268 18 [vR (some 0), vR (some 45), vR (some 106), vI (p3 + 5)] [] (mm I24 D) Q)
 (Q (some (vI 0)) (mm I24 D)))))))))
 (brP (((I 0 (ixN p3)) &&& 63) = (((((((((((((0 : Int32) + 1) + 1) + 1) + 1) + 1) + 1) + 1) + 1) + 1) + 1) + 1) + 1))
 (tsP (inB (p3 + 1) (pLn (mm I D) 0)) (tsP (inB (p3 + 2) (pLn (mm I D) 0)) (CI d 106 [vR (some 45), vI (I 0 (ixN (p3 + 1))), vI (I 0 (ixN (p3 + 2)))] (mm I D) (fun x25 I25 => tsP (inB (p3 + 1) (pLn (mm I25 D) 0)) (tsP (inB (p3 + 2) (pLn (mm I25 D) 0)) (CI d 228 [vR (some 106), vI (I25 0 (ixN (p3 + 1))), vI (I25 0 (ixN (p3 + 2)))] (mm I25 D) (fun x26 I26 => brP (x25 = x26)
 (Wp GG (d + 1) 268 18 [vR (some 0), vR (some 45), vR (some 106), vI (p3 + 5)] [] (mm I26 D) Q)
 (Q (some (vI 0)) (mm I26 D)))))))))
 (brP (((I 0 (ixN p3)) &&& 63) = ((((((((((((((0 : Int32) + 1) + 1) + 1) + 1) + 1) + 1) + 1) + 1) + 1) + 1) + 1) + 1) + 1))
 (tsP (inB (p3 + 1) (pLn (mm I D) 0)) (CL d 107 [vR (some 45), vI (I 0 (ixN (p3 + 1)))] (mm I D) (fun x27 I27 => tsP (inB (p3 + 1) (pLn (mm I27 D) 0)) (CL d 229 [vR (some 106), vI (I27 0 (ixN (p3 + 1)))] (mm I27 D) (fun x28 I28 => brP ((lcmpV x27 x28) = 0)
 (Wp GG (d + 1) 268 18 [vR (some 0), vR (some 45), vR (some 106), vI (p3 + 5)] [] (mm I28 D) Q)
 (Q (some (vI 0)) (mm I28 D)))))))
 (brP (((I 0 (ixN p3)) &&& 63) = (((((((((((((((0 : Int32) + 1) + 1) + 1) + 1) + 1) + 1) + 1) + 1) + 1) + 1) + 1) + 1) + 1) + 1))
 (tsP (inB (p3 + 1) (pLn (mm I D) 0)) (AI d 109 [vR (some 45), vI (I 0 (ixN (p3 + 1)))] (mm I D) (fun x29 I29 D4 => tsP (inB (p3 + 1) (pLn (mm I29 D4) 0)) (CI d 232 [vR (some 106), vI (I29 0 (ixN (p3 + 1)))] (mm I29 D4) (fun x30 I30 => brP (x29 = x30)
 (Wp GG (d + 1) 268 18 [vR (some 0), vR (some 45), vR (some 106), vI (p3 + 5)] [] (mm I30 D4) Q)
 (Q (some (vI 0)) (mm I30 D4)))))))
 (brP (((I 0 (ixN p3)) &&& 63) = ((((((((((((((((0 : Int32) + 1) + 1) + 1) + 1) + 1) + 1) + 1) + 1) + 1) + 1) + 1) + 1) + 1) + 1) + 1))
 (tsP (inB (p3 + 1) (pLn (mm I D) 0)) (AI d 115 [vR (some 45), vI (I 0 (ixN (p3 + 1)))] (mm I D) (fun x31 I31 D5 => tsP (inB (p3 + 1) (pLn (mm I31 D5) 0)) (CI d 240 [vR (some 106), vI (I31 0 (ixN (p3 + 1)))] (mm I31 D5) (fun x32 I32 => brP (x31 = x32)
 (Wp GG (d + 1) 268 18 [vR (some 0), vR (some 45), vR (some 106), vI (p3 + 5)] [] (mm I32 D5) Q)
 (Q (some (vI 0)) (mm I32 D5)))))))
 (brP (((I 0 (ixN p3)) &&& 63) = (((((((((((((((((0 : Int32) + 1) + 1) + 1) + 1) + 1) + 1) + 1) + 1) + 1) + 1) + 1) + 1) + 1) + 1) + 1) + 1))
 (tsP (inB (p3 + 1) (pLn (mm I D) 0)) (tsP (inB (p3 + 2) (pLn (mm I D) 0)) (tsP (inB (p3 + 3) (pLn (mm I D) 0)) (tsP (inB (p3 + 4) (pLn (mm I D) 0)) (CI d 117 [vR (some 45), vI (I 0 (ixN (p3 + 1))), vI (I 0 (ixN (p3 + 2))), vI (I 0 (ixN (p3 + 3))), vI (I 0 (ixN (p3 + 4)))] (mm I D) (fun x33 I33 => tsP (inB (p3 + 1) (pLn (mm I33 D) 0)) (tsP (inB (p3 + 2) (pLn (mm I33 D) 0)) (tsP (inB (p3 + 3) (pLn (mm I33 D) 0)) (tsP (inB (p3 + 4) (pLn (mm I33 D) 0)) (CI d 241 [vR (some 106), vI (I33 0 (ixN (p3 + 1))), vI (I33 0 (ixN (p3 + 2))), vI (I33 0 (ixN (p3 + 3))), vI (I33 0 (ixN (p3 + 4)))] (mm I33 D) (fun x34 I34 => brP (x33 = x34)
 (Wp GG (d + 1) 268 18 [vR (some 0), vR (some 45), vR (some 106), vI (p3 + 5)] [] (mm I34 D) Q)
 (Q (some (vI 0)) (mm I34 D)))))))))))))
 (brP (((I 0 (ixN p3)) &&& 63) = ((((((((((((((((((0 : Int32) + 1) + 1) + 1) + 1) + 1) + 1) + 1) + 1) + 1) + 1) + 1) + 1) + 1) + 1) + 1) + 1) + 1))
 (tsP (inB (p3 + 1) (pLn (mm I D) 0)) (AI d 124 [vR (some 45), vI (I 0 (ixN (p3 + 1)))] (mm I D) (fun x35 I35 D6 => tsP (inB (p3 + 1) (pLn (mm I35 D6) 0)) (CI d 244 [vR (some 106), vI (I35 0 (ixN (p3 + 1)))] (mm I35 D6) (fun x36 I36 => brP (x35 = x36)
 (Wp GG (d + 1) 268 18 [vR (some 0), vR (some 45), vR (some 106), vI (p3 + 5)] [] (mm I36 D6) Q)
 (Q (some (vI 0)) (mm I36 D6)))))))
 (brP (((I 0 (ixN p3)) &&& 63) = (((((((((((((((((((0 : Int32) + 1) + 1) + 1) + 1) + 1) + 1) + 1) + 1) + 1) + 1) + 1) + 1) + 1) + 1) + 1) + 1) + 1) + 1))
 (tsP (inB (p3 + 1) (pLn (mm I D) 0)) (tsP (inB (p3 + 2) (pLn (mm I D) 0)) (tsP (inB (p3 + 3) (pLn (mm I D) 0)) (AI d 125 [vR (some 45), vI (I 0 (ixN (p3 + 1))), vI (I 0 (ixN (p3 + 2))), vI (I 0 (ixN (p3 + 3)))] (mm I D) (fun x37 I37 D7 => tsP (inB (p3 + 1) (pLn (mm I37 D7) 0)) (tsP (inB (p3 + 2) (pLn (mm I37 D7) 0)) (tsP (inB (p3 + 3) (pLn (mm I37 D7) 0)) (CI d 245 [vR (some 106), vI (I37 0 (ixN (p3 + 1))), vI (I37 0 (ixN (p3 + 2))), vI (I37 0 (ixN (p3 + 3)))] (mm I37 D7) (fun x38 I38 => brP (x37 = x38)
 (Wp GG (d + 1) 268 18 [vR (some 0), vR (some 45), vR (some 106), vI (p3 + 5)] [] (mm I38 D7) Q)
 (Q (some (vI 0)) (mm I38 D7)))))))))))
 (brP (((I 0 (ixN p3)) &&& 63) = ((((((((((((((((((((0 : Int32) + 1) + 1) + 1) + 1) + 1) + 1) + 1) + 1) + 1) + 1) + 1) + 1) + 1) + 1) + 1) + 1) + 1) + 1) + 1))
 (tsP (inB (p3 + 1) (pLn (mm I D) 0)) (tsP (inB (p3 + 2) (pLn (mm I D) 0)) (tsP (inB (p3 + 3) (pLn (mm I D) 0)) (CI d 131 [vR (some 45), vI (I 0 (ixN (p3 + 1))), vI (I 0 (ixN (p3 + 2))), vI (I 0 (ixN (p3 + 3)))] (mm I D) (fun x39 I39 => tsP (inB (p3 + 1) (pLn (mm I39 D) 0)) (tsP (inB (p3 + 2) (pLn (mm I39 D) 0)) (tsP (inB (p3 + 3) (pLn (mm I39 D) 0)) (CI d 248 [vR (some 106), vI (I39 0 (ixN (p3 + 1))), vI (I39 0 (ixN (p3 + 2))), vI (I39 0 (ixN (p3 + 3)))] (mm I39 D) (fun x40 I40 => brP (x39 = x40)
 (Wp GG (d + 1) 268 18 [vR (some 0), vR (some 45), vR (some 106), vI (p3 + 5)] [] (mm I40 D) Q)
 (Q (some (vI 0)) (mm I40 D)))))))))))
 (brP (((I 0 (ixN p3)) &&& 63) = (((((((((((((((((((((0 : Int32) + 1) + 1) + 1) + 1) + 1) + 1) + 1) + 1) + 1) + 1) + 1) + 1) + 1) + 1) + 1) + 1) + 1) + 1) + 1) + 1))
 (tsP (inB (p3 + 1) (pLn (mm I D) 0)) (AI d 132 [vR (some 45), vI (I 0 (ixN (p3 + 1)))] (mm I D) (fun x41 I41 D8 => tsP (inB (p3 + 1) (pLn (mm I41 D8) 0)) (CI d 249 [vR (some 106), vI (I41 0 (ixN (p3 + 1)))] (mm I41 D8) (fun x42 I42 => brP (x41 = x42)
 (Wp GG (d + 1) 268 18 [vR (some 0), vR (some 45), vR (some 106), vI (p3 + 5)] [] (mm I42 D8) Q)
 (Q (some (vI 0)) (mm I42 D8)))))))
 (brP (((I 0 (ixN p3)) &&& 63) = ((((((((((((((((((((((0 : Int32) + 1) + 1) + 1) + 1) + 1) + 1) + 1) + 1) + 1) + 1) + 1) + 1) + 1) + 1) + 1) + 1) + 1) + 1) + 1) + 1) + 1))
 (tsP (inB (p3 + 1) (pLn (mm I D) 0)) (tsP (inB (p3 + 2) (pLn (mm I D) 0)) (CI d 135 [vR (some 45), vI (I 0 (ixN (p3 + 1))), vI (I 0 (ixN (p3 + 2)))] (mm I D) (fun x43 I43 => tsP (inB (p3 + 1) (pLn (mm I43 D) 0)) (tsP (inB (p3 + 2) (pLn (mm I43 D) 0)) (CI d 252 [vR (some 106), vI (I43 0 (ixN (p3 + 1))), vI (I43 0 (ixN (p3 + 2)))] (mm I43 D) (fun x44 I44 => brP (x43 = x44)
 (Wp GG (d + 1) 268 18 [vR (some 0), vR (some 45), vR (some 106), vI (p3 + 5)] [] (mm I44 D) Q)
 (Q (some (vI 0)) (mm I44 D)))))))))
 (brP (((I 0 (ixN p3)) &&& 63) = (((((((((((((((((((((((0 : Int32) + 1) + 1) + 1) + 1) + 1) + 1) + 1) + 1) + 1) + 1) + 1) + 1) + 1) + 1) + 1) + 1) + 1) + 1) + 1) + 1) + 1) + 1))
 (tsP (inB (p3 + 1) (pLn (mm I D) 0)) (tsP (inB (p3 + 2) (pLn (mm I D) 0)) (CI d 140 [vR (some 45), vI (I 0 (ixN (p3 + 1))), vI (I 0 (ixN (p3 + 2)))] (mm I D) (fun x45 I45 => tsP (inB (p3 + 1) (pLn (mm I45 D) 0)) (tsP (inB (p3 + 2) (pLn (mm I45 D) 0)) (CI d 254 [vR (some 106), vI (I45 0 (ixN (p3 + 1))), vI (I45 0 (ixN (p3 + 2)))] (mm I45 D) (fun x46 I46 => brP (x45 = x46)
 (Wp GG (d + 1) 268 18 [vR (some 0), vR (some 45), vR (some 106), vI (p3 + 5)] [] (mm I46 D) Q)
 (Q (some (vI 0)) (mm I46 D)))))))))
 (brP (((I 0 (ixN p3)) &&& 63) = ((((((((((((((((((((((((0 : Int32) + 1) + 1) + 1) + 1) + 1) + 1) + 1) + 1) + 1) + 1) + 1) + 1) + 1) + 1) + 1) + 1) + 1) + 1) + 1) + 1) + 1) + 1) + 1))
 (tsP (inB (p3 + 1) (pLn (mm I D) 0)) (tsP (inB (p3 + 2) (pLn (mm I D) 0)) (CI d 141 [vR (some 45), vI (I 0 (ixN (p3 + 1))), vI (I 0 (ixN (p3 + 2)))] (mm I D) (fun x47 I47 => tsP (inB (p3 + 1) (pLn (mm I47 D) 0)) (tsP (inB (p3 + 2) (pLn (mm I47 D) 0)) (CI d 255 [vR (some 106), vI (I47 0 (ixN (p3 + 1))), vI (I47 0 (ixN (p3 + 2)))] (mm I47 D) (fun x48 I48 => brP (x47 = x48)
 (Wp GG (d + 1) 268 18 [vR (some 0), vR (some 45), vR (some 106), vI (p3 + 5)] [] (mm I48 D) Q)
 (Q (some (vI 0)) (mm I48 D)))))))))
 (brP (((I 0 (ixN p3)) &&& 63) = (((((((((((((((((((((((((0 : Int32) + 1) + 1) + 1) + 1) + 1) + 1) + 1) + 1) + 1) + 1) + 1) + 1) + 1) + 1) + 1) + 1) + 1) + 1) + 1) + 1) + 1) + 1) + 1) + 1))
 (CI d 142 [vR (some 45)] (mm I D) (fun x49 I49 => CI d 257 [vR (some 106)] (mm I49 D) (fun x50 I50 => brP (x49 = x50)
 (Wp GG (d + 1) 268 18 [vR (some 0), vR (some 45), vR (some 106), vI (p3 + 5)] [] (mm I50 D) Q)
 (Q (some (vI 0)) (mm I50 D)))))
 (brP (((I 0 (ixN p3)) &&& 63) = ((((((((((((((((((((((((((0 : Int32) + 1) + 1) + 1) + 1) + 1) + 1) + 1) + 1) + 1) + 1) + 1) + 1) + 1) + 1) + 1) + 1) + 1) + 1) + 1) + 1) + 1) + 1) + 1) + 1) + 1))
 (tsP (inB (p3 + 1) (pLn (mm I D) 0)) (tsP (inB (p3 + 2) (pLn (mm I D) 0)) (AI d 143 [vR (some 45), vI (I 0 (ixN (p3 + 1))), vI (I 0 (ixN (p3 + 2)))] (mm I D) (fun x51 I51 D9 => tsP (inB (p3 + 1) (pLn (mm I51 D9) 0)) (tsP (inB (p3 + 2) (pLn (mm I51 D9) 0)) (CI d 258 [vR (some 106), vI (I51 0 (ixN (p3 + 1))), vI (I51 0 (ixN (p3 + 2)))] (mm I51 D9) (fun x52 I52 => brP (x51 = x52)
 (Wp GG (d + 1) 268 18 [vR (some 0), vR (some 45), vR (some 106), vI (p3 + 5)] [] (mm I52 D9) Q)
 (Q (some (vI 0)) (mm I52 D9)))))))))
 (brP (((I 0 (ixN p3)) &&& 63) = (((((((((((((((((((((((((((0 : Int32) + 1) + 1) + 1) + 1) + 1) + 1) + 1) + 1) + 1) + 1) + 1) + 1) + 1) + 1) + 1) + 1) + 1) + 1) + 1) + 1) + 1) + 1) + 1) + 1) + 1) + 1))
 (tsP (inB (p3 + 1) (pLn (mm I D) 0)) (tsP (inB (p3 + 2) (pLn (mm I D) 0)) (AI d 146 [vR (some 45), vI (I 0 (ixN (p3 + 1))), vI (I 0 (ixN (p3 + 2)))] (mm I D) (fun x53 I53 D10 => tsP (inB (p3 + 1) (pLn (mm I53 D10) 0)) (tsP (inB (p3 + 2) (pLn (mm I53 D10) 0)) (CI d 260 [vR (some 106), vI (I53 0 (ixN (p3 + 1))), vI (I53 0 (ixN (p3 + 2)))] (mm I53 D10) (fun x54 I54 => brP (x53 = x54)
 (Wp GG (d + 1) 268 18 [vR (some 0), vR (some 45), vR (some 106), vI (p3 + 5)] [] (mm I54 D10) Q)
 (Q (some (vI 0)) (mm I54 D10)))))))))
 (brP (((I 0 (ixN p3)) &&& 63) = ((((((((((((((((((((((((((((0 : Int32) + 1) + 1) + 1) + 1) + 1) + 1) + 1) + 1) + 1) + 1) + 1) + 1) + 1) + 1) + 1) + 1) + 1) + 1) + 1) + 1) + 1) + 1) + 1) + 1) + 1) + 1) + 1))
 (tsP (inB (p3 + 1) (pLn (mm I D) 0)) (tsP (inB (p3 + 2) (pLn (mm I D) 0)) (AL d 149 [vR (some 45), vI (I 0 (ixN (p3 + 1))), vI (I 0 (ixN (p3 + 2)))] (mm I D) (fun x55 I55 D11 => tsP (inB (p3 + 1) (pLn (mm I55 D11) 0)) (tsP (inB (p3 + 2) (pLn (mm I55 D11) 0)) (CL d 221 [vR (some 106), vI (I55 0 (ixN (p3 + 1))), vI (I55 0 (ixN (p3 + 2)))] (mm I55 D11) (fun x56 I56 => brP ((lcmpV x55 x56) = 0)
 (Wp GG (d + 1) 268 18 [vR (some 0), vR (some 45), vR (some 106), vI (p3 + 5)] [] (mm I56 D11) Q)
 (Q (some (vI 0)) (mm I56 D11)))))))))
 (brP (((I 0 (ixN p3)) &&& 63) = (((((((((((((((((((((((((((((0 : Int32) + 1) + 1) + 1) + 1) + 1) + 1) + 1) + 1) + 1) + 1) + 1) + 1) + 1) + 1) + 1) + 1) + 1) + 1) + 1) + 1) + 1) + 1) + 1) + 1) + 1) + 1) + 1) + 1))
 (tsP (inB (p3 + 1) (pLn (mm I D) 0)) (tsP (inB (p3 + 2) (pLn (mm I D) 0)) (tsP (inB (p3 + 3) (pLn (mm I D) 0)) (tsP (inB (p3 + 4) (pLn (mm I D) 0)) (CI d 150 [vR (some 45), vI (I 0 (ixN (p3 + 1))), vI (I 0 (ixN (p3 + 2))), vI (I 0 (ixN (p3 + 3))), vI (I 0 (ixN (p3 + 4)))] (mm I D) (fun x57 I57 => tsP (inB (p3 + 1) (pLn (mm I57 D) 0)) (tsP (inB (p3 + 2) (pLn (mm I57 D) 0)) (tsP (inB (p3 + 3) (pLn (mm I57 D) 0)) (tsP (inB (p3 + 4) (pLn (mm I57 D) 0)) (CI d 230 [vR (some 106), vI (I57 0 (ixN (p3 + 1))), vI (I57 0 (ixN (p3 + 2))), vI (I57 0 (ixN (p3 + 3))), vI (I57 0 (ixN (p3 + 4)))] (mm I57 D) (fun x58 I58 => brP (x57 = x58)
 (Wp GG (d + 1) 268 18 [vR (some 0), vR (some 45), vR (some 106), vI (p3 + 5)] [] (mm I58 D) Q)
 (Q (some (vI 0)) (mm I58 D)))))))))))))
 (brP (((I 0 (ixN p3)) &&& 63) = ((((((((((((((((((((((((((((((0 : Int32) + 1) + 1) + 1) + 1) + 1) + 1) + 1) + 1) + 1) + 1) + 1) + 1) + 1) + 1) + 1) + 1) + 1) + 1) + 1) + 1) + 1) + 1) + 1) + 1) + 1) + 1) + 1) + 1) + 1))
 (tsP (inB (p3 + 1) (pLn (mm I D) 0)) (CL d 152 [vR (some 45), vI (I 0 (ixN (p3 + 1)))] (mm I D) (fun x59 I59 => tsP (inB (p3 + 1) (pLn (mm I59 D) 0)) (CL d 231 [vR (some 106), vI (I59 0 (ixN (p3 + 1)))] (mm I59 D) (fun x60 I60 => brP ((lcmpV x59 x60) = 0)
 (Wp GG (d + 1) 268 18 [vR (some 0), vR (some 45), vR (some 106), vI (p3 + 5)] [] (mm I60 D) Q)
 (Q (some (vI 0)) (mm I60 D)))))))
 (brP (((I 0 (ixN p3)) &&& 63) = (((((((((((((((((((((((((((((((0 : Int32) + 1) + 1) + 1) + 1) + 1) + 1) + 1) + 1) + 1) + 1) + 1) + 1) + 1) + 1) + 1) + 1) + 1) + 1) + 1) + 1) + 1) + 1) + 1) + 1) + 1) + 1) + 1) + 1) + 1) + 1))
 (AI d 153 [vR (some 45)] (mm I D) (fun x61 I61 D12 => CI d 261 [vR (some 106)] (mm I61 D12) (fun x62 I62 => brP (x61 = x62)
 (Wp GG (d + 1) 268 18 [vR (some 0), vR (some 45), vR (some 106), vI (p3 + 5)] [] (mm I62 D12) Q)
 (Q (some (vI 0)) (mm I62 D12)))))
 (brP (((I 0 (ixN p3)) &&& 63) = ((((((((((((((((((((((((((((((((0 : Int32) + 1) + 1) + 1) + 1) + 1) + 1) + 1) + 1) + 1) + 1) + 1) + 1) + 1) + 1) + 1) + 1) + 1) + 1) + 1) + 1) + 1) + 1) + 1) + 1) + 1) + 1) + 1) + 1) + 1) + 1) + 1))
 (AI d 160 [vR (some 45)] (mm I D) (fun x63 I63 D13 => CI d 265 [vR (some 106)] (mm I63 D13) (fun x64 I64 => brP (x63 = x64)
 (Wp GG (d + 1) 268 18 [vR (some 0), vR (some 45), vR (some 106), vI (p3 + 5)] [] (mm I64 D13) Q)
 (Q (some (vI 0)) (mm I64 D13)))))
 (brP (((I 0 (ixN p3)) &&& 63) = (((((((((((((((((((((((((((((((((0 : Int32) + 1) + 1) + 1) + 1) + 1) + 1) + 1) + 1) + 1) + 1) + 1) + 1) + 1) + 1) + 1) + 1) + 1) + 1) + 1) + 1) + 1) + 1) + 1) + 1) + 1) + 1) + 1) + 1) + 1) + 1) + 1) + 1))
 (tsP (inB (p3 + 1) (pLn (mm I D) 0)) (CI d 161 [vR (some 45), vI (I 0 (ixN (p3 + 1)))] (mm I D) (fun x65 I65 => tsP (inB (p3 + 1) (pLn (mm I65 D) 0)) (CI d 266 [vR (some 106), vI (I65 0 (ixN (p3 + 1)))] (mm I65 D) (fun x66 I66 => brP (x65 = x66)
 (Wp GG (d + 1) 268 18 [vR (some 0), vR (some 45), vR (some 106), vI (p3 + 5)] [] (mm I66 D) Q)
 (Q (some (vI 0)) (mm I66 D)))))))
 (brP (((I 0 (ixN p3)) &&& 63) = ((((((((((((((((((((((((((((((((((0 : Int32) + 1) + 1) + 1) + 1) + 1) + 1) + 1) + 1) + 1) + 1) + 1) + 1) + 1) + 1) + 1) + 1) + 1) + 1) + 1) + 1) + 1) + 1) + 1) + 1) + 1) + 1) + 1) + 1) + 1) + 1) + 1) + 1) + 1))
 (tsP (inB (p3 + 1) (pLn (mm I D) 0)) (CI d 162 [vR (some 45), vI (I 0 (ixN (p3 + 1)))] (mm I D) (fun x67 I67 => tsP (inB (p3 + 1) (pLn (mm I67 D) 0)) (CI d 267 [vR (some 106), vI (I67 0 (ixN (p3 + 1)))] (mm I67 D) (fun x68 I68 => brP (x67 = x68)
 (Wp GG (d + 1) 268 18 [vR (some 0), vR (some 45), vR (some 106), vI (p3 + 5)] [] (mm I68 D) Q)
 (Q (some (vI 0)) (mm I68 D)))))))
 (Wp GG (d + 1) 268 18 [vR (some 0), vR (some 45), vR (some 106), vI (p3 + 5)] [] (mm I D) Q))))))))))))))))))))))))))))))))))))) :
  Wp GG (d + 1) 268 18 [vR (some 0), vR (some 45), vR (some 106), vI p3] [] (mm I D) Q := runC_p (cut := (fun pc => [18].contains pc)) 60 h
def LWI (τ : ST) (I : IM) (D : DY) : Prop := RC τ I D ∧ RM τ I ∧ WT τ
def lawQ (zb lb : Nat) : Option PV → PM → Prop := fun v M => v = some (vI 1) ∧ pSz M ≤ zb ∧ pSl M ≤ lb
theorem law_in {j k L : Nat} (h : 5 * j + 5 ≤ L) (hL : L ≤ 2560) (hk : k < 5) : inB (z32 ((5 * j : Nat) : Int) + z32 (k : Int)) L := by
  rw [z32_add]
  unfold inB
  rw [z32_toInt (by omega) (by omega)]
  omega
set_option maxHeartbeats 4000000 in
theorem law_step {d j L : Nat} {τ : ST} {I : IM} {D : DY} {Q : Option PV → PM → Prop} (hj : 5 * j ≤ L) (hL : L ≤ 2560) (hI : LWI τ I D) (hN : dN D 0 = L) (end_ : Q (some (vI 1)) (mm I D))
    (go : 5 * j + 5 ≤ L → ∀ τ2 I2 D2, LWI τ2 I2 D2 → dN D2 0 = L → GD D D2 → Wp GG (d + 101) 268 18 [vR (some 0), vR (some 45), vR (some 106), vI (z32 ((5 * (j + 1) : Nat) : Int))] [] (mm I2 D2) Q) :
    Wp GG (d + 101) 268 18 [vR (some 0), vR (some 45), vR (some 106), vI (z32 ((5 * j : Nat) : Int))] [] (mm I D) Q := by
  obtain ⟨hC, hM, hW⟩ := hI
  have hz : 159 ≤ dZ D := hC.1
  have hw := hW.1
  have hT : (tT τ).length ≤ 160 := hM.1.2.1
  have hE : ∀ c s v, c < 4 → zE (tS τ) c = some (s, v) → s < 8 := fun c s v hc e => by
    have h := hM.2.2.1.2.2.2.2.2.2.1 c hc
    rw [e] at h
    exact h.2.2.2.1
  have hK : ∀ p x, p < 4 → zQ (tS τ) p = some x → okCm (qlK x) := fun p x hp e => by
    have h := hM.2.2.1.2.2.2.2.2.1 p hp
    rw [e] at h
    exact h.2.2.2.1
  have eL : Int32.ofNat (pLn (mm I D) 0) - 5 = z32 ((L : Int) - 5) := by
    show Int32.ofNat (dN D 0) - z32 5 = _
    rw [hN, ← z32_sub]
    rfl
  have p5 : z32 ((5 * j : Nat) : Int) + 5 = z32 ((5 * (j + 1) : Nat) : Int) := by
    show _ + z32 5 = _
    rw [z32_add]
    congr 1
  refine s_L_law_18 (d := d + 100) _ (brP_i (fun hc => end_) (fun hc => ?_))
  rw [eL, z32_lt (by omega) (by omega) (by omega) (by omega)] at hc
  have hl : 5 * j + 5 ≤ L := by omega
  have b0 : ∀ I2 D2, dN D2 0 = L → inB (z32 ((5 * j : Nat) : Int)) (pLn (mm I2 D2) 0) := fun I2 D2 e => by
    have h := law_in (k := 0) hl hL (by omega)
    rw [show z32 ((5 * j : Nat) : Int) + z32 ((0 : Nat) : Int) = z32 ((5 * j : Nat) : Int) by rw [z32_add]; congr 1] at h
    show inB _ (dN D2 0)
    rw [e]
    exact h
  have b1 : ∀ I2 D2, dN D2 0 = L → inB (z32 ((5 * j : Nat) : Int) + 1) (pLn (mm I2 D2) 0) := fun I2 D2 e => by
    show inB _ (dN D2 0)
    rw [e]
    exact law_in (k := 1) hl hL (by omega)
  have b2 : ∀ I2 D2, dN D2 0 = L → inB (z32 ((5 * j : Nat) : Int) + 2) (pLn (mm I2 D2) 0) := fun I2 D2 e => by
    show inB _ (dN D2 0)
    rw [e]
    exact law_in (k := 2) hl hL (by omega)
  have b3 : ∀ I2 D2, dN D2 0 = L → inB (z32 ((5 * j : Nat) : Int) + 3) (pLn (mm I2 D2) 0) := fun I2 D2 e => by
    show inB _ (dN D2 0)
    rw [e]
    exact law_in (k := 3) hl hL (by omega)
  have b4 : ∀ I2 D2, dN D2 0 = L → inB (z32 ((5 * j : Nat) : Int) + 4) (pLn (mm I2 D2) 0) := fun I2 D2 e => by
    show inB _ (dN D2 0)
    rw [e]
    exact law_in (k := 4) hl hL (by omega)
  generalize z32 ((5 * j : Nat) : Int) = P at b0 b1 b2 b3 b4 p5 ⊢
  have go := go hl
  rw [← p5] at go
  refine tsP_i (b0 I D hN) ?_
  refine brP_i (fun _ => ?_) (fun _ => ?_)
  · refine tsP_i (b1 I D hN) (?_)
    refine br_CI (P := fun I2 => FrM I I2 ∧ RC (S_feed τ (I 0 (ixN (P + 1)))).1 I2 D) hz (p_feed (d := d) hC _ (fun I2 a b => ⟨rfl, a, b⟩)) (fun I2 hs ⟨hm, hr⟩ => ?_)
    have hg := GD.rf (D := D)
    refine tsP_i (b1 I2 D (hs.1.trans hN)) (?_)
    simp only [hs.2]
    refine br_CI (P := fun I3 => FrC I2 I3 ∧ RM (S_feed τ (I 0 (ixN (P + 1)))).1 I3) hr.1 (q_feed (d := d) (hM.frm hm) _ (fun I3 a b => ⟨rfl, a, b⟩)) (fun I3 hs2 ⟨hf, hr2⟩ => ?_)
    refine (brP_t rfl).mpr ?_
    exact go _ I3 D ⟨hr.frc hf, hr2, w_feed hW _⟩ (hs2.1.trans (hs.1.trans hN)) hg
  refine brP_i (fun _ => ?_) (fun _ => ?_)
  · refine tsP_i (b1 I D hN) (tsP_i (b2 I D hN) (tsP_i (b3 I D hN) (?_)))
    refine br_AI (τ := (S_ask τ (I 0 (ixN (P + 1))) (I 0 (ixN (P + 2))) (I 0 (ixN (P + 3)))).1) hz (p_ask (d := d) hC hw _ _ _ (fun I2 D2 a b c => ⟨rfl, a, b, c⟩)) (fun I2 D2 hs hm hg hr => ?_)
    refine tsP_i (b1 I2 D2 (hs.1.trans hN)) (tsP_i (b2 I2 D2 (hs.1.trans hN)) (tsP_i (b3 I2 D2 (hs.1.trans hN)) (?_)))
    simp only [hs.2]
    refine br_CI (P := fun I3 => FrC I2 I3 ∧ RM (S_ask τ (I 0 (ixN (P + 1))) (I 0 (ixN (P + 2))) (I 0 (ixN (P + 3)))).1 I3) hr.1 (q_ask (d := d) (hM.frm hm) hw _ _ _ (fun I3 a b => ⟨rfl, a, b⟩)) (fun I3 hs2 ⟨hf, hr2⟩ => ?_)
    refine (brP_t rfl).mpr ?_
    exact go _ I3 D2 ⟨hr.frc hf, hr2, w_ask hW hT _ _ _⟩ (hs2.1.trans (hs.1.trans hN)) hg
  refine brP_i (fun _ => ?_) (fun _ => ?_)
  · skip
    refine br_AI (τ := (S_batch τ ).1) hz (p_batch (d := d) hC hw  (fun I2 D2 a b c => ⟨rfl, a, b, c⟩)) (fun I2 D2 hs hm hg hr => ?_)
    refine br_CI (P := fun I3 => FrC I2 I3 ∧ RM (S_batch τ ).1 I3) hr.1 (q_batch (d := d) (hM.frm hm) hw  (fun I3 a b => ⟨rfl, a, b⟩)) (fun I3 hs2 ⟨hf, hr2⟩ => ?_)
    refine (brP_t rfl).mpr ?_
    exact go _ I3 D2 ⟨hr.frc hf, hr2, w_batch hW hT ⟩ (hs2.1.trans (hs.1.trans hN)) hg
  refine brP_i (fun _ => ?_) (fun _ => ?_)
  · skip
    refine br_AI (τ := (S_upcast τ ).1) hz (p_upcast (d := d) hC hw  (fun I2 D2 a b c => ⟨rfl, a, b, c⟩)) (fun I2 D2 hs hm hg hr => ?_)
    refine br_CI (P := fun I3 => FrC I2 I3 ∧ RM (S_upcast τ ).1 I3) hr.1 (q_upcast (d := d) (hM.frm hm)  (fun I3 a b => ⟨rfl, a, b⟩)) (fun I3 hs2 ⟨hf, hr2⟩ => ?_)
    refine (brP_t rfl).mpr ?_
    exact go _ I3 D2 ⟨hr.frc hf, hr2, w_upcast hW ⟩ (hs2.1.trans (hs.1.trans hN)) hg
  refine brP_i (fun _ => ?_) (fun _ => ?_)
  · refine tsP_i (b1 I D hN) (tsP_i (b2 I D hN) (?_))
    refine br_CI (P := fun I2 => FrM I I2 ∧ RC τ I2 D) hz (p_state (d := d) hC _ _ (fun I2 a b => ⟨rfl, a, b⟩)) (fun I2 hs ⟨hm, hr⟩ => ?_)
    have hg := GD.rf (D := D)
    refine tsP_i (b1 I2 D (hs.1.trans hN)) (tsP_i (b2 I2 D (hs.1.trans hN)) (?_))
    simp only [hs.2]
    refine br_CI (P := fun I3 => FrC I2 I3 ∧ RM τ I3) hr.1 (q_state (d := d) (hM.frm hm) hw _ _ (fun I3 a b => ⟨rfl, a, b⟩)) (fun I3 hs2 ⟨hf, hr2⟩ => ?_)
    refine (brP_t rfl).mpr ?_
    exact go _ I3 D ⟨hr.frc hf, hr2, hW⟩ (hs2.1.trans (hs.1.trans hN)) hg
  refine brP_i (fun _ => ?_) (fun _ => ?_)
  · refine tsP_i (b1 I D hN) (tsP_i (b2 I D hN) (tsP_i (b3 I D hN) (?_)))
    refine br_CI (P := fun I2 => FrM I I2 ∧ RC τ I2 D) hz (p_at (d := d) hC hw _ _ _ (fun I2 a b => ⟨rfl, a, b⟩)) (fun I2 hs ⟨hm, hr⟩ => ?_)
    have hg := GD.rf (D := D)
    refine tsP_i (b1 I2 D (hs.1.trans hN)) (tsP_i (b2 I2 D (hs.1.trans hN)) (tsP_i (b3 I2 D (hs.1.trans hN)) (?_)))
    simp only [hs.2]
    refine br_CI (P := fun I3 => FrC I2 I3 ∧ RM τ I3) hr.1 (q_at (d := d) (hM.frm hm) hw _ _ _ (fun I3 a b => ⟨rfl, a, b⟩)) (fun I3 hs2 ⟨hf, hr2⟩ => ?_)
    refine (brP_t rfl).mpr ?_
    exact go _ I3 D ⟨hr.frc hf, hr2, hW⟩ (hs2.1.trans (hs.1.trans hN)) hg
  refine brP_i (fun _ => ?_) (fun _ => ?_)
  · refine tsP_i (b1 I D hN) (tsP_i (b2 I D hN) (?_))
    refine br_CI (P := fun I2 => FrM I I2 ∧ RC τ I2 D) hz (p_steps (d := d) hC _ _ (fun I2 a b => ⟨rfl, a, b⟩)) (fun I2 hs ⟨hm, hr⟩ => ?_)
    have hg := GD.rf (D := D)
    refine tsP_i (b1 I2 D (hs.1.trans hN)) (tsP_i (b2 I2 D (hs.1.trans hN)) (?_))
    simp only [hs.2]
    refine br_CI (P := fun I3 => FrC I2 I3 ∧ RM τ I3) hr.1 (q_steps (d := d) (hM.frm hm) _ _ (fun I3 a b => ⟨rfl, a, b⟩)) (fun I3 hs2 ⟨hf, hr2⟩ => ?_)
    refine (brP_t rfl).mpr ?_
    exact go _ I3 D ⟨hr.frc hf, hr2, hW⟩ (hs2.1.trans (hs.1.trans hN)) hg
  refine brP_i (fun _ => ?_) (fun _ => ?_)
  · refine tsP_i (b1 I D hN) (?_)
    refine br_CI (P := fun I2 => FrM I I2 ∧ RC (S_snap τ (I 0 (ixN (P + 1)))).1 I2 D) hz (p_snap (d := d) hC _ (fun I2 a b => ⟨rfl, a, b⟩)) (fun I2 hs ⟨hm, hr⟩ => ?_)
    have hg := GD.rf (D := D)
    refine tsP_i (b1 I2 D (hs.1.trans hN)) (?_)
    simp only [hs.2]
    refine br_CI (P := fun I3 => FrC I2 I3 ∧ RM (S_snap τ (I 0 (ixN (P + 1)))).1 I3) hr.1 (q_snap (d := d) (hM.frm hm) _ (fun I3 a b => ⟨rfl, a, b⟩)) (fun I3 hs2 ⟨hf, hr2⟩ => ?_)
    refine (brP_t rfl).mpr ?_
    exact go _ I3 D ⟨hr.frc hf, hr2, w_snap hW _⟩ (hs2.1.trans (hs.1.trans hN)) hg
  refine brP_i (fun _ => ?_) (fun _ => ?_)
  · refine tsP_i (b1 I D hN) (tsP_i (b2 I D hN) (?_))
    refine br_CI (P := fun I2 => FrM I I2 ∧ RC τ I2 D) hz (p_snaps (d := d) hC _ _ (fun I2 a b => ⟨rfl, a, b⟩)) (fun I2 hs ⟨hm, hr⟩ => ?_)
    have hg := GD.rf (D := D)
    refine tsP_i (b1 I2 D (hs.1.trans hN)) (tsP_i (b2 I2 D (hs.1.trans hN)) (?_))
    simp only [hs.2]
    refine br_CI (P := fun I3 => FrC I2 I3 ∧ RM τ I3) hr.1 (q_snaps (d := d) (hM.frm hm) _ _ (fun I3 a b => ⟨rfl, a, b⟩)) (fun I3 hs2 ⟨hf, hr2⟩ => ?_)
    refine (brP_t rfl).mpr ?_
    exact go _ I3 D ⟨hr.frc hf, hr2, hW⟩ (hs2.1.trans (hs.1.trans hN)) hg
  refine brP_i (fun _ => ?_) (fun _ => ?_)
  · refine tsP_i (b1 I D hN) (?_)
    refine br_CI (P := fun I2 => FrM I I2 ∧ RC (S_every τ (I 0 (ixN (P + 1)))).1 I2 D) hz (p_every (d := d) hC _ (fun I2 a b => ⟨rfl, a, b⟩)) (fun I2 hs ⟨hm, hr⟩ => ?_)
    have hg := GD.rf (D := D)
    refine tsP_i (b1 I2 D (hs.1.trans hN)) (?_)
    simp only [hs.2]
    refine br_CI (P := fun I3 => FrC I2 I3 ∧ RM (S_every τ (I 0 (ixN (P + 1)))).1 I3) hr.1 (q_every (d := d) (hM.frm hm) _ (fun I3 a b => ⟨rfl, a, b⟩)) (fun I3 hs2 ⟨hf, hr2⟩ => ?_)
    refine (brP_t rfl).mpr ?_
    exact go _ I3 D ⟨hr.frc hf, hr2, w_every hW _⟩ (hs2.1.trans (hs.1.trans hN)) hg
  refine brP_i (fun _ => ?_) (fun _ => ?_)
  · refine tsP_i (b1 I D hN) (tsP_i (b2 I D hN) (?_))
    refine br_CI (P := fun I2 => FrM I I2 ∧ RC τ I2 D) hz (p_event (d := d) hC hw _ _ (fun I2 a b => ⟨rfl, a, b⟩)) (fun I2 hs ⟨hm, hr⟩ => ?_)
    have hg := GD.rf (D := D)
    refine tsP_i (b1 I2 D (hs.1.trans hN)) (tsP_i (b2 I2 D (hs.1.trans hN)) (?_))
    simp only [hs.2]
    refine br_CI (P := fun I3 => FrC I2 I3 ∧ RM τ I3) hr.1 (q_event (d := d) (hM.frm hm) hw _ _ (fun I3 a b => ⟨rfl, a, b⟩)) (fun I3 hs2 ⟨hf, hr2⟩ => ?_)
    refine (brP_t rfl).mpr ?_
    exact go _ I3 D ⟨hr.frc hf, hr2, hW⟩ (hs2.1.trans (hs.1.trans hN)) hg
  refine brP_i (fun _ => ?_) (fun _ => ?_)
  · refine tsP_i (b1 I D hN) (tsP_i (b2 I D hN) (?_))
    refine br_CI (P := fun I2 => FrM I I2 ∧ RC τ I2 D) hz (p_text (d := d) hC hw _ _ (fun I2 a b => ⟨rfl, a, b⟩)) (fun I2 hs ⟨hm, hr⟩ => ?_)
    have hg := GD.rf (D := D)
    refine tsP_i (b1 I2 D (hs.1.trans hN)) (tsP_i (b2 I2 D (hs.1.trans hN)) (?_))
    simp only [hs.2]
    refine br_CI (P := fun I3 => FrC I2 I3 ∧ RM τ I3) hr.1 (q_text (d := d) (hM.frm hm) hw _ _ (fun I3 a b => ⟨rfl, a, b⟩)) (fun I3 hs2 ⟨hf, hr2⟩ => ?_)
    refine (brP_t rfl).mpr ?_
    exact go _ I3 D ⟨hr.frc hf, hr2, hW⟩ (hs2.1.trans (hs.1.trans hN)) hg
  refine brP_i (fun _ => ?_) (fun _ => ?_)
  · refine tsP_i (b1 I D hN) (tsP_i (b2 I D hN) (?_))
    refine br_CI (P := fun I2 => FrM I I2 ∧ RC τ I2 D) hz (p_find (d := d) hC hw _ _ (fun I2 a b => ⟨rfl, a, b⟩)) (fun I2 hs ⟨hm, hr⟩ => ?_)
    have hg := GD.rf (D := D)
    refine tsP_i (b1 I2 D (hs.1.trans hN)) (tsP_i (b2 I2 D (hs.1.trans hN)) (?_))
    simp only [hs.2]
    refine br_CI (P := fun I3 => FrC I2 I3 ∧ RM τ I3) hr.1 (q_find (d := d) (hM.frm hm) hw _ _ (fun I3 a b => ⟨rfl, a, b⟩)) (fun I3 hs2 ⟨hf, hr2⟩ => ?_)
    refine (brP_t rfl).mpr ?_
    exact go _ I3 D ⟨hr.frc hf, hr2, hW⟩ (hs2.1.trans (hs.1.trans hN)) hg
  refine brP_i (fun _ => ?_) (fun _ => ?_)
  · refine tsP_i (b1 I D hN) (?_)
    refine br_CL (P := fun I2 => FrM I I2 ∧ RC τ I2 D) hz (p_worth (d := d) hC hw _ (fun I2 a b => ⟨rfl, a, b⟩)) (fun I2 hs ⟨hm, hr⟩ => ?_)
    have hg := GD.rf (D := D)
    refine tsP_i (b1 I2 D (hs.1.trans hN)) (?_)
    simp only [hs.2]
    refine br_CL (P := fun I3 => FrC I2 I3 ∧ RM τ I3) hr.1 (q_worth (d := d) (hM.frm hm) hw _ (fun I3 a b => ⟨rfl, a, b⟩)) (fun I3 hs2 ⟨hf, hr2⟩ => ?_)
    refine (brP_t (lcmp_rf _)).mpr ?_
    exact go _ I3 D ⟨hr.frc hf, hr2, hW⟩ (hs2.1.trans (hs.1.trans hN)) hg
  refine brP_i (fun _ => ?_) (fun _ => ?_)
  · refine tsP_i (b1 I D hN) (?_)
    refine br_AI (τ := (S_project τ (I 0 (ixN (P + 1)))).1) hz (p_project (d := d) hC _ (fun I2 D2 a b c => ⟨rfl, a, b, c⟩)) (fun I2 D2 hs hm hg hr => ?_)
    refine tsP_i (b1 I2 D2 (hs.1.trans hN)) (?_)
    simp only [hs.2]
    refine br_CI (P := fun I3 => FrC I2 I3 ∧ RM (S_project τ (I 0 (ixN (P + 1)))).1 I3) hr.1 (q_project (d := d) (hM.frm hm) _ (fun I3 a b => ⟨rfl, a, b⟩)) (fun I3 hs2 ⟨hf, hr2⟩ => ?_)
    refine (brP_t rfl).mpr ?_
    exact go _ I3 D2 ⟨hr.frc hf, hr2, w_project hW _⟩ (hs2.1.trans (hs.1.trans hN)) hg
  refine brP_i (fun _ => ?_) (fun _ => ?_)
  · refine tsP_i (b1 I D hN) (?_)
    refine br_AI (τ := (S_rebuild τ (I 0 (ixN (P + 1)))).1) hz (p_rebuild (d := d) hC _ (fun I2 D2 a b c => ⟨rfl, a, b, c⟩)) (fun I2 D2 hs hm hg hr => ?_)
    refine tsP_i (b1 I2 D2 (hs.1.trans hN)) (?_)
    simp only [hs.2]
    refine br_CI (P := fun I3 => FrC I2 I3 ∧ RM (S_rebuild τ (I 0 (ixN (P + 1)))).1 I3) hr.1 (q_rebuild (d := d) (hM.frm hm) _ (fun I3 a b => ⟨rfl, a, b⟩)) (fun I3 hs2 ⟨hf, hr2⟩ => ?_)
    refine (brP_t rfl).mpr ?_
    exact go _ I3 D2 ⟨hr.frc hf, hr2, w_rebuild hW _⟩ (hs2.1.trans (hs.1.trans hN)) hg
  refine brP_i (fun _ => ?_) (fun _ => ?_)
  · refine tsP_i (b1 I D hN) (tsP_i (b2 I D hN) (tsP_i (b3 I D hN) (tsP_i (b4 I D hN) (?_))))
    refine br_CI (P := fun I2 => FrM I I2 ∧ RC (S_deliver τ (I 0 (ixN (P + 1))) (I 0 (ixN (P + 2))) (I 0 (ixN (P + 3))) (I 0 (ixN (P + 4)))).1 I2 D) hz (p_deliver (d := d) hC hw _ _ _ _ (fun I2 a b => ⟨rfl, a, b⟩)) (fun I2 hs ⟨hm, hr⟩ => ?_)
    have hg := GD.rf (D := D)
    refine tsP_i (b1 I2 D (hs.1.trans hN)) (tsP_i (b2 I2 D (hs.1.trans hN)) (tsP_i (b3 I2 D (hs.1.trans hN)) (tsP_i (b4 I2 D (hs.1.trans hN)) (?_))))
    simp only [hs.2]
    refine br_CI (P := fun I3 => FrC I2 I3 ∧ RM (S_deliver τ (I 0 (ixN (P + 1))) (I 0 (ixN (P + 2))) (I 0 (ixN (P + 3))) (I 0 (ixN (P + 4)))).1 I3) hr.1 (q_deliver (d := d) (hM.frm hm) hw _ _ _ _ (fun I3 a b => ⟨rfl, a, b⟩)) (fun I3 hs2 ⟨hf, hr2⟩ => ?_)
    refine (brP_t rfl).mpr ?_
    exact go _ I3 D ⟨hr.frc hf, hr2, w_deliver hW _ _ _ _⟩ (hs2.1.trans (hs.1.trans hN)) hg
  refine brP_i (fun _ => ?_) (fun _ => ?_)
  · refine tsP_i (b1 I D hN) (?_)
    refine br_AI (τ := (S_swap τ (I 0 (ixN (P + 1)))).1) hz (p_swap (d := d) hC _ (fun I2 D2 a b c => ⟨rfl, a, b, c⟩)) (fun I2 D2 hs hm hg hr => ?_)
    refine tsP_i (b1 I2 D2 (hs.1.trans hN)) (?_)
    simp only [hs.2]
    refine br_CI (P := fun I3 => FrC I2 I3 ∧ RM (S_swap τ (I 0 (ixN (P + 1)))).1 I3) hr.1 (q_swap (d := d) (hM.frm hm) _ (fun I3 a b => ⟨rfl, a, b⟩)) (fun I3 hs2 ⟨hf, hr2⟩ => ?_)
    refine (brP_t rfl).mpr ?_
    exact go _ I3 D2 ⟨hr.frc hf, hr2, w_swap hW _⟩ (hs2.1.trans (hs.1.trans hN)) hg
  refine brP_i (fun _ => ?_) (fun _ => ?_)
  · refine tsP_i (b1 I D hN) (tsP_i (b2 I D hN) (tsP_i (b3 I D hN) (?_)))
    refine br_AI (τ := τ) hz (p_look (d := d) hC hw _ _ _ (fun I2 D2 a b c => ⟨rfl, a, b, c⟩)) (fun I2 D2 hs hm hg hr => ?_)
    refine tsP_i (b1 I2 D2 (hs.1.trans hN)) (tsP_i (b2 I2 D2 (hs.1.trans hN)) (tsP_i (b3 I2 D2 (hs.1.trans hN)) (?_)))
    simp only [hs.2]
    refine br_CI (P := fun I3 => FrC I2 I3 ∧ RM τ I3) hr.1 (q_look (d := d) (hM.frm hm) hw _ _ _ (fun I3 a b => ⟨rfl, a, b⟩)) (fun I3 hs2 ⟨hf, hr2⟩ => ?_)
    refine (brP_t rfl).mpr ?_
    exact go _ I3 D2 ⟨hr.frc hf, hr2, hW⟩ (hs2.1.trans (hs.1.trans hN)) hg
  refine brP_i (fun _ => ?_) (fun _ => ?_)
  · refine tsP_i (b1 I D hN) (tsP_i (b2 I D hN) (tsP_i (b3 I D hN) (?_)))
    refine br_CI (P := fun I2 => FrM I I2 ∧ RC τ I2 D) hz (p_row (d := d) hC _ _ _ (fun I2 a b => ⟨rfl, a, b⟩)) (fun I2 hs ⟨hm, hr⟩ => ?_)
    have hg := GD.rf (D := D)
    refine tsP_i (b1 I2 D (hs.1.trans hN)) (tsP_i (b2 I2 D (hs.1.trans hN)) (tsP_i (b3 I2 D (hs.1.trans hN)) (?_)))
    simp only [hs.2]
    refine br_CI (P := fun I3 => FrC I2 I3 ∧ RM τ I3) hr.1 (q_row (d := d) (hM.frm hm) _ _ _ (fun I3 a b => ⟨rfl, a, b⟩)) (fun I3 hs2 ⟨hf, hr2⟩ => ?_)
    refine (brP_t rfl).mpr ?_
    exact go _ I3 D ⟨hr.frc hf, hr2, hW⟩ (hs2.1.trans (hs.1.trans hN)) hg
  refine brP_i (fun _ => ?_) (fun _ => ?_)
  · refine tsP_i (b1 I D hN) (?_)
    refine br_AI (τ := (S_policy τ (I 0 (ixN (P + 1)))).1) hz (p_policy (d := d) hC _ (fun I2 D2 a b c => ⟨rfl, a, b, c⟩)) (fun I2 D2 hs hm hg hr => ?_)
    refine tsP_i (b1 I2 D2 (hs.1.trans hN)) (?_)
    simp only [hs.2]
    refine br_CI (P := fun I3 => FrC I2 I3 ∧ RM (S_policy τ (I 0 (ixN (P + 1)))).1 I3) hr.1 (q_policy (d := d) (hM.frm hm) _ (fun I3 a b => ⟨rfl, a, b⟩)) (fun I3 hs2 ⟨hf, hr2⟩ => ?_)
    refine (brP_t rfl).mpr ?_
    exact go _ I3 D2 ⟨hr.frc hf, hr2, w_policy hW _⟩ (hs2.1.trans (hs.1.trans hN)) hg
  refine brP_i (fun _ => ?_) (fun _ => ?_)
  · refine tsP_i (b1 I D hN) (tsP_i (b2 I D hN) (?_))
    refine br_CI (P := fun I2 => FrM I I2 ∧ RC (S_run τ (I 0 (ixN (P + 1))) (I 0 (ixN (P + 2)))).1 I2 D) hz (p_run (d := d) hC hw _ _ (fun I2 a b => ⟨rfl, a, b⟩)) (fun I2 hs ⟨hm, hr⟩ => ?_)
    have hg := GD.rf (D := D)
    refine tsP_i (b1 I2 D (hs.1.trans hN)) (tsP_i (b2 I2 D (hs.1.trans hN)) (?_))
    simp only [hs.2]
    refine br_CI (P := fun I3 => FrC I2 I3 ∧ RM (S_run τ (I 0 (ixN (P + 1))) (I 0 (ixN (P + 2)))).1 I3) hr.1 (q_run (d := d) (hM.frm hm) hw _ _ (fun I3 a b => ⟨rfl, a, b⟩)) (fun I3 hs2 ⟨hf, hr2⟩ => ?_)
    refine (brP_t rfl).mpr ?_
    exact go _ I3 D ⟨hr.frc hf, hr2, w_run hW hK _ _⟩ (hs2.1.trans (hs.1.trans hN)) hg
  refine brP_i (fun _ => ?_) (fun _ => ?_)
  · refine tsP_i (b1 I D hN) (tsP_i (b2 I D hN) (?_))
    refine br_CI (P := fun I2 => FrM I I2 ∧ RC τ I2 D) hz (p_policyOf (d := d) hC _ _ (fun I2 a b => ⟨rfl, a, b⟩)) (fun I2 hs ⟨hm, hr⟩ => ?_)
    have hg := GD.rf (D := D)
    refine tsP_i (b1 I2 D (hs.1.trans hN)) (tsP_i (b2 I2 D (hs.1.trans hN)) (?_))
    simp only [hs.2]
    refine br_CI (P := fun I3 => FrC I2 I3 ∧ RM τ I3) hr.1 (q_policyOf (d := d) (hM.frm hm) _ _ (fun I3 a b => ⟨rfl, a, b⟩)) (fun I3 hs2 ⟨hf, hr2⟩ => ?_)
    refine (brP_t rfl).mpr ?_
    exact go _ I3 D ⟨hr.frc hf, hr2, hW⟩ (hs2.1.trans (hs.1.trans hN)) hg
  refine brP_i (fun _ => ?_) (fun _ => ?_)
  · refine tsP_i (b1 I D hN) (tsP_i (b2 I D hN) (?_))
    refine br_CI (P := fun I2 => FrM I I2 ∧ RC (S_see τ (I 0 (ixN (P + 1))) (I 0 (ixN (P + 2)))).1 I2 D) hz (p_see (d := d) hC _ _ (fun I2 a b => ⟨rfl, a, b⟩)) (fun I2 hs ⟨hm, hr⟩ => ?_)
    have hg := GD.rf (D := D)
    refine tsP_i (b1 I2 D (hs.1.trans hN)) (tsP_i (b2 I2 D (hs.1.trans hN)) (?_))
    simp only [hs.2]
    refine br_CI (P := fun I3 => FrC I2 I3 ∧ RM (S_see τ (I 0 (ixN (P + 1))) (I 0 (ixN (P + 2)))).1 I3) hr.1 (q_see (d := d) (hM.frm hm) _ _ (fun I3 a b => ⟨rfl, a, b⟩)) (fun I3 hs2 ⟨hf, hr2⟩ => ?_)
    refine (brP_t rfl).mpr ?_
    exact go _ I3 D ⟨hr.frc hf, hr2, w_see hW _ _⟩ (hs2.1.trans (hs.1.trans hN)) hg
  refine brP_i (fun _ => ?_) (fun _ => ?_)
  · skip
    refine br_CI (P := fun I2 => FrM I I2 ∧ RC (S_harmless τ ).1 I2 D) hz (p_harmless (d := d) hC  (fun I2 a b => ⟨rfl, a, b⟩)) (fun I2 hs ⟨hm, hr⟩ => ?_)
    have hg := GD.rf (D := D)
    refine br_CI (P := fun I3 => FrC I2 I3 ∧ RM (S_harmless τ ).1 I3) hr.1 (q_harmless (d := d) (hM.frm hm)  (fun I3 a b => ⟨rfl, a, b⟩)) (fun I3 hs2 ⟨hf, hr2⟩ => ?_)
    refine (brP_t rfl).mpr ?_
    exact go _ I3 D ⟨hr.frc hf, hr2, w_harmless hW ⟩ (hs2.1.trans (hs.1.trans hN)) hg
  refine brP_i (fun _ => ?_) (fun _ => ?_)
  · refine tsP_i (b1 I D hN) (tsP_i (b2 I D hN) (?_))
    refine br_AI (τ := (S_attempt τ (I 0 (ixN (P + 1))) (I 0 (ixN (P + 2)))).1) hz (p_attempt (d := d) hC hw _ _ (fun I2 D2 a b c => ⟨rfl, a, b, c⟩)) (fun I2 D2 hs hm hg hr => ?_)
    refine tsP_i (b1 I2 D2 (hs.1.trans hN)) (tsP_i (b2 I2 D2 (hs.1.trans hN)) (?_))
    simp only [hs.2]
    refine br_CI (P := fun I3 => FrC I2 I3 ∧ RM (S_attempt τ (I 0 (ixN (P + 1))) (I 0 (ixN (P + 2)))).1 I3) hr.1 (q_attempt (d := d) (hM.frm hm) hw _ _ (fun I3 a b => ⟨rfl, a, b⟩)) (fun I3 hs2 ⟨hf, hr2⟩ => ?_)
    refine (brP_t rfl).mpr ?_
    exact go _ I3 D2 ⟨hr.frc hf, hr2, w_attempt hW hT hE _ _⟩ (hs2.1.trans (hs.1.trans hN)) hg
  refine brP_i (fun _ => ?_) (fun _ => ?_)
  · refine tsP_i (b1 I D hN) (tsP_i (b2 I D hN) (?_))
    refine br_AI (τ := (S_watch τ (I 0 (ixN (P + 1))) (I 0 (ixN (P + 2)))).1) hz (p_watch (d := d) hC hw _ _ (fun I2 D2 a b c => ⟨rfl, a, b, c⟩)) (fun I2 D2 hs hm hg hr => ?_)
    refine tsP_i (b1 I2 D2 (hs.1.trans hN)) (tsP_i (b2 I2 D2 (hs.1.trans hN)) (?_))
    simp only [hs.2]
    refine br_CI (P := fun I3 => FrC I2 I3 ∧ RM (S_watch τ (I 0 (ixN (P + 1))) (I 0 (ixN (P + 2)))).1 I3) hr.1 (q_watch (d := d) (hM.frm hm) hw _ _ (fun I3 a b => ⟨rfl, a, b⟩)) (fun I3 hs2 ⟨hf, hr2⟩ => ?_)
    refine (brP_t rfl).mpr ?_
    exact go _ I3 D2 ⟨hr.frc hf, hr2, w_watch hW _ _⟩ (hs2.1.trans (hs.1.trans hN)) hg
  refine brP_i (fun _ => ?_) (fun _ => ?_)
  · refine tsP_i (b1 I D hN) (tsP_i (b2 I D hN) (?_))
    refine br_AL (τ := (S_foresee τ (I 0 (ixN (P + 1))) (I 0 (ixN (P + 2)))).1) hz (p_foresee (d := d) hC _ _ (fun I2 D2 a b c => ⟨rfl, a, b, c⟩)) (fun I2 D2 hs hm hg hr => ?_)
    refine tsP_i (b1 I2 D2 (hs.1.trans hN)) (tsP_i (b2 I2 D2 (hs.1.trans hN)) (?_))
    simp only [hs.2]
    refine br_CL (P := fun I3 => FrC I2 I3 ∧ RM (S_foresee τ (I 0 (ixN (P + 1))) (I 0 (ixN (P + 2)))).1 I3) hr.1 (q_foresee (d := d) (hM.frm hm) hw _ _ (fun I3 a b => ⟨rfl, a, b⟩)) (fun I3 hs2 ⟨hf, hr2⟩ => ?_)
    refine (brP_t (lcmp_rf _)).mpr ?_
    exact go _ I3 D2 ⟨hr.frc hf, hr2, w_foresee hW _ _⟩ (hs2.1.trans (hs.1.trans hN)) hg
  refine brP_i (fun _ => ?_) (fun _ => ?_)
  · refine tsP_i (b1 I D hN) (tsP_i (b2 I D hN) (tsP_i (b3 I D hN) (tsP_i (b4 I D hN) (?_))))
    refine br_CI (P := fun I2 => FrM I I2 ∧ RC τ I2 D) hz (p_tally (d := d) hC hw _ _ _ _ (fun I2 a b => ⟨rfl, a, b⟩)) (fun I2 hs ⟨hm, hr⟩ => ?_)
    have hg := GD.rf (D := D)
    refine tsP_i (b1 I2 D (hs.1.trans hN)) (tsP_i (b2 I2 D (hs.1.trans hN)) (tsP_i (b3 I2 D (hs.1.trans hN)) (tsP_i (b4 I2 D (hs.1.trans hN)) (?_))))
    simp only [hs.2]
    refine br_CI (P := fun I3 => FrC I2 I3 ∧ RM τ I3) hr.1 (q_tally (d := d) (hM.frm hm) hw _ _ _ _ (fun I3 a b => ⟨rfl, a, b⟩)) (fun I3 hs2 ⟨hf, hr2⟩ => ?_)
    refine (brP_t rfl).mpr ?_
    exact go _ I3 D ⟨hr.frc hf, hr2, hW⟩ (hs2.1.trans (hs.1.trans hN)) hg
  refine brP_i (fun _ => ?_) (fun _ => ?_)
  · refine tsP_i (b1 I D hN) (?_)
    refine br_CL (P := fun I2 => FrM I I2 ∧ RC τ I2 D) hz (p_digest (d := d) hC hw _ (fun I2 a b => ⟨rfl, a, b⟩)) (fun I2 hs ⟨hm, hr⟩ => ?_)
    have hg := GD.rf (D := D)
    refine tsP_i (b1 I2 D (hs.1.trans hN)) (?_)
    simp only [hs.2]
    refine br_CL (P := fun I3 => FrC I2 I3 ∧ RM τ I3) hr.1 (q_digest (d := d) (hM.frm hm) hw _ (fun I3 a b => ⟨rfl, a, b⟩)) (fun I3 hs2 ⟨hf, hr2⟩ => ?_)
    refine (brP_t (lcmp_rf _)).mpr ?_
    exact go _ I3 D ⟨hr.frc hf, hr2, hW⟩ (hs2.1.trans (hs.1.trans hN)) hg
  refine brP_i (fun _ => ?_) (fun _ => ?_)
  · skip
    refine br_AI (τ := (S_image τ ).1) hz (p_image (d := d) hC  (fun I2 D2 a b c => ⟨rfl, a, b, c⟩)) (fun I2 D2 hs hm hg hr => ?_)
    refine br_CI (P := fun I3 => FrC I2 I3 ∧ RM (S_image τ ).1 I3) hr.1 (q_image (d := d) (hM.frm hm)  (fun I3 a b => ⟨rfl, a, b⟩)) (fun I3 hs2 ⟨hf, hr2⟩ => ?_)
    refine (brP_t rfl).mpr ?_
    exact go _ I3 D2 ⟨hr.frc hf, hr2, w_image hW ⟩ (hs2.1.trans (hs.1.trans hN)) hg
  refine brP_i (fun _ => ?_) (fun _ => ?_)
  · skip
    refine br_AI (τ := (S_back τ ).1) hz (p_back (d := d) hC  (fun I2 D2 a b c => ⟨rfl, a, b, c⟩)) (fun I2 D2 hs hm hg hr => ?_)
    refine br_CI (P := fun I3 => FrC I2 I3 ∧ RM (S_back τ ).1 I3) hr.1 (q_back (d := d) (hM.frm hm)  (fun I3 a b => ⟨rfl, a, b⟩)) (fun I3 hs2 ⟨hf, hr2⟩ => ?_)
    refine (brP_t rfl).mpr ?_
    exact go _ I3 D2 ⟨hr.frc hf, hr2, w_back hW ⟩ (hs2.1.trans (hs.1.trans hN)) hg
  refine brP_i (fun _ => ?_) (fun _ => ?_)
  · refine tsP_i (b1 I D hN) (?_)
    refine br_CI (P := fun I2 => FrM I I2 ∧ RC τ I2 D) hz (p_led (d := d) hC _ (fun I2 a b => ⟨rfl, a, b⟩)) (fun I2 hs ⟨hm, hr⟩ => ?_)
    have hg := GD.rf (D := D)
    refine tsP_i (b1 I2 D (hs.1.trans hN)) (?_)
    simp only [hs.2]
    refine br_CI (P := fun I3 => FrC I2 I3 ∧ RM τ I3) hr.1 (q_led (d := d) (hM.frm hm) _ (fun I3 a b => ⟨rfl, a, b⟩)) (fun I3 hs2 ⟨hf, hr2⟩ => ?_)
    refine (brP_t rfl).mpr ?_
    exact go _ I3 D ⟨hr.frc hf, hr2, hW⟩ (hs2.1.trans (hs.1.trans hN)) hg
  refine brP_i (fun _ => ?_) (fun _ => ?_)
  · refine tsP_i (b1 I D hN) (?_)
    refine br_CI (P := fun I2 => FrM I I2 ∧ RC τ I2 D) hz (p_count (d := d) hC _ (fun I2 a b => ⟨rfl, a, b⟩)) (fun I2 hs ⟨hm, hr⟩ => ?_)
    have hg := GD.rf (D := D)
    refine tsP_i (b1 I2 D (hs.1.trans hN)) (?_)
    simp only [hs.2]
    refine br_CI (P := fun I3 => FrC I2 I3 ∧ RM τ I3) hr.1 (q_count (d := d) (hM.frm hm) hw _ (fun I3 a b => ⟨rfl, a, b⟩)) (fun I3 hs2 ⟨hf, hr2⟩ => ?_)
    refine (brP_t rfl).mpr ?_
    exact go _ I3 D ⟨hr.frc hf, hr2, hW⟩ (hs2.1.trans (hs.1.trans hN)) hg
  exact go τ I D ⟨hC, hM, hW⟩ hN GD.rf
theorem law_loop {d L zb lb z0 l0 : Nat} (hL : L ≤ 2560) (hzb : z0 + 200 * 512 ≤ zb) (hlb : l0 + 8000 * 512 ≤ lb) : ∀ (n j : Nat) (τ : ST) (I : IM) (D : DY), 512 ≤ n + j → 5 * j ≤ L → LWI τ I D → dN D 0 = L → dZ D ≤ z0 + 200 * j → dL D ≤ l0 + 8000 * j →
    Wp GG (d + 101) 268 18 [vR (some 0), vR (some 45), vR (some 106), vI (z32 ((5 * j : Nat) : Int))] [] (mm I D) (lawQ zb lb) := by
  intro n
  induction n with
  | zero =>
    intro j τ I D h1 h2 h3 h4 h5 h6
    exact law_step h2 hL h3 h4 ⟨rfl, by show dZ D ≤ zb; omega, by show dL D ≤ lb; omega⟩ (fun q => by omega)
  | succ n ih =>
    intro j τ I D h1 h2 h3 h4 h5 h6
    exact law_step h2 hL h3 h4 ⟨rfl, by show dZ D ≤ zb; omega, by show dL D ≤ lb; omega⟩ (fun q τ2 I2 D2 g1 g2 g3 => ih (j + 1) τ2 I2 D2 (by omega) (by omega) g1 g2 (Nat.le_trans g3.2.1 (Nat.le_trans (Nat.add_le_add_right h5 200) (by omega))) (Nat.le_trans g3.2.2 (Nat.le_trans (Nat.add_le_add_right h6 8000) (by omega))))
