/-! Projections. -/
/-- fold, kinds, key, condition, rows, checkpoint -/
abbrev PJ : Type := Nat × Int32 × Nat × Tx × (Nat → Option Int32) × Nat
abbrev jF (x : PJ) : Nat := x.1
abbrev jM (x : PJ) : Int32 := x.2.1
abbrev jY (x : PJ) : Nat := x.2.2.1
abbrev jC (x : PJ) : Tx := x.2.2.2.1
abbrev jR (x : PJ) : Nat → Option Int32 := x.2.2.2.2.1
abbrev jP (x : PJ) : Nat := x.2.2.2.2.2
def mkB : List Bool → Nat
  | [] => 0
  | b :: l => 2 * mkB l + (bif b then 1 else 0)
theorem mkB_bit : ∀ (l : List Bool) (k : Nat), (mkB l).testBit k = l.getD k false
  | [], k => by simp [mkB]
  | b :: l, 0 => by
    show (2 * mkB l + (bif b then 1 else 0)).testBit 0 = b
    rw [Nat.testBit_zero]
    cases b
    · show decide ((2 * mkB l + 0) % 2 = 1) = false
      exact decide_eq_false (by omega)
    · show decide ((2 * mkB l + 1) % 2 = 1) = true
      exact decide_eq_true (by omega)
  | b :: l, k + 1 => by
    show (2 * mkB l + (bif b then 1 else 0)).testBit (k + 1) = l.getD k false
    rw [Nat.testBit_succ, ← mkB_bit l k]
    congr 1
    cases b
    · show (2 * mkB l + 0) / 2 = _
      omega
    · show (2 * mkB l + 1) / 2 = _
      omega
theorem mkB_lt : ∀ (l : List Bool), mkB l < 2 ^ l.length
  | [] => by decide
  | b :: l => by
    have := mkB_lt l
    show 2 * mkB l + (bif b then 1 else 0) < 2 ^ (l.length + 1)
    rw [Nat.pow_succ]
    cases b <;> simp <;> omega
def mskR (r : Nat → Option Int32) : Nat := mkB ((List.range 9).map (fun k => (r k).isSome))
theorem mskR_lt (r : Nat → Option Int32) : mskR r < 512 := by
  have := mkB_lt ((List.range 9).map (fun k => (r k).isSome))
  rw [List.length_map, List.length_range] at this
  exact this
theorem mskR_bit (r : Nat → Option Int32) (k : Nat) : (mskR r).testBit k = (decide (k < 9) && (r k).isSome) := by
  unfold mskR
  rw [mkB_bit, List.getD_eq_getElem?_getD, List.getElem?_map]
  by_cases h : k < 9
  · rw [List.getElem?_range h, decide_eq_true h]
    rfl
  · rw [List.getElem?_eq_none (by rw [List.length_range]; omega), decide_eq_false h]
    rfl
theorem bit9 : ∀ m : Nat, m < 512 → ∀ k : Nat, k < 9 → (z32 (m : Int) >>> z32 (k : Int)) &&& 1 = b32 (m.testBit k = true) := by decide +kernel
theorem or9 : ∀ m : Nat, m < 512 → ∀ k : Nat, k < 9 → z32 (m : Int) ||| ((1 : Int32) <<< z32 (k : Int)) = z32 ((m ||| 2 ^ k : Nat) : Int) := by decide +kernel
theorem mskR_upd {r : Nat → Option Int32} {k : Nat} {v : Int32} (hk : k < 9) : mskR r ||| 2 ^ k = mskR (updF r k (some v)) := by
  refine Nat.eq_of_testBit_eq (fun j => ?_)
  rw [Nat.testBit_or, mskR_bit, mskR_bit, Nat.testBit_two_pow]
  by_cases e : j = k
  · subst e
    rw [updF_eq, decide_eq_true hk]
    simp
  · rw [updF_ne e, show decide (k = j) = false from decide_eq_false (fun q => e q.symm), Bool.or_false]
def isP (I : IM) (D : DY) (a : Nat) (x : PJ) : Prop := (159 ≤ a ∧ a + 1 < dZ D ∧ dK D a = 7 ∧ dW D a = 4 ∧ dK D (a + 1) = 20 ∧ dN D (a + 1) = 9 ∧ dW D (a + 1) = 3 ∧ dR D a 4 = some (a + 1)) ∧ (∃ fo, dR D a 3 = some fo ∧ isF I D fo (jC x)) ∧ cWF 3 (jC x) ∧
  (I a 0 = z32 (jF x : Int) ∧ I a 1 = jM x ∧ I a 2 = z32 (jY x : Int) ∧ I a 5 = z32 (mskR (jR x) : Int) ∧ I a 6 = z32 (jP x : Int)) ∧ (∀ k v, k < 9 → jR x k = some v → I (a + 1) k = v) ∧ jF x < 6 ∧ jY x < 3 ∧ jP x ≤ 240
theorem isP.fr {I I2 : IM} {D : DY} {a : Nat} {x : PJ} (h : isP I D a x) (h1 : ∀ k, I2 a k = I a k) (h2 : ∀ k, I2 (a + 1) k = I (a + 1) k) (h3 : IMF I I2 D) : isP I2 D a x := by
  obtain ⟨q1, ⟨fo, q2, q3⟩, q4, ⟨q5, q6, q7, q8, q9⟩, q10, q11⟩ := h
  exact ⟨q1, ⟨fo, q2, q3.qf h3⟩, q4, ⟨(h1 _).trans q5, (h1 _).trans q6, (h1 _).trans q7, (h1 _).trans q8, (h1 _).trans q9⟩, fun k v hk hv => (h2 k).trans (q10 k v hk hv), q11⟩
theorem isP.mono {X : Nat → Prop} {I I2 : IM} {D D2 : DY} {a c s : Nat} {x : PJ} (h : isP I D a x) (hd : DX X D D2 c s) (hX : ∀ a, 159 ≤ a → ¬ X a) (h1 : ∀ k, I2 a k = I a k) (h2 : ∀ k, I2 (a + 1) k = I (a + 1) k) (h3 : IMF I I2 D) : isP I2 D2 a x := by
  obtain ⟨⟨p1, p2, p3, p4, p5, p6, p7, p8⟩, ⟨fo, q2, q3⟩, q4, ⟨q5, q6, q7, q8, q9⟩, q10, q11⟩ := h
  obtain ⟨f1, f2, f3, f4⟩ := hd.2.2.2 a (by omega)
  obtain ⟨g1, g2, g3, g4⟩ := hd.2.2.2 (a + 1) p2
  have hz := hd.1
  exact ⟨⟨p1, by omega, f1.trans p3, f3.trans p4, g1.trans p5, g2.trans p6, g3.trans p7, (f4 (hX a p1) 4).trans p8⟩, ⟨fo, (f4 (hX a p1) 3).trans q2, q3.mono hd hX h3⟩, q4, ⟨(h1 _).trans q5, (h1 _).trans q6, (h1 _).trans q7, (h1 _).trans q8, (h1 _).trans q9⟩, fun k v hk hv => (h2 k).trans (q10 k v hk hv), q11⟩
section
variable {d : Nat} {I : IM} {D : DY} {a : Nat} {x : PJ}
theorem isP.k (h : isP I D a x) (J : IM) : pKd (mm J D) a = 7 := (mmK h.1.1).trans h.1.2.2.1
theorem isP.r4 (h : isP I D a x) (J : IM) : pR (mm J D) a 4 = some (a + 1) := (mmR (isFn_new h.1.1)).trans h.1.2.2.2.2.2.2.2
theorem isP.k1 (h : isP I D a x) (J : IM) : pKd (mm J D) (a + 1) = 20 := (mmK (Nat.le_succ_of_le h.1.1)).trans h.1.2.2.2.2.1
theorem isP.l1 (h : isP I D a x) (J : IM) : pLn (mm J D) (a + 1) = 9 := (mmN (Nat.le_succ_of_le h.1.1)).trans h.1.2.2.2.2.2.1
theorem e_phas {K : Int32 → IM → Prop} {k : Nat} (h : isP I D a x) (hk : k < 9) : CI d 122 [vR (some a), vI (z32 (k : Int))] (mm I D) K ↔ K (b32 ((jR x k).isSome = true)) I := by
  refine CI_iff (s_Projection_has _ _ ((brP_f (by rw [z32_0, z32_lt] <;> omega)).mpr (tsP_i (h.k _) (onR_i (h.r4 _) (tsP_i (by rw [h.k1]; omega) ?_)))))
  rw [h.l1, ofNat_z]
  refine (brP_f (by rw [z32_le] <;> omega)).mpr (tsP_i (h.k _) ?_)
  rw [h.2.2.2.1.2.2.2.1, bit9 _ (mskR_lt _) k hk, mskR_bit, decide_eq_true hk, Bool.true_and]
  refine brP_i (fun q => qI_i ⟨?_, rfl⟩) (fun q => qI_i ⟨?_, rfl⟩)
  · exact (b32_f (fun c => q (b32_1.mpr c))).symm
  · exact (Classical.not_not.mp q).symm
end
def fldV (f : Nat) (v a : Int32) : Int32 := if f = 0 then v + a else if f = 1 then v + 1 else if f = 2 then (if v < a then a else v) else if f = 3 then (if a < v then a else v) else if f = 4 then v else a
theorem e_folded {d : Nat} {I : IM} {D : DY} {a : Nat} {x : PJ} {K : Int32 → IM → Prop} {v y : Int32} (h : isP I D a x) : CI (d + 1) 123 [vR (some a), vI v, vI y] (mm I D) K ↔ K (fldV (jF x) v y) I := by
  have hF := h.2.2.2.2.2.1
  refine CI_iff (s_Projection_folded _ _ _ (tsP_i (h.k _) ?_))
  rw [h.2.2.2.1.1]
  generalize jF x = f at *
  obtain rfl | rfl | rfl | rfl | rfl | rfl : f = 0 ∨ f = 1 ∨ f = 2 ∨ f = 3 ∨ f = 4 ∨ f = 5 := by omega
  · exact (brP_t (by decide)).mpr (qI_i ⟨rfl, rfl⟩)
  · exact (brP_f (by decide)).mpr ((brP_t (by decide)).mpr (qI_i ⟨rfl, rfl⟩))
  · refine (brP_f (by decide)).mpr ((brP_f (by decide)).mpr ((brP_t (by decide)).mpr ?_))
    rw [e_max]
    exact qI_i ⟨rfl, rfl⟩
  · refine (brP_f (by decide)).mpr ((brP_f (by decide)).mpr ((brP_f (by decide)).mpr ((brP_t (by decide)).mpr ?_)))
    rw [e_min]
    exact qI_i ⟨rfl, rfl⟩
  · exact (brP_f (by decide)).mpr ((brP_f (by decide)).mpr ((brP_f (by decide)).mpr ((brP_f (by decide)).mpr ((brP_t (by decide)).mpr (qI_i ⟨rfl, rfl⟩)))))
  · exact (brP_f (by decide)).mpr ((brP_f (by decide)).mpr ((brP_f (by decide)).mpr ((brP_f (by decide)).mpr ((brP_f (by decide)).mpr (qI_i ⟨rfl, rfl⟩)))))
def rowV (f : Nat) (o : Option Int32) (a : Int32) : Int32 := match o with
  | none => if f = 1 then 1 else a
  | some v => fldV f v a
def keyV (x : PJ) (kd s : Nat) : Nat := if jY x = 0 then s else if jY x = 1 then kd else 0
def setJ (x : PJ) (k : Nat) (v : Int32) : PJ := (jF x, jM x, jY x, jC x, updF (jR x) k (some v), jP x)
def cpJ (x : PJ) (p : Nat) : PJ := (jF x, jM x, jY x, jC x, jR x, p)
/-- an event, read, is handled -/
def hdl (x : PJ) (kd s : Nat) (a b : Int32) : PJ := if (jM x >>> z32 (kd : Int)) &&& 1 = 0 then x else if valV (env3 a b (z32 (s : Int))) (jC x) = 0 then x else setJ x (keyV x kd s) (rowV (jF x) (jR x (keyV x kd s)) a)
/-- what handling may change -/
def HF (D : DY) (a : Nat) (I I2 : IM) : Prop := ∀ q k, ¬ ((q = a ∧ 5 ≤ k) ∨ q = a + 1 ∨ (159 ≤ q ∧ dW D q = 2)) → I2 q k = I q k
theorem GF.h {D : DY} {I I2 : IM} {a : Nat} (h : GF D I I2) : HF D a I I2 := fun q k g => h q k (by
  by_cases e : q < 159
  · exact Or.inl e
  · exact Or.inr (fun e2 => g (by omega)))
theorem HF.tr {D : DY} {a : Nat} {I I2 I3 : IM} (h : HF D a I I2) (h2 : HF D a I2 I3) : HF D a I I3 := fun q k g => (h2 q k g).trans (h q k g)
theorem isP.gf {I I2 : IM} {D : DY} {a : Nat} {x : PJ} (h : isP I D a x) (hf : GF D I I2) : isP I2 D a x := h.fr (fun k => hf a k (Or.inr (by rw [h.1.2.2.2.1]; omega))) (fun k => hf (a + 1) k (Or.inr (by rw [h.1.2.2.2.2.2.2.1]; omega))) hf.im
theorem keyV_lt {x : PJ} {kd s : Nat} (hk : kd < 9) (hs : s < 8) : keyV x kd s < 9 := by
  unfold keyV
  repeat' split
  all_goals omega
theorem c_phandle {d : Nat} {I : IM} {D : DY} {K : IM → Prop} {a kd s : Nat} {x : PJ} {av bv : Int32} (h : isP I D a x) (hl : LT I av bv (z32 (s : Int))) (hk : kd < 9) (hs : s < 8)
    (k : ∀ I2, HF D a I I2 → isP I2 D a (hdl x kd s av bv) → I2 a 6 = I a 6 → K I2) : CV (d + 2) 121 [vR (some a), vI (z32 (kd : Int)), vR (some 67)] (mm I D) K := by
  obtain ⟨p1, p2, p3, p4, p5, p6, p7, p8⟩ := h.1
  refine s_Projection_handle _ _ (tsP_i (h.k _) ?_)
  rw [h.2.2.2.1.2.1]
  refine brP_i (fun q => qV_i (k I (fun _ _ _ => rfl) ?_ rfl)) (fun q => tsP_i (h.k _) ?_)
  · rw [show hdl x kd s av bv = x from if_pos q]
    exact h
  obtain ⟨fo, f1, f2⟩ := h.2.1
  refine onR_i ((mmR (isFn_new p1)).trans f1) (tsP_i ((mmK f2.1).trans f2.2.2.1) ?_)
  refine c_give67 f2 h.2.2.1 hl (fun I1 g1 => brP_i (fun q2 => ?_) (fun q2 => qV_i (k I1 g1.h ?_ (g1 a 6 (Or.inr (by omega))))))
  rotate_left
  · rw [show hdl x kd s av bv = x from (if_neg q).trans (if_pos (Classical.not_not.mp q2))]
    exact h.gf g1
  have h1 := h.gf g1
  have hl1 := hl.gf g1
  have tail : ∀ r, r = keyV x kd s → tsP (pKd (mm I1 D) a = 7) (onR False (pR (mm I1 D) a 4) (fun a7 => tsP (19 ≤ pKd (mm I1 D) a7 ∧ pKd (mm I1 D) a7 < 26) (brP (z32 (r : Int) < (Int32.ofNat (pLn (mm I1 D) a7)))
 (tsP (pKd (mm I1 D) a = 7) (tsP (pKd (mm I1 D) a = 7) (CI (d + 1) 122 [vR (some a), vI (z32 (r : Int))] (mm I1 D) (fun x4 I4 => brP (x4 = 0)
 (tsP (pKd (mm I4 D) a = 7) (brP (¬ (I4 a 0) = 1)
 (onR False (pR (mm I1 D) a 4) (fun a8 => tsP (pKd (mm I4 D) a8 = kInt) (tsP (inB (z32 (r : Int)) (pLn (mm I4 D) a8)) (tsP (pKd (mm (up2 I4 a8 (ixN (z32 (r : Int))) (I4 67 0)) D) a = 7) (tsP (pKd (mm (up2 I4 a8 (ixN (z32 (r : Int))) (I4 67 0)) D) a = 7) (qV (mm I D) K none (mm (up2 (up2 I4 a8 (ixN (z32 (r : Int))) (I4 67 0)) a 5 (((up2 I4 a8 (ixN (z32 (r : Int))) (I4 67 0)) a 5) ||| (1 <<< z32 (r : Int)))) D)))))))
 (onR False (pR (mm I1 D) a 4) (fun a9 => tsP (pKd (mm I4 D) a9 = kInt) (tsP (inB (z32 (r : Int)) (pLn (mm I4 D) a9)) (tsP (pKd (mm (up2 I4 a9 (ixN (z32 (r : Int))) 1) D) a = 7) (tsP (pKd (mm (up2 I4 a9 (ixN (z32 (r : Int))) 1) D) a = 7) (qV (mm I D) K none (mm (up2 (up2 I4 a9 (ixN (z32 (r : Int))) 1) a 5 (((up2 I4 a9 (ixN (z32 (r : Int))) 1) a 5) ||| (1 <<< z32 (r : Int)))) D)))))))))
 (tsP (pKd (mm I4 D) a = 7) (onR False (pR (mm I4 D) a 4) (fun a10 => tsP (pKd (mm I4 D) a10 = 20) (tsP (inB (z32 (r : Int)) (pLn (mm I4 D) a10)) (tsP (pKd (mm I4 D) a = 7) (CI (d + 1) 123 [vR (some a), vI (I4 a10 (ixN (z32 (r : Int)))), vI (I4 67 0)] (mm I4 D) (fun x5 I5 => onR False (pR (mm I1 D) a 4) (fun a11 => tsP (pKd (mm I5 D) a11 = kInt) (tsP (inB (z32 (r : Int)) (pLn (mm I5 D) a11)) (tsP (pKd (mm (up2 I5 a11 (ixN (z32 (r : Int))) x5) D) a = 7) (tsP (pKd (mm (up2 I5 a11 (ixN (z32 (r : Int))) x5) D) a = 7) (qV (mm I D) K none (mm (up2 (up2 I5 a11 (ixN (z32 (r : Int))) x5) a 5 (((up2 I5 a11 (ixN (z32 (r : Int))) x5) a 5) ||| (1 <<< z32 (r : Int)))) D)))))))))))))))))
 (qV (mm I D) K none (mm I1 D))))) := by
    intro r hr
    have hr9 : r < 9 := hr ▸ keyV_lt hk hs
    have hb : ∀ J, inB (z32 (r : Int)) (pLn (mm J D) (a + 1)) := fun J => by rw [h1.l1]; exact inB_n hr9 (by omega)
    have fin : ∀ v, v = rowV (jF x) (jR x r) av → qV (mm I D) K none (mm (up2 (up2 I1 (a + 1) (ixN (z32 (r : Int))) v) a 5 (((up2 I1 (a + 1) (ixN (z32 (r : Int))) v) a 5) ||| (1 <<< z32 (r : Int)))) D) := by
      intro v hv
      rw [ix_n (by omega), up2_ne (show a ≠ a + 1 by omega), h1.2.2.2.1.2.2.2.1, or9 _ (mskR_lt _) r hr9, mskR_upd (v := v) hr9]
      refine qV_i (k _ (g1.h.tr (fun q j hq => ?_)) ?_ ?_)
      · by_cases e : q = a
        · subst e
          rw [up2_nj (by omega), up2_ne (by omega)]
        · rw [up2_ne e, up2_ne (by omega)]
      · have eh : hdl x kd s av bv = setJ x r v := by
          rw [show hdl x kd s av bv = setJ x (keyV x kd s) (rowV (jF x) (jR x (keyV x kd s)) av) from (if_neg q).trans (if_neg q2), ← hr, ← hv]
        rw [eh]
        obtain ⟨w1, ⟨fo, w2, w3⟩, w4, ⟨w5, w6, w7, w8, w9⟩, w10, w11, w12, w13⟩ := h1
        refine ⟨w1, ⟨fo, w2, w3.qf (fun b j hb1 hb2 hb3 => ?_)⟩, w4, ⟨?_, ?_, ?_, up2_eq, ?_⟩, fun j u hj hu => ?_, w11, w12, w13⟩
        · rw [up2_ne (fun e => by rw [e] at hb3; omega), up2_ne (fun e => by rw [e] at hb3; omega)]
        · rw [up2_nj (by omega), up2_ne (by omega)]; exact w5
        · rw [up2_nj (by omega), up2_ne (by omega)]; exact w6
        · rw [up2_nj (by omega), up2_ne (by omega)]; exact w7
        · rw [up2_nj (by omega), up2_ne (by omega)]; exact w9
        · have hu : updF (jR x) r (some v) j = some u := hu
          rw [up2_ne (by omega)]
          by_cases e : j = r
          · subst e
            rw [updF_eq] at hu
            cases hu
            exact up2_eq
          · rw [updF_ne e] at hu
            rw [up2_nj e]
            exact w10 j u hj hu
      · rw [up2_nj (by omega), up2_ne (by omega)]
        exact g1 a 6 (Or.inr (by omega))
    refine tsP_i (h1.k _) (onR_i (h1.r4 _) (tsP_i (by rw [h1.k1]; omega) ?_))
    rw [h1.l1, ofNat_z]
    refine (brP_t (by rw [z32_lt] <;> omega)).mpr (tsP_i (h1.k _) (tsP_i (h1.k _) ?_))
    rw [e_phas h1 hr9]
    cases hv : jR x r with
    | none =>
      rw [hv] at fin
      refine (brP_t (b32_f (by decide))).mpr (tsP_i (h1.k _) ?_)
      have hf0 : I1 a 0 = z32 (jF x : Int) := h1.2.2.2.1.1
      have hf6 := h1.2.2.2.2.2.1
      refine brP_i (fun q3 => onR_i (h1.r4 _) (tsP_i (h1.k1 _) (tsP_i (hb _) (tsP_i (h1.k _) (tsP_i (h1.k _) ?_))))) (fun q3 => onR_i (h1.r4 _) (tsP_i (h1.k1 _) (tsP_i (hb _) (tsP_i (h1.k _) (tsP_i (h1.k _) ?_)))))
      · refine fin _ ?_
        rw [hl1.1]
        have : jF x ≠ 1 := fun e => q3 (by rw [hf0, e]; rfl)
        exact (if_neg this : (if jF x = 1 then (1 : Int32) else av) = av).symm
      · refine fin _ ?_
        have q3 : I1 a 0 = 1 := Classical.not_not.mp q3
        rw [hf0] at q3
        have : jF x = 1 := (z32_eN (m := 1) (by omega) (by omega)).mp q3
        exact (if_pos this : (if jF x = 1 then (1 : Int32) else av) = 1).symm
    | some v =>
      rw [hv] at fin
      refine (brP_f (by rw [b32_t (show (some v).isSome = true from rfl)]; decide)).mpr (tsP_i (h1.k _) (onR_i (h1.r4 _) (tsP_i (h1.k1 _) (tsP_i (hb _) (tsP_i (h1.k _) ?_)))))
      have e5 : I1 (a + 1) (ixN (z32 (r : Int))) = v := by
        rw [ix_n (by omega)]
        exact h1.2.2.2.2.1 r v hr9 hv
      rw [e5, hl1.1, e_folded h1]
      exact onR_i (h1.r4 _) (tsP_i (h1.k1 _) (tsP_i (hb _) (tsP_i (h1.k _) (tsP_i (h1.k _) (fin _ rfl)))))
  have e2 : I1 a 2 = z32 (jY x : Int) := h1.2.2.2.1.2.2.1
  have hy := h1.2.2.2.2.2.2.1
  refine tsP_i (h1.k _) ?_
  rw [e2]
  refine brP_i (fun q3 => tsP_i (h1.k _) ?_) (fun q3 => ?_)
  · have q3 : jY x ≠ 0 := fun e => q3 (by rw [e]; rfl)
    refine brP_i (fun q4 => ?_) (fun q4 => (brP_f (by rw [z32_0, z32_lt] <;> omega)).mpr ?_)
    · have q4 : jY x ≠ 1 := fun e => q4 (by rw [e]; rfl)
      exact tail 0 (by unfold keyV; rw [if_neg q3, if_neg q4])
    · have q4 : jY x = 1 := (z32_eN (m := 1) (by omega) (by omega)).mp (Classical.not_not.mp q4)
      exact tail kd (by unfold keyV; rw [if_neg q3, if_pos q4])
  · have q3 : jY x = 0 := (z32_eN (m := 0) (by omega) (by omega)).mp (Classical.not_not.mp q3)
    rw [hl1.2.2]
    exact (brP_f (by rw [z32_0, z32_lt] <;> omega)).mpr (tail s (by unfold keyV; rw [if_pos q3]))
/-- the same, as new -/
def newJ (x : PJ) : PJ := (jF x, jM x, jY x, jC x, fun _ => none, 0)
theorem newP.is {I : IM} {D : DY} {a f y : Nat} {m : Int32} {c : Tx} (h : newP I D a f m y c) (hw : cWF 3 c) (hf : f < 6) (hy : y < 3) : isP I D a (f, m, y, c, (fun _ => none), 0) := by
  obtain ⟨h1, h2, h3, h4, h5, h6, h7, h8, h9, h10, h11, h12, h13, h14⟩ := h
  exact ⟨⟨h1, h2, h3, h4, h11, h12, h13, h10⟩, h14, hw, ⟨h5, h6, h7, h8, h9⟩, (fun _ _ _ e => by cases e), hf, hy, by show 0 ≤ 240; omega⟩
theorem c_afresh {d : Nat} {I : IM} {D : DY} {K : Option Nat → IM → DY → Prop} {a : Nat} {x : PJ} (h : isP I D a x) (k : ∀ I2 D2, DX XL D D2 2 16 → dZ D2 = dZ D + 2 → (∀ b j, b < dZ D → I2 b j = I b j) → isP I2 D2 (dZ D) (newJ x) → K (some (dZ D)) I2 D2) :
    AR (d + 2) 116 [vR (some a)] (mm I D) K := by
  obtain ⟨⟨p1, p2, p3, p4, p5, p6, p7, p8⟩, ⟨fo, q2, q3⟩, q4, ⟨q5, q6, q7, q8, q9⟩, q10, q11, q12, q13⟩ := h
  have hz : 159 ≤ dZ D := by omega
  refine s_Projection_afresh _ (can_mk 4 hz ?_)
  have hk : pKd (mm (upr I (dZ D) 0) (dmk D 7 7 4)) a = 7 := by rw [mmK p1]; exact (up1_ne (by omega)).trans p3
  refine tsP_i hk (tsP_i hk (tsP_i hk (tsP_i hk (tsP_i (by rw [mmK hz]; exact up1_eq) ?_))))
  have er : pR (mm (upr I (dZ D) 0) (dmk D 7 7 4)) a 3 = some fo := by rw [mmR (isFn_new p1)]; exact (upr_ne (by omega)).trans q2
  rw [er]
  refine c_Pinit hz (by rw [dZ_m]; omega) up1_eq (aR_i rfl ?_)
  simp only [dZ_m, dZ_s]
  have hdx : DX XL D (dset (dmk (dset (dmk D 7 7 4) (dZ D) 3 (some fo)) 20 9 3) (dZ D) 4 (some (dZ D + 1))) 2 16 := (((DX.mk (X := XL) (D := D) (c := 7) (n := 7) (w := 4)).setN (a := dZ D) (j := 3) (v := some fo) (Nat.le_refl _)).tr (DX.mk (c := 20) (n := 9) (w := 3))).setN (Nat.le_refl _)
  generalize hI2 : upr (up2 (up2 (up2 (upr I (dZ D) 0) (dZ D) 0 _) (dZ D) 1 _) (dZ D) 2 _) (dZ D + 1) 0 = I2
  have hold : ∀ b j, b < dZ D → I2 b j = I b j := fun b j hb => by
    rw [← hI2, upr_ne (by omega), up2_ne (by omega), up2_ne (by omega), up2_ne (by omega), upr_ne (by omega)]
  have hn : ∀ {j v}, up2 (up2 (up2 (upr I (dZ D) 0) (dZ D) 0 (upr I (dZ D) 0 a 0)) (dZ D) 1 (upr I (dZ D) 0 a 1)) (dZ D) 2 (upr I (dZ D) 0 a 2) (dZ D) j = v → I2 (dZ D) j = v := fun e => by
    rw [← hI2, upr_ne (by omega)]
    exact e
  have hu : ∀ j, upr I (dZ D) 0 a j = I a j := fun j => upr_ne (by omega)
  refine k _ _ hdx rfl hold ⟨⟨hz, by show dZ D + 1 < dZ D + 1 + 1; omega, ?_, ?_, ?_, ?_, ?_, up2_eq⟩, ⟨fo, ?_, q3.mono hdx XLn (fun b j _ hb _ => hold b j hb)⟩, q4, ⟨hn ?_, hn ?_, hn ?_, hn ?_, hn ?_⟩, (fun _ _ _ e => by cases e), q11, q12, Nat.zero_le _⟩
  · exact (up1_ne (show dZ D ≠ dZ D + 1 by omega)).trans up1_eq
  · exact (up1_ne (show dZ D ≠ dZ D + 1 by omega)).trans up1_eq
  · exact up1_eq
  · exact up1_eq
  · exact up1_eq
  · show up2 _ (dZ D) 4 _ (dZ D) 3 = _
    rw [up2_nj (by omega)]
    show upr _ (dZ D + 1) none (dZ D) 3 = _
    rw [upr_ne (by omega)]
    exact up2_eq
  · rw [up2_nj (by omega), up2_nj (by omega), up2_eq, hu]; exact q5
  · rw [up2_nj (by omega), up2_eq, hu]; exact q6
  · rw [up2_eq, hu]; exact q7
  · rw [up2_nj (by omega), up2_nj (by omega), up2_nj (by omega), upr_eq]; rfl
  · rw [up2_nj (by omega), up2_nj (by omega), up2_nj (by omega), upr_eq]; rfl
/-- how many rows -/
def bcF (p1 : Int32) : Int32 := ((((((((p1 - (((Int32.toUInt32 p1 >>> (Int32.toUInt32 1 &&& Int32.toUInt32 31)).toInt32) &&& 1431655765)) &&& 858993459) + (((Int32.toUInt32 (p1 - (((Int32.toUInt32 p1 >>> (Int32.toUInt32 1 &&& Int32.toUInt32 31)).toInt32) &&& 1431655765)) >>> (Int32.toUInt32 2 &&& Int32.toUInt32 31)).toInt32) &&& 858993459)) + ((Int32.toUInt32 (((p1 - (((Int32.toUInt32 p1 >>> (Int32.toUInt32 1 &&& Int32.toUInt32 31)).toInt32) &&& 1431655765)) &&& 858993459) + (((Int32.toUInt32 (p1 - (((Int32.toUInt32 p1 >>> (Int32.toUInt32 1 &&& Int32.toUInt32 31)).toInt32) &&& 1431655765)) >>> (Int32.toUInt32 2 &&& Int32.toUInt32 31)).toInt32) &&& 858993459)) >>> (Int32.toUInt32 4 &&& Int32.toUInt32 31)).toInt32)) &&& 252645135) + ((Int32.toUInt32 (((((p1 - (((Int32.toUInt32 p1 >>> (Int32.toUInt32 1 &&& Int32.toUInt32 31)).toInt32) &&& 1431655765)) &&& 858993459) + (((Int32.toUInt32 (p1 - (((Int32.toUInt32 p1 >>> (Int32.toUInt32 1 &&& Int32.toUInt32 31)).toInt32) &&& 1431655765)) >>> (Int32.toUInt32 2 &&& Int32.toUInt32 31)).toInt32) &&& 858993459)) + ((Int32.toUInt32 (((p1 - (((Int32.toUInt32 p1 >>> (Int32.toUInt32 1 &&& Int32.toUInt32 31)).toInt32) &&& 1431655765)) &&& 858993459) + (((Int32.toUInt32 (p1 - (((Int32.toUInt32 p1 >>> (Int32.toUInt32 1 &&& Int32.toUInt32 31)).toInt32) &&& 1431655765)) >>> (Int32.toUInt32 2 &&& Int32.toUInt32 31)).toInt32) &&& 858993459)) >>> (Int32.toUInt32 4 &&& Int32.toUInt32 31)).toInt32)) &&& 252645135) >>> (Int32.toUInt32 8 &&& Int32.toUInt32 31)).toInt32)) + ((Int32.toUInt32 ((((((p1 - (((Int32.toUInt32 p1 >>> (Int32.toUInt32 1 &&& Int32.toUInt32 31)).toInt32) &&& 1431655765)) &&& 858993459) + (((Int32.toUInt32 (p1 - (((Int32.toUInt32 p1 >>> (Int32.toUInt32 1 &&& Int32.toUInt32 31)).toInt32) &&& 1431655765)) >>> (Int32.toUInt32 2 &&& Int32.toUInt32 31)).toInt32) &&& 858993459)) + ((Int32.toUInt32 (((p1 - (((Int32.toUInt32 p1 >>> (Int32.toUInt32 1 &&& Int32.toUInt32 31)).toInt32) &&& 1431655765)) &&& 858993459) + (((Int32.toUInt32 (p1 - (((Int32.toUInt32 p1 >>> (Int32.toUInt32 1 &&& Int32.toUInt32 31)).toInt32) &&& 1431655765)) >>> (Int32.toUInt32 2 &&& Int32.toUInt32 31)).toInt32) &&& 858993459)) >>> (Int32.toUInt32 4 &&& Int32.toUInt32 31)).toInt32)) &&& 252645135) + ((Int32.toUInt32 (((((p1 - (((Int32.toUInt32 p1 >>> (Int32.toUInt32 1 &&& Int32.toUInt32 31)).toInt32) &&& 1431655765)) &&& 858993459) + (((Int32.toUInt32 (p1 - (((Int32.toUInt32 p1 >>> (Int32.toUInt32 1 &&& Int32.toUInt32 31)).toInt32) &&& 1431655765)) >>> (Int32.toUInt32 2 &&& Int32.toUInt32 31)).toInt32) &&& 858993459)) + ((Int32.toUInt32 (((p1 - (((Int32.toUInt32 p1 >>> (Int32.toUInt32 1 &&& Int32.toUInt32 31)).toInt32) &&& 1431655765)) &&& 858993459) + (((Int32.toUInt32 (p1 - (((Int32.toUInt32 p1 >>> (Int32.toUInt32 1 &&& Int32.toUInt32 31)).toInt32) &&& 1431655765)) >>> (Int32.toUInt32 2 &&& Int32.toUInt32 31)).toInt32) &&& 858993459)) >>> (Int32.toUInt32 4 &&& Int32.toUInt32 31)).toInt32)) &&& 252645135) >>> (Int32.toUInt32 8 &&& Int32.toUInt32 31)).toInt32)) >>> (Int32.toUInt32 16 &&& Int32.toUInt32 31)).toInt32)) &&& 63)
def ppc (m : Nat) : Nat := (List.range 9).foldl (fun n k => n + (bif m.testBit k then 1 else 0)) 0
theorem bc9 : ∀ m : Nat, m < 512 → bcF (z32 (m : Int)) = z32 (ppc m : Int) := by decide +kernel
theorem e_bitCount {d : Nat} {I : IM} {D : DY} {K : Int32 → IM → Prop} {m : Nat} (h : m < 512) : CI d 127 [vI (z32 (m : Int))] (mm I D) K ↔ K (z32 (ppc m : Int)) I := CI_iff (s_Integer_bitCount _ (qI_i ⟨bc9 m h, rfl⟩))
/-- the sum of rows -/
def rsum (r : Nat → Option Int32) : List Nat → Int32 → Int32
  | [], w => w
  | k :: l, w => rsum r l (match r k with
    | none => w
    | some v => w + v)
theorem rsum_loop {d : Nat} {I : IM} {D : DY} {K : Int32 → IM → Prop} {a : Nat} {x : PJ} (h : isP I D a x) : ∀ (g i : Nat) (w : Int32), i + g = 9 → K (rsum (jR x) (List.range' i g) w) I → Wp GG (d + 1) 130 4 [vR (some a), vI w, vI (z32 (i : Int))] [] (mm I D) (qI (mm I D) K) := by
  intro g
  induction g with
  | zero =>
    intro i w hi k
    refine s_Projection_sum_4 _ _ _ (tsP_i (h.k _) (onR_i (h.r4 _) (tsP_i (by rw [h.k1]; omega) ?_)))
    rw [h.l1, ofNat_z]
    exact (brP_t (by rw [z32_le] <;> omega)).mpr (qI_i k)
  | succ g ih =>
    intro i w hi k
    rw [List.range'_succ] at k
    refine s_Projection_sum_4 _ _ _ (tsP_i (h.k _) (onR_i (h.r4 _) (tsP_i (by rw [h.k1]; omega) ?_)))
    rw [h.l1, ofNat_z]
    refine (brP_f (by rw [z32_le] <;> omega)).mpr (tsP_i (h.k _) ?_)
    rw [e_phas h (show i < 9 by omega), z32_s]
    cases hv : jR x i with
    | none =>
      refine (brP_t (b32_f (by decide))).mpr ?_
      rw [show w + 0 = w by simp]
      refine ih (i + 1) w (by omega) ?_
      have e : rsum (jR x) (i :: List.range' (i + 1) g) w = rsum (jR x) (List.range' (i + 1) g) w := by
        show rsum (jR x) _ (match jR x i with
          | none => w
          | some v => w + v) = _
        rw [hv]
      rwa [e] at k
    | some v =>
      refine (brP_f (by rw [b32_t (show (some v).isSome = true from rfl)]; decide)).mpr (tsP_i (h.k _) (onR_i (h.r4 _) (tsP_i (h.k1 _) (tsP_i (by rw [h.l1]; exact inB_n (by omega) (by omega)) ?_))))
      rw [ix_n (by omega), h.2.2.2.2.1 i v (by omega) hv]
      refine ih (i + 1) _ (by omega) ?_
      have e : rsum (jR x) (i :: List.range' (i + 1) g) w = rsum (jR x) (List.range' (i + 1) g) (w + v) := by
        show rsum (jR x) _ (match jR x i with
          | none => w
          | some v => w + v) = _
        rw [hv]
      rwa [e] at k
theorem c_psum {d : Nat} {I : IM} {D : DY} {K : Int32 → IM → Prop} {a : Nat} {x : PJ} (h : isP I D a x) (k : K (rsum (jR x) (List.range' 0 9) 0) I) : CI (d + 1) 130 [vR (some a)] (mm I D) K := s_Projection_sum _ (rsum_loop h 9 0 0 rfl k)
/-- the same rows -/
def rsame (r r2 : Nat → Option Int32) : List Nat → Int32
  | [] => 1
  | k :: l => if r k = r2 k then rsame r r2 l else 0
theorem b32_eqb {p q : Bool} : b32 (p = true) = b32 (q = true) ↔ p = q := by cases p <;> cases q <;> decide
theorem rsame_loop {d : Nat} {I : IM} {D : DY} {K : Int32 → IM → Prop} {a a2 : Nat} {x y : PJ} (h : isP I D a x) (h2 : isP I D a2 y) : ∀ (g i : Nat), i + g = 9 → K (rsame (jR x) (jR y) (List.range' i g)) I → Wp GG (d + 1) 129 2 [vR (some a), vR (some a2), vI (z32 (i : Int))] [] (mm I D) (qI (mm I D) K) := by
  intro g
  induction g with
  | zero =>
    intro i hi k
    refine s_Projection_sameRows_2 _ _ _ (tsP_i (h.k _) (onR_i (h.r4 _) (tsP_i (by rw [h.k1]; omega) ?_)))
    rw [h.l1, ofNat_z]
    exact (brP_t (by rw [z32_le] <;> omega)).mpr (qI_i k)
  | succ g ih =>
    intro i hi k
    rw [List.range'_succ] at k
    have ek : rsame (jR x) (jR y) (i :: List.range' (i + 1) g) = if jR x i = jR y i then rsame (jR x) (jR y) (List.range' (i + 1) g) else 0 := rfl
    rw [ek] at k
    refine s_Projection_sameRows_2 _ _ _ (tsP_i (h.k _) (onR_i (h.r4 _) (tsP_i (by rw [h.k1]; omega) ?_)))
    rw [h.l1, ofNat_z]
    refine (brP_f (by rw [z32_le] <;> omega)).mpr (onR_i rfl (tsP_i (h2.k _) (onR_i (h2.r4 _) (tsP_i (by rw [h2.k1]; omega) ?_))))
    rw [h2.l1, ofNat_z]
    refine (brP_f (by rw [z32_le] <;> omega)).mpr (tsP_i (h.k _) ?_)
    rw [e_phas h (show i < 9 by omega)]
    refine onR_i rfl (tsP_i (h2.k _) ?_)
    rw [e_phas h2 (show i < 9 by omega), z32_s]
    refine brP_i (fun q => ?_) (fun q => tsP_i (h.k _) ?_)
    · rw [if_neg (fun e => q (by rw [e]))] at k
      exact qI_i k
    · have q := b32_eqb.mp (Classical.not_not.mp q)
      rw [e_phas h (show i < 9 by omega)]
      cases hv : jR x i with
      | none =>
        rw [hv] at q k
        have e2 : jR y i = none := by
          cases hy : jR y i with
          | none => rfl
          | some w => rw [hy] at q; cases q
        rw [if_pos e2.symm] at k
        exact (brP_t (b32_f (by decide))).mpr (ih (i + 1) (by omega) k)
      | some v =>
        rw [hv] at q k
        obtain ⟨w, hw⟩ : ∃ w, jR y i = some w := by
          cases hy : jR y i with
          | none => rw [hy] at q; cases q
          | some w => exact ⟨w, rfl⟩
        rw [hw] at k
        have hb : ∀ a x, isP I D a x → inB (z32 (i : Int)) (pLn (mm I D) (a + 1)) := fun a x h => by rw [h.l1]; exact inB_n (by omega) (by omega)
        refine (brP_f (by rw [b32_t (show (some v).isSome = true from rfl)]; decide)).mpr (tsP_i (h.k _) (onR_i (h.r4 _) (tsP_i (h.k1 _) (tsP_i (hb _ _ h) (onR_i rfl (tsP_i (h2.k _) (onR_i (h2.r4 _) (tsP_i (h2.k1 _) (tsP_i (hb _ _ h2) ?_)))))))))
        rw [ix_n (by omega), h.2.2.2.2.1 i v (by omega) hv, h2.2.2.2.2.1 i w (by omega) hw]
        refine brP_i (fun q2 => ?_) (fun q2 => ?_)
        · rw [if_pos (by rw [q2])] at k
          exact ih (i + 1) (by omega) k
        · rw [if_neg (fun e => q2 (Option.some.inj e))] at k
          exact qI_i k
theorem c_same {d : Nat} {I : IM} {D : DY} {K : Int32 → IM → Prop} {a a2 : Nat} {x y : PJ} (h : isP I D a x) (h2 : isP I D a2 y) (k : K (rsame (jR x) (jR y) (List.range' 0 9)) I) : CI (d + 1) 129 [vR (some a), vR (some a2)] (mm I D) K := s_Projection_sameRows _ _ (rsame_loop h h2 9 0 rfl k)
