/-! The arms of upcasters and of batches; the choice. -/
section
variable {d l2 h : Nat} {I : IM} {D : DY} {Q : Option PV → PM → Prop} {l4 : Int32} {v w n7 : Nat} {σ : SS} {κ : Option SS} {w8 w9 : PV}
theorem arm_447 {j : Nat} (hj : j < 40) (hp : ∃ x, allP (sL j) (upP (sL j)) = .inl x ∧ x.1 < 9) (L : LIV l2 h ([], σ, κ) I D) (he : eraC (zC σ) < 2) (k : ENDS Q d l2 l4 v w n7 D κ) :
    Wp GG (d + 104) 268 447 [vR (some 0), vR (some 45), vR (some l2), vI (z32 (h : Int)), vI l4, vI (z32 (v : Int)), vI (z32 (w : Int)), vI (z32 (n7 : Int)), w8, w9] [vR (some (plS j)), vR (some 45)] (mm I D) Q := by
  obtain ⟨r, wt, t, lw, ow, a, sp⟩ := L
  obtain ⟨x, hx, hx9⟩ := hp
  refine s_law_447 _ _ _ _ _ _ _ _ _ (tell_con (d := d + 2) hj lw r (fun I2 f2 r2 => ?_))
  refine brP_i (fun q => absurd q (by decide)) (fun _ => ?_)
  have wt2 : WT (sL j, σ, κ) := wt
  have W := w_upcast wt2
  obtain ⟨m, m1, m2, m3, m4, m5, m6⟩ := spc_upc (a := x.2.1) (b := x.2.2) (k := x.1) sp hx9 he
  refine wupcast (d := d + 3) r2 wt.1 (ow.i (I2 := I2)) (fun I3 D3 f3 g3 o3 a3 r3 => ?_)
  rw [S_upcast_eq hx] at W r3 ⊢
  dsimp only at W r3 ⊢
  have m3 : (upcS σ x.1 x.2.1 x.2.2).2 = z32 (m : Int) := m3
  have m6 : zA (upcS σ x.1 x.2.1 x.2.2).1 = zA σ := m6
  rw [m3]
  refine brP_i (fun _ => ?_) (fun q => absurd ?_ q)
  · refine k h I3 D3 _ _ _ ⟨r3, W, rfl, (lw.fr f2.m).fr f3, o3, fun j b c => ?_, m4⟩ (by have := g3.2.1; omega) (by have := g3.2.2.1; omega)
    show I3 l2 j = zA (upcS σ x.1 x.2.1 x.2.2).1 j
    rw [m6]
    exact (a3 j).trans ((f2.l2 ow j).trans (a j b c))
  · show z32 2 ≤ z32 _
    rw [z32_le (by omega) (by omega) (by omega) (by omega)]
    omega
theorem arm_521 {I : IM} {l : List LN} {T : Tx} (hp : allP T (lnsP 40 [] T) = .inl l) (hl2 : l.length = 2) (hT : T.length ≤ 160) (r : RC (T, σ, κ) I D) (wt : WT (T, σ, κ)) (lw : LW I) (ow : OW l2 I D) (a : ∀ k, 1 ≤ k → k < 6 → I l2 k = zA σ k) (sp : SPC h σ) (h7 : n7 = (zL σ).length)
    (k : ∀ I2 D2 σ2 w8 w9, LIV l2 h ([], σ2, κ) I2 D2 → dZ D2 ≤ dZ D + 200 → dL D2 ≤ dL D + 8000 → Wp GG (d + 104) 268 578 [vR (some 0), vR (some 45), vR (some l2), vI (z32 (h : Int)), vI l4, vI (z32 (v : Int)), vI (z32 (w : Int)), vI (z32 (n7 : Int)), w8, w9] [] (mm I2 D2) Q) :
    Wp GG (d + 104) 268 521 [vR (some 0), vR (some 45), vR (some l2), vI (z32 (h : Int)), vI l4, vI (z32 (v : Int)), vI (z32 (w : Int)), vI (z32 (n7 : Int)), w8, w9] [] (mm I D) Q := by
  have hl : (zL σ).length ≤ 240 := r.L.2.1
  have W := w_batch wt hT
  obtain ⟨g, eA, F⟩ := bat_ok (σ := σ) (l := l) hl (by omega) (fun e => by rw [e] at hl2; cases hl2)
  refine s_law_521 _ _ _ _ _ _ _ _ (wbatch (d := d + 3) r wt.1 ow (fun I2 D2 f2 g2 o2 a2 r2 => ?_))
  rw [S_batch_eq hp] at W r2 ⊢
  dsimp only at W r2 ⊢
  have hl3 : (zL (batS σ l).1).length ≤ 240 := r2.L.2.1
  have kk := fun w8 w9 => k I2 D2 (batS σ l).1 w8 w9 ⟨r2, W, rfl, lw.fr f2, o2, fun j b c => by show I2 l2 j = zA (batS σ l).1 j; rw [eA]; exact (a2 j).trans (a j b c), sp.grw g⟩ g2.2.1 g2.2.2.1
  rcases F with ⟨t, t1, t2, t3⟩ | ⟨e, e1, e2, e3⟩
  · have c1 : (batS σ l).2 ≤ -300 := by
      rw [t2]
      show _ ≤ z32 (-300)
      rw [z32_le (by omega) (by omega) (by omega) (by omega)]
      omega
    have c2 : (batS σ l).2 ≤ 0 := by
      rw [t2]
      show _ ≤ z32 0
      rw [z32_le (by omega) (by omega) (by omega) (by omega)]
      omega
    refine brP_i (fun _ => q_count0 (d := d + 3) r2 (brP_i (fun _ => brP_i (fun _ => kk _ _) (fun q => absurd c2 q)) (fun q => absurd ?_ q))) (fun q => absurd c1 q)
    show z32 ((zL (batS σ l).1).length : Int) ≤ z32 (n7 : Int)
    rw [t3, h7, z32_le] <;> omega
  · have c1 : ¬ (batS σ l).2 ≤ -300 := by
      rw [e2]
      show ¬ _ ≤ z32 (-300)
      rw [z32_le (by omega) (by omega) (by omega) (by omega)]
      omega
    have c2 : ¬ (batS σ l).2 ≤ 0 := by
      rw [e2]
      show ¬ _ ≤ z32 0
      rw [z32_le (by omega) (by omega) (by omega) (by omega)]
      omega
    refine brP_i (fun q => absurd q c1) (fun _ => q_count0 (d := d + 3) r2 (brP_i (fun q => absurd q ?_) (fun _ => brP_i (fun q => absurd q c2) (fun _ => q_count0 (d := d + 3) r2 (brP_i (fun _ => kk _ _) (fun q => absurd ?_ q))))))
    · show ¬ z32 ((zL (batS σ l).1).length : Int) ≤ z32 (n7 : Int)
      rw [z32_le (by omega) (by omega) (by omega) (by omega)]
      omega
    · show z32 ((zL (batS σ l).1).length : Int) = z32 (n7 : Int) + (batS σ l).2
      rw [e2, z32_add, e3, h7]
      rfl
/-- a String is made of pieces, and told -/
theorem arm_463 (L : LIV l2 h ([], σ, κ) I D) (hv : v < 16777216) (hw : w < 16777216) (h7 : n7 = (zL σ).length) (k : ENDS Q d l2 l4 v w n7 D κ) :
    Wp GG (d + 104) 268 463 [vR (some 0), vR (some 45), vR (some l2), vI (z32 (h : Int)), vI l4, vI (z32 (v : Int)), vI (z32 (w : Int)), vI (z32 (n7 : Int)), w8, w9] [] (mm I D) Q := by
  have L0 := L
  obtain ⟨r, wt, t, lw, ow, a, sp⟩ := L
  have hz := r.1
  have ho := r.2.1
  have tl := texV_len v
  have n1 := nt_len (v % 3)
  have n2 := nt_len (w % 3)
  have q37 : (sL 37).length = 1 ∧ (sL 38).length = 1 ∧ (sL 39).length = 6 := by decide +kernel
  have cw : ∀ {I2 D2 c s}, CHX XN I D I2 D2 c s → dW D2 l2 = dW D l2 := fun c => (c.1.2.2.2 l2 ow.z.2).2.2.1
  refine s_law_463 _ _ _ _ _ _ _ _ ?_
  -- the chain alone, with what it leaves of the row of answers at its end
  refine newSB (d := d + 101) hz (fun I2 D2 b2 => ?_)
  refine e_streamOf hv (tsP_i b2.kd ?_)
  refine b2.appI (d := d + 98) (lw.chx hz b2.2.1) (by omega) (by show 0 + 2 ≤ 90; omega) (fun I3 D3 b3 => tsP_i b3.kd ?_)
  refine b3.appS (d := d + 98) (STR.con (j := 37) (ho.chx hz b3.2.1) (lw.chx hz b3.2.1) b3.z (by omega)) (by rw [List.nil_append]; omega) (fun I4 D4 b4 => ?_)
  refine text_ok (d := d + 96) hv b4.z (ho.chx hz b4.2.1) (lw.chx hz b4.2.1) (fun I5 D5 s5 t5 c5 g5 => ?_)
  have b5 := b4.chx c5
  refine tsP_i b5.kd ?_
  refine b5.appS (d := d + 98) g5 (by rw [List.nil_append, List.length_append]; omega) (fun I6 D6 b6 => tsP_i b6.kd ?_)
  refine b6.appS (d := d + 98) (STR.con (j := 38) (ho.chx hz b6.2.1) (lw.chx hz b6.2.1) b6.z (by omega)) (by rw [List.nil_append, List.length_append, List.length_append]; omega) (fun I7 D7 b7 => ?_)
  refine e_streamOf hw (tsP_i b7.kd ?_)
  refine b7.appI (d := d + 98) (lw.chx hz b7.2.1) (by omega) (by rw [List.nil_append, List.length_append, List.length_append, List.length_append]; omega) (fun I8 D8 b8 => tsP_i b8.kd ?_)
  refine b8.appS (d := d + 98) (STR.con (j := 39) (ho.chx hz b8.2.1) (lw.chx hz b8.2.1) b8.z (by omega)) (by rw [List.nil_append, List.length_append, List.length_append, List.length_append, List.length_append]; omega) (fun I9 D9 b9 => tsP_i b9.kd ?_)
  refine b9.toS (d := d + 97) (fun Ia Da sa ta ca ga => ?_)
  rw [List.nil_append] at ga
  sorry
end
