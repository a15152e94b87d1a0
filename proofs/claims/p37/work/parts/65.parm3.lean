/-! The arms of upcasters and of batches; the choice. -/
section
variable {d l2 h : Nat} {I : IM} {D : DY} {Q : Option PV → PM → Prop} {l4 : Int32} {v w n7 : Nat} {σ : SS} {κ : Option SS} {w8 w9 : PV}
theorem arm_447 {j : Nat} (hj : j < 40) (hp : ∃ x, allP (sL j) (upP (sL j)) = .inl x ∧ x.1 < 9) (L : LIV l2 h ([], σ, κ) I D) (he : eraC (zC σ) < 2) (k : ENDS Q d l2 l4 v w n7 D κ) :
    Wp GG (d + 104) 268 447 [vR (some 0), vR (some 45), vR (some l2), vI (z32 (h : Int)), vI l4, vI (z32 (v : Int)), vI (z32 (w : Int)), vI (z32 (n7 : Int)), w8, w9] [vR (some (plS j)), vR (some 45)] (mm I D) Q := by
  obtain ⟨r, wt, t, lw, ow, a, sp⟩ := L
  obtain ⟨x, hx, hx9⟩ := hp
  refine s_law_447 _ _ _ _ _ _ _ _ _ (tell_con (d := d + 2) hj lw r (fun I2 f2 r2 => ?_))
  refine brP_i (fun q => absurd q (by decide)) (fun _ => ?_)
  have wt2 : WT (sL j, σ, κ) := wt
  have W := w_upcast wt2
  obtain ⟨m, m1, m2, m3, m4, m5, m6⟩ := spc_upc (a := x.2.1) (b := x.2.2) (k := x.1) sp hx9 he
  refine wupcast (d := d + 3) r2 wt.1 (ow.i (I2 := I2)) (fun I3 D3 f3 g3 o3 a3 r3 => ?_)
  rw [S_upcast_eq hx] at W r3 ⊢
  dsimp only at W r3 ⊢
  have m3 : (upcS σ x.1 x.2.1 x.2.2).2 = z32 (m : Int) := m3
  have m6 : zA (upcS σ x.1 x.2.1 x.2.2).1 = zA σ := m6
  rw [m3]
  refine brP_i (fun _ => ?_) (fun q => absurd ?_ q)
  · refine k h I3 D3 _ _ _ ⟨r3, W, rfl, (lw.fr f2.m).fr f3, o3, fun j b c => ?_, m4⟩ (by have := g3.2.1; omega) (by have := g3.2.2.1; omega)
    show I3 l2 j = zA (upcS σ x.1 x.2.1 x.2.2).1 j
    rw [m6]
    exact (a3 j).trans ((f2.l2 ow j).trans (a j b c))
  · show z32 2 ≤ z32 _
    rw [z32_le (by omega) (by omega) (by omega) (by omega)]
    omega
theorem arm_521 {I : IM} {l : List LN} {T : Tx} (hp : allP T (lnsP 40 [] T) = .inl l) (hl2 : l.length = 2) (hT : T.length ≤ 160) (r : RC (T, σ, κ) I D) (wt : WT (T, σ, κ)) (lw : LW I) (ow : OW l2 I D) (a : ∀ k, 1 ≤ k → k < 6 → I l2 k = zA σ k) (sp : SPC h σ) (h7 : n7 = (zL σ).length)
    (k : ∀ I2 D2 σ2 w8 w9, LIV l2 h ([], σ2, κ) I2 D2 → dZ D2 ≤ dZ D + 200 → dL D2 ≤ dL D + 8000 → Wp GG (d + 104) 268 578 [vR (some 0), vR (some 45), vR (some l2), vI (z32 (h : Int)), vI l4, vI (z32 (v : Int)), vI (z32 (w : Int)), vI (z32 (n7 : Int)), w8, w9] [] (mm I2 D2) Q) :
    Wp GG (d + 104) 268 521 [vR (some 0), vR (some 45), vR (some l2), vI (z32 (h : Int)), vI l4, vI (z32 (v : Int)), vI (z32 (w : Int)), vI (z32 (n7 : Int)), w8, w9] [] (mm I D) Q := by
  have hl : (zL σ).length ≤ 240 := r.L.2.1
  have W := w_batch wt hT
  obtain ⟨g, eA, F⟩ := bat_ok (σ := σ) (l := l) hl (by omega) (fun e => by rw [e] at hl2; cases hl2)
  refine s_law_521 _ _ _ _ _ _ _ _ (wbatch (d := d + 3) r wt.1 ow (fun I2 D2 f2 g2 o2 a2 r2 => ?_))
  rw [S_batch_eq hp] at W r2 ⊢
  dsimp only at W r2 ⊢
  have hl3 : (zL (batS σ l).1).length ≤ 240 := r2.L.2.1
  have kk := fun w8 w9 => k I2 D2 (batS σ l).1 w8 w9 ⟨r2, W, rfl, lw.fr f2, o2, fun j b c => by show I2 l2 j = zA (batS σ l).1 j; rw [eA]; exact (a2 j).trans (a j b c), sp.grw g⟩ g2.2.1 g2.2.2.1
  rcases F with ⟨t, t1, t2, t3⟩ | ⟨e, e1, e2, e3⟩
  · have c1 : (batS σ l).2 ≤ -300 := by
      rw [t2]
      show _ ≤ z32 (-300)
      rw [z32_le (by omega) (by omega) (by omega) (by omega)]
      omega
    have c2 : (batS σ l).2 ≤ 0 := by
      rw [t2]
      show _ ≤ z32 0
      rw [z32_le (by omega) (by omega) (by omega) (by omega)]
      omega
    refine brP_i (fun _ => q_count0 (d := d + 3) r2 (brP_i (fun _ => brP_i (fun _ => kk _ _) (fun q => absurd c2 q)) (fun q => absurd ?_ q))) (fun q => absurd c1 q)
    show z32 ((zL (batS σ l).1).length : Int) ≤ z32 (n7 : Int)
    rw [t3, h7, z32_le] <;> omega
  · have c1 : ¬ (batS σ l).2 ≤ -300 := by
      rw [e2]
      show ¬ _ ≤ z32 (-300)
      rw [z32_le (by omega) (by omega) (by omega) (by omega)]
      omega
    have c2 : ¬ (batS σ l).2 ≤ 0 := by
      rw [e2]
      show ¬ _ ≤ z32 0
      rw [z32_le (by omega) (by omega) (by omega) (by omega)]
      omega
    refine brP_i (fun q => absurd q c1) (fun _ => q_count0 (d := d + 3) r2 (brP_i (fun q => absurd q ?_) (fun _ => brP_i (fun q => absurd q c2) (fun _ => q_count0 (d := d + 3) r2 (brP_i (fun _ => kk _ _) (fun q => absurd ?_ q))))))
    · show ¬ z32 ((zL (batS σ l).1).length : Int) ≤ z32 (n7 : Int)
      rw [z32_le (by omega) (by omega) (by omega) (by omega)]
      omega
    · show z32 ((zL (batS σ l).1).length : Int) = z32 (n7 : Int) + (batS σ l).2
      rw [e2, z32_add, e3, h7]
      rfl
/-! pieces, and the row of answers kept -/
def BLE (l2 : Nat) (I0 : IM) (D0 : DY) (I : IM) (D : DY) (a : Nat) (t : Tx) (c s : Nat) : Prop := BLD I0 D0 I D a t c s ∧ FK (fun q => q = l2) (mm I0 D0) (mm I D)
theorem AR.st {y : Nat} {as : List PV} {I0 : IM} {D0 : DY} {K0 K : Option Nat → IM → DY → Prop} (hc : clo (fun q => q = l2) (mm I0 D0)) (f : FK (fun q => q = l2) (mm I0 D0) (mm I D)) (ha : outL (fun q => q = l2) (dZ D) as) (h : AR d y as (mm I D) K0) (k : ∀ x I2 D2, K0 x I2 D2 → FK (fun q => q = l2) (mm I0 D0) (mm I2 D2) → K x I2 D2) : AR d y as (mm I D) K :=
  Mt.mono (AR.fk f.2.1 ha h) fun _ _ ⟨x, I2, D2, e1, e2, k0, g, _⟩ => ⟨x, I2, D2, e1, e2, k x I2 D2 k0 (f.tr hc g)⟩
section
variable {I0 : IM} {D0 : DY} {a c s : Nat} {t : Tx}
theorem BLE.oa (hc : OW l2 I0 D0) (h : BLE l2 I0 D0 I D a t c s) : outV (fun q => q = l2) (dZ D) (vR (some a)) := by
  obtain ⟨⟨h0, h1, ha, v, n, hv, hb⟩, -⟩ := h
  exact ⟨hb.1.2.1, fun e => by have := hc.z.2; omega⟩
theorem BLE.os (hc : OW l2 I0 D0) (h : BLE l2 I0 D0 I D a t c s) {s0 b : Nat} {u : Tx} (hs : STR I D s0 b u) : outV (fun q => q = l2) (dZ D) (vR (some s0)) := by
  refine ⟨hs.2.2.2.2.2.2.2.2.1, fun e => ?_⟩
  have h1 := hs.1
  have h2 := (h.2.2.2.1 l2 hc.z.2).1
  have e : s0 = l2 := e
  rw [e, h2, hc.k.1] at h1
  cases h1
theorem BLE.appS {K : Option Nat → IM → DY → Prop} {s0 b : Nat} {u : Tx} (hc : OW l2 I0 D0) (h : BLE l2 I0 D0 I D a t c s) (hs : STR I D s0 b u) (hl : t.length + u.length ≤ 90) (k : ∀ I2 D2, BLE l2 I0 D0 I2 D2 a (t ++ u) (c + 1) (s + 202) → K (some a) I2 D2) : AR (d + 5) 168 [vR (some a), vR (some s0)] (mm I D) K :=
  AR.st (K0 := fun x I2 D2 => x = some a ∧ BLD I0 D0 I2 D2 a (t ++ u) (c + 1) (s + 202)) hc.1 h.2 (outL.cons (h.oa hc) (outL.cons (h.os hc hs) outL.nil)) (h.1.appS (d := d) hs hl (fun _ _ b => ⟨rfl, b⟩)) (fun x I2 D2 ⟨e, b⟩ f => by rw [e]; exact k I2 D2 ⟨b, f⟩)
theorem BLE.appI {K : Option Nat → IM → DY → Prop} {x : Nat} (hc : OW l2 I0 D0) (h : BLE l2 I0 D0 I D a t c s) (hw : LW I) (hx : x < 100) (hl : t.length + 2 ≤ 90) (k : ∀ I2 D2, BLE l2 I0 D0 I2 D2 a (t ++ nt x) (c + 1) (s + 202) → K (some a) I2 D2) : AR (d + 5) 169 [vR (some a), vI (z32 (x : Int))] (mm I D) K :=
  AR.st (K0 := fun x2 I2 D2 => x2 = some a ∧ BLD I0 D0 I2 D2 a (t ++ nt x) (c + 1) (s + 202)) hc.1 h.2 (outL.cons (h.oa hc) (outL.cons trivial outL.nil)) (h.1.appI (d := d) hw hx hl (fun _ _ b => ⟨rfl, b⟩)) (fun x I2 D2 ⟨e, b⟩ f => by rw [e]; exact k I2 D2 ⟨b, f⟩)
theorem BLE.toS {K : Option Nat → IM → DY → Prop} (hc : OW l2 I0 D0) (h : BLE l2 I0 D0 I D a t c s) (k : ∀ I2 D2 s0 b, CHX XN I0 D0 I2 D2 (c + 2) (s + 94) → STR I2 D2 s0 b t → FK (fun q => q = l2) (mm I0 D0) (mm I2 D2) → K (some s0) I2 D2) : AR (d + 6) 170 [vR (some a)] (mm I D) K :=
  AR.st (K0 := fun x I2 D2 => ∃ s0 b, x = some s0 ∧ CHX XN I0 D0 I2 D2 (c + 2) (s + 94) ∧ STR I2 D2 s0 b t) hc.1 h.2 (outL.cons (h.oa hc) outL.nil) (h.1.toS (d := d) (fun I2 D2 s0 b c2 g => ⟨s0, b, rfl, c2, g⟩)) (fun x I2 D2 ⟨s0, b, e, c2, g⟩ f => by rw [e]; exact k I2 D2 s0 b c2 g f)
theorem BLE.text {K : Option Nat → IM → DY → Prop} {v : Nat} (hc : OW l2 I0 D0) (h : BLE l2 I0 D0 I D a t c s) (hv : v < 16777216) (ho : SOK I) (hw : LW I) (k : ∀ I2 D2 s2 b2, BLE l2 I0 D0 I2 D2 a t (c + 15) (s + 1448) → STR I2 D2 s2 b2 (texV v) → K (some s2) I2 D2) : AR (d + 7) 200 [vI (z32 (v : Int))] (mm I D) K :=
  AR.st (K0 := fun x I2 D2 => ∃ s2 b2, x = some s2 ∧ BLD I0 D0 I2 D2 a t (c + 15) (s + 1448) ∧ STR I2 D2 s2 b2 (texV v)) hc.1 h.2 (outL.cons trivial outL.nil) (text_ok (d := d) hv h.1.z ho hw (fun I2 D2 s2 b2 c2 g => ⟨s2, b2, rfl, h.1.chx c2, g⟩)) (fun x I2 D2 ⟨s2, b2, e, b, g⟩ f => by rw [e]; exact k I2 D2 s2 b2 ⟨b, f⟩ g)
theorem AV.use {y : Nat} {as : List PV} {K K2 : IM → DY → Prop} (h : AV d y as (mm I D) K) (hk : ∀ I2 D2, K I2 D2 → K2 I2 D2) : AV d y as (mm I D) K2 := Mt.mono h fun _ _ ⟨I2, D2, e1, e2, hk2⟩ => ⟨I2, D2, e1, e2, hk I2 D2 hk2⟩
theorem newSE {K : IM → DY → Prop} (hz : 159 ≤ dZ D0) (hc : OW l2 I0 D0) (k : ∀ I2 D2, BLE l2 I0 D0 I2 D2 (dZ D0) [] 2 20 → K I2 D2) : CAN (mkN (mm I0 D0) 12 4) (fun I1 D1 => tsP (pKd (mm I1 D1) (dZ D0) = 12) (AV (d + 2) 167 [vR (some (dZ D0))] (mm I1 D1) K)) := by
  have fm := FK.mk (c := 12) (n := 4) hc.1
  rw [mk_mm 2 hz] at fm
  have c1 : CHX XN I0 D0 (upr I0 (dZ D0) 0) (dmk D0 12 4 2) 1 4 := ⟨DX.mk, fun q j hq _ => upr_ne (by omega)⟩
  refine can_mk 2 hz (tsP_i ((mmK hz).trans up1_eq) ?_)
  have ov : outV (fun q => q = l2) (dZ D0 + 1) (vR (some (dZ D0))) := ⟨Nat.lt_succ_self _, fun e => by have := hc.z.2; have e : dZ D0 = l2 := e; omega⟩
  have ol : outL (fun q => q = l2) (dZ (dmk D0 12 4 2)) [vR (some (dZ D0))] := outL.cons ov outL.nil
  refine (AV.fk fm.2.1 ol (e_sbInit (d := d) (K := fun I2 D2 => BLD I0 D0 I2 D2 (dZ D0) [] 2 20) ⟨hz, Nat.lt_succ_self _, up1_eq⟩ upr_eq (fun I2 D2 c2 b2 => ?_))).use (fun I2 D2 ⟨b, f⟩ => k I2 D2 ⟨b, fm.tr hc.1 f⟩)
  exact ⟨hz, (c1.tr c2 (fun q hq e => by omega)).le (by omega) (by omega), Nat.le_refl _, _, 16, Nat.le_succ _, b2⟩
end
/-- a String is made of pieces, and told -/
theorem arm_463 (L : LIV l2 h ([], σ, κ) I D) (hv : v < 16777216) (hw : w < 16777216) (h7 : n7 = (zL σ).length) (k : ENDS Q d l2 l4 v w n7 D κ) :
    Wp GG (d + 104) 268 463 [vR (some 0), vR (some 45), vR (some l2), vI (z32 (h : Int)), vI l4, vI (z32 (v : Int)), vI (z32 (w : Int)), vI (z32 (n7 : Int)), w8, w9] [] (mm I D) Q := by
  have L0 := L
  obtain ⟨r, wt, t, lw, ow, a, sp⟩ := L
  have hz := r.1
  have ho := r.2.1
  have tl := texV_len v
  have n1 := nt_len (v % 3)
  have n2 := nt_len (w % 3)
  have q37 : (sL 37).length = 1 ∧ (sL 38).length = 1 ∧ (sL 39).length = 6 := by decide +kernel
  refine s_law_463 _ _ _ _ _ _ _ _ ?_
  refine newSE (d := d + 101) hz ow (fun I2 D2 b2 => ?_)
  refine e_streamOf hv (tsP_i b2.1.kd ?_)
  refine b2.appI (d := d + 98) ow (lw.chx hz b2.1.2.1) (by omega) (by show 0 + 2 ≤ 90; omega) (fun I3 D3 b3 => tsP_i b3.1.kd ?_)
  refine b3.appS (d := d + 98) ow (STR.con (j := 37) (ho.chx hz b3.1.2.1) (lw.chx hz b3.1.2.1) b3.1.z (by omega)) (by rw [List.nil_append]; omega) (fun I4 D4 b4 => ?_)
  refine b4.text (d := d + 96) ow hv (ho.chx hz b4.1.2.1) (lw.chx hz b4.1.2.1) (fun I5 D5 s5 t5 b5 g5 => ?_)
  refine tsP_i b5.1.kd ?_
  refine b5.appS (d := d + 98) ow g5 (by rw [List.nil_append, List.length_append]; omega) (fun I6 D6 b6 => tsP_i b6.1.kd ?_)
  refine b6.appS (d := d + 98) ow (STR.con (j := 38) (ho.chx hz b6.1.2.1) (lw.chx hz b6.1.2.1) b6.1.z (by omega)) (by rw [List.nil_append, List.length_append, List.length_append]; omega) (fun I7 D7 b7 => ?_)
  refine e_streamOf hw (tsP_i b7.1.kd ?_)
  refine b7.appI (d := d + 98) ow (lw.chx hz b7.1.2.1) (by omega) (by rw [List.nil_append, List.length_append, List.length_append, List.length_append]; omega) (fun I8 D8 b8 => tsP_i b8.1.kd ?_)
  refine b8.appS (d := d + 98) ow (STR.con (j := 39) (ho.chx hz b8.1.2.1) (lw.chx hz b8.1.2.1) b8.1.z (by omega)) (by rw [List.nil_append, List.length_append, List.length_append, List.length_append, List.length_append]; omega) (fun I9 D9 b9 => tsP_i b9.1.kd ?_)
  refine b9.toS (d := d + 97) ow (fun Ia Da sa ta ca ga fa => ?_)
  rw [List.nil_append] at ga
  have oa : OW l2 Ia Da := ow.next fa (ca.1.2.2.2 l2 ow.z.2).2.2.1
  obtain ⟨ra, -, -, lwa, -, aa, -⟩ := L0.chx ca oa
  obtain ⟨l, hp, hpl⟩ := par_B v (v % 3) (w % 3) (by omega) (by omega)
  refine tell_ok (d := d + 2) ga ra (fun Ib fb rb => brP_i (fun _ => ?_) (fun q => absurd (by decide) q))
  refine arm_521 (d := d) hp hpl ?_ rb wt (lwa.fr fb.m) (oa.i (I2 := Ib)) (fun j b c => (fb.l2 oa j).trans (aa j b c)) sp h7 (fun I2 D2 σ2 w8 w9 L2 z1 z2 => ?_)
  · have := ga.2.2.2.2.2.1
    omega
  · have := ca.1.2.1
    have := ca.1.2.2.1
    exact k h I2 D2 σ2 w8 w9 L2 (by omega) (by omega)
/-- which arm -/
theorem arm_414 (L : LIV l2 h ([], σ, κ) I D) (hv : v < 16777216) (hw : w < 16777216) (h7 : n7 = (zL σ).length) (k : ENDS Q d l2 l4 v w n7 D κ) :
    Wp GG (d + 104) 268 414 [vR (some 0), vR (some 45), vR (some l2), vI (z32 (h : Int)), vI l4, vI (z32 (v : Int)), vI (z32 (w : Int)), vI (z32 (n7 : Int)), w8, w9] [] (mm I D) Q := by
  refine s_law_414 _ _ _ _ _ _ _ _ (brP_i (fun _ => arm_463 (d := d) L hv hw h7 k) (fun _ => ?_))
  refine s_law_422 _ _ _ _ _ _ _ _ (q_count1 (d := d + 3) L.1 (brP_i (fun _ => arm_463 (d := d) L hv hw h7 k) (fun q => ?_)))
  have he : eraC (zC σ) < 2 := by
    refine Nat.not_le.mp (fun z => q ?_)
    show z32 2 ≤ z32 (eraC (zC σ) : Int)
    have h27 : eraC (zC σ) ≤ 27 := eraC_le (RC.M L.1).2.2.1.1
    rw [z32_le (by omega) (by omega) (by omega) (by omega)]
    omega
  refine brP_i (fun _ => ?_) (fun _ => ?_)
  · exact arm_447 (d := d) (j := 36) (by omega) par_36k L he k
  · exact arm_447 (d := d) (j := 35) (by omega) par_35k L he k
theorem arm_112 (L : LIV l2 h ([], σ, κ) I D) (hv : v < 16777216) (hw : w < 16777216) (k : ENDS Q d l2 l4 v w (zL σ).length D κ) {w7 : PV} :
    Wp GG (d + 104) 268 112 [vR (some 0), vR (some 45), vR (some l2), vI (z32 (h : Int)), vI l4, vI (z32 (v : Int)), vI (z32 (w : Int)), w7, w8, w9] [] (mm I D) Q := by
  refine s_law_112 _ _ _ _ _ _ _ _ (q_count0 (d := d + 3) L.1 (brP_i (fun _ => ?_) (fun _ => arm_128 (d := d) L hv hw rfl k)))
  refine s_law_271 _ _ _ _ _ _ _ _ (brP_i (fun _ => brP_i (fun _ => ?_) (fun _ => arm_317 (d := d) L hw rfl k)) (fun _ => arm_280 (d := d) L hw k))
  exact s_law_366 _ _ _ _ _ _ _ _ (brP_i (fun _ => arm_414 (d := d) L hv hw rfl k) (fun _ => arm_376 (d := d) L hw rfl k))
end
