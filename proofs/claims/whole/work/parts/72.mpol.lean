/-! The model's policies. -/
def PST0 (d : Nat) (D : DY) (Q : Option PV → PM → Prop) (p1 x5 : Int32) (I9 : IM) : Prop := (tsP (inB p1 4) (tsP (inB p1 4) (tsP (inB p1 4) (tsP (inB p1 4) (brP ((I9 106 34) = 0)
 (tsP (inB p1 4) (tsP (inB p1 4) (tsP (inB p1 4) (brP ((I9 106 34) = 0)
 (tsP (inB p1 4) (tsP (inB p1 4) (tsP (inB p1 4) (Q (some (vI 1)) (mm (up2 (up2 (up2 (up2 (up2 (up2 (up2 (up2 (up2 (up2 I9 145 (ixN p1) 1) 146 (ixN p1) x5) 147 (ixN p1) 0) 148 (ixN p1) (I9 106 31)) 149 (ixN p1) 0) 150 (ixN p1) (I9 106 32)) 151 (ixN p1) (I9 106 33)) 152 (ixN p1) (I9 106 14)) 153 (ixN p1) 0) 154 (ixN p1) 0) D)))))
 (CI d 251 [vI p1, vI 1] (mm (up2 (up2 (up2 (up2 (up2 (up2 (up2 I9 145 (ixN p1) 1) 146 (ixN p1) x5) 147 (ixN p1) 0) 148 (ixN p1) (I9 106 31)) 149 (ixN p1) 0) 150 (ixN p1) (I9 106 32)) 151 (ixN p1) (I9 106 33)) D) (fun x24 I24 => CV d 190 [vR (some 106), vI 71, vI x24] (mm I24 D) (fun I25 => tsP (inB p1 4) (tsP (inB p1 4) (tsP (inB p1 4) (Q (some (vI 1)) (mm (up2 (up2 (up2 I25 152 (ixN p1) (I25 106 14)) 153 (ixN p1) 0) 154 (ixN p1) 0) D)))))))))))
 (tsP (inB p1 4) (tsP (inB p1 4) (tsP (inB p1 4) (brP ((I9 106 34) = 0)
 (tsP (inB p1 4) (tsP (inB p1 4) (tsP (inB p1 4) (Q (some (vI 1)) (mm (up2 (up2 (up2 (up2 (up2 (up2 (up2 (up2 (up2 (up2 I9 145 (ixN p1) 1) 146 (ixN p1) x5) 147 (ixN p1) 0) 148 (ixN p1) (I9 106 31)) 149 (ixN p1) 1) 150 (ixN p1) (I9 106 32)) 151 (ixN p1) (I9 106 33)) 152 (ixN p1) (I9 106 14)) 153 (ixN p1) 0) 154 (ixN p1) 0) D)))))
 (CI d 251 [vI p1, vI 1] (mm (up2 (up2 (up2 (up2 (up2 (up2 (up2 I9 145 (ixN p1) 1) 146 (ixN p1) x5) 147 (ixN p1) 0) 148 (ixN p1) (I9 106 31)) 149 (ixN p1) 1) 150 (ixN p1) (I9 106 32)) 151 (ixN p1) (I9 106 33)) D) (fun x26 I26 => CV d 190 [vR (some 106), vI 71, vI x26] (mm I26 D) (fun I27 => tsP (inB p1 4) (tsP (inB p1 4) (tsP (inB p1 4) (Q (some (vI 1)) (mm (up2 (up2 (up2 I27 152 (ixN p1) (I27 106 14)) 153 (ixN p1) 0) 154 (ixN p1) 0) D))))))))))))))))
def PST1 (d : Nat) (D : DY) (Q : Option PV → PM → Prop) (p1 x5 : Int32) (I9 : IM) : Prop := (tsP (inB p1 4) (tsP (inB p1 4) (tsP (inB p1 4) (tsP (inB p1 4) (brP ((I9 106 34) = 0)
 (tsP (inB p1 4) (tsP (inB p1 4) (tsP (inB p1 4) (CI d 251 [vI p1, vI 0] (mm (up2 (up2 (up2 (up2 (up2 (up2 (up2 I9 145 (ixN p1) 1) 146 (ixN p1) x5) 147 (ixN p1) 1) 148 (ixN p1) (I9 106 31)) 149 (ixN p1) 0) 150 (ixN p1) (I9 106 32)) 151 (ixN p1) (I9 106 33)) D) (fun x41 I41 => CV d 190 [vR (some 106), vI 70, vI x41] (mm I41 D) (fun I42 => brP ((I42 106 34) = 0)
 (tsP (inB p1 4) (tsP (inB p1 4) (tsP (inB p1 4) (Q (some (vI 1)) (mm (up2 (up2 (up2 I42 152 (ixN p1) (I42 106 14)) 153 (ixN p1) 0) 154 (ixN p1) 0) D)))))
 (CI d 251 [vI p1, vI 1] (mm I42 D) (fun x43 I43 => CV d 190 [vR (some 106), vI 71, vI x43] (mm I43 D) (fun I44 => tsP (inB p1 4) (tsP (inB p1 4) (tsP (inB p1 4) (Q (some (vI 1)) (mm (up2 (up2 (up2 I44 152 (ixN p1) (I44 106 14)) 153 (ixN p1) 0) 154 (ixN p1) 0) D)))))))))))))
 (tsP (inB p1 4) (tsP (inB p1 4) (tsP (inB p1 4) (CI d 251 [vI p1, vI 0] (mm (up2 (up2 (up2 (up2 (up2 (up2 (up2 I9 145 (ixN p1) 1) 146 (ixN p1) x5) 147 (ixN p1) 1) 148 (ixN p1) (I9 106 31)) 149 (ixN p1) 1) 150 (ixN p1) (I9 106 32)) 151 (ixN p1) (I9 106 33)) D) (fun x45 I45 => CV d 190 [vR (some 106), vI 70, vI x45] (mm I45 D) (fun I46 => brP ((I46 106 34) = 0)
 (tsP (inB p1 4) (tsP (inB p1 4) (tsP (inB p1 4) (Q (some (vI 1)) (mm (up2 (up2 (up2 I46 152 (ixN p1) (I46 106 14)) 153 (ixN p1) 0) 154 (ixN p1) 0) D)))))
 (CI d 251 [vI p1, vI 1] (mm I46 D) (fun x47 I47 => CV d 190 [vR (some 106), vI 71, vI x47] (mm I47 D) (fun I48 => tsP (inB p1 4) (tsP (inB p1 4) (tsP (inB p1 4) (Q (some (vI 1)) (mm (up2 (up2 (up2 I48 152 (ixN p1) (I48 106 14)) 153 (ixN p1) 0) 154 (ixN p1) 0) D))))))))))))))))))
/-- what the laying of a policy may change -/
def QFr (p : Nat) (I I2 : IM) : Prop := ∀ q k, ¬ ((145 ≤ q ∧ q ≤ 154 ∧ k = p) ∨ (q = 109 ∧ 245 * (62 + 2 * p) ≤ k ∧ k < 245 * (62 + 2 * p) + 490) ∨ (q = 110 ∧ (k = 62 + 2 * p ∨ k = 62 + 2 * p + 1))) → I2 q k = I q k
theorem QFr.tr {p : Nat} {I I2 I3 : IM} (h : QFr p I I2) (h2 : QFr p I2 I3) : QFr p I I3 := fun q k e => (h2 q k e).trans (h q k e)
/-- what was laid -/
def PLD (G : IM) (p : Nat) (x5 oi : Int32) (cm : Cm) (n : Nat) : Prop := G 145 p = 1 ∧ G 146 p = x5 ∧ G 147 p = oi ∧ DOM G p cm ∧ G 152 p = z32 (n : Int) ∧ G 153 p = 0 ∧ G 154 p = 0
theorem e_mpslot {d : Nat} {I : IM} {D : DY} {K : Int32 → IM → Prop} (p w : Nat) (lit : Int32) (hl : lit = z32 (w : Int)) : CI d 251 [vI (z32 (p : Int)), vI lit] (mm I D) K ↔ K (z32 ((62 + 2 * p + w : Nat) : Int)) I := by
  subst hl
  refine CI_iff (s_M_policySlot _ _ (qI_i ⟨?_, rfl⟩))
  rw [mul2]
  show z32 ((62 : Nat) : Int) + _ + _ = _
  rw [addn, addn]
theorem lay7 {I : IM} {p : Nat} {x5 oi dby c amt tg : Int32} (hp : p < 4) : ∃ J, up2 (up2 (up2 (up2 (up2 (up2 (up2 I 145 p 1) 146 p x5) 147 p oi) 148 p c) 149 p dby) 150 p amt) 151 p tg = J ∧ (∀ q k, ¬ (145 ≤ q ∧ q ≤ 151 ∧ k = p) → J q k = I q k) ∧ J 145 p = 1 ∧ J 146 p = x5 ∧ J 147 p = oi ∧ J 148 p = c ∧ J 149 p = dby ∧ J 150 p = amt ∧ J 151 p = tg := by
  refine ⟨_, rfl, fun q k h => ?_, ?_, ?_, ?_, ?_, ?_, ?_, up2_eq⟩
  · rw [up2_if, if_neg (by omega), up2_if, if_neg (by omega), up2_if, if_neg (by omega), up2_if, if_neg (by omega), up2_if, if_neg (by omega), up2_if, if_neg (by omega), up2_if, if_neg (by omega)]
  · rw [up2_ne (by omega), up2_ne (by omega), up2_ne (by omega), up2_ne (by omega), up2_ne (by omega), up2_ne (by omega), up2_eq]
  · rw [up2_ne (by omega), up2_ne (by omega), up2_ne (by omega), up2_ne (by omega), up2_ne (by omega), up2_eq]
  · rw [up2_ne (by omega), up2_ne (by omega), up2_ne (by omega), up2_ne (by omega), up2_eq]
  · rw [up2_ne (by omega), up2_ne (by omega), up2_ne (by omega), up2_eq]
  · rw [up2_ne (by omega), up2_ne (by omega), up2_eq]
  · rw [up2_ne (by omega), up2_eq]
/-- the last three -/
theorem lay3 {I0 G : IM} {D : DY} {Q : Option PV → PM → Prop} {T : Tx} {p n : Nat} {x5 oi : Int32} {cm : Cm} (hp : p < 4) (hn : G 106 14 = z32 (n : Int)) (f : QFr p I0 G) (t : TPm G T) (h1 : G 145 p = 1) (h2 : G 146 p = x5) (h3 : G 147 p = oi) (h4 : DOM G p cm) (P : IM → Prop) (hP : P G) (hPm : ∀ G2, (∀ q k, ¬ (152 ≤ q ∧ q ≤ 154) → G2 q k = G q k) → P G2)
    (k : ∀ G2, QFr p I0 G2 → TPm G2 T → PLD G2 p x5 oi cm n → P G2 → Q (some (vI 1)) (mm G2 D)) : tsP (inB (z32 (p : Int)) 4) (tsP (inB (z32 (p : Int)) 4) (tsP (inB (z32 (p : Int)) 4) (Q (some (vI 1)) (mm (up2 (up2 (up2 G 152 p (G 106 14)) 153 p 0) 154 p 0) D)))) := by
  have hb : inB (z32 (p : Int)) 4 := inB_n hp (by omega)
  have fu : ∀ q k, ¬ (152 ≤ q ∧ q ≤ 154 ∧ k = p) → up2 (up2 (up2 G 152 p (G 106 14)) 153 p 0) 154 p 0 q k = G q k := fun q k h => by
    rw [up2_if, if_neg (by omega), up2_if, if_neg (by omega), up2_if, if_neg (by omega)]
  refine tsP_i hb (tsP_i hb (tsP_i hb (k _ (fun q j e => (fu q j (by omega)).trans (f q j e)) (t.fr (fu _ _ (by omega)) (fun j => fu _ _ (by omega))) ⟨(fu _ _ (by omega)).trans h1, (fu _ _ (by omega)).trans h2, (fu _ _ (by omega)).trans h3, h4.mv (fun q _ _ => fu _ _ (by omega)) (fun j _ _ => fu _ _ (by omega)) (fu _ _ (by omega)), ?_, ?_, up2_eq⟩ (hPm _ (fun q j e => fu q j (by omega))))))
  · rw [up2_ne (by omega), up2_ne (by omega), up2_eq, hn]
  · rw [up2_ne (by omega), up2_eq]
theorem PST0_ok {d : Nat} {D : DY} {Q : Option PV → PM → Prop} {x5 : Int32} {I9 : IM} {p n : Nat} {cm : Cm} {T : Tx} (hp : p < 4) (hc : CMM I9 71 cm) (hn : I9 106 14 = z32 (n : Int)) (t : TPm I9 T) (k : ∀ G, QFr p I9 G → TPm G T → PLD G p x5 0 cm n → Q (some (vI 1)) (mm G D)) : PST0 d D Q (z32 (p : Int)) x5 I9 := by
  obtain ⟨c1, c2, c3⟩ := hc
  have hb : inB (z32 (p : Int)) 4 := inB_n hp (by omega)
  have ix : ixN (z32 (p : Int)) = p := ix_n (by omega)
  unfold PST0
  rw [ix]
  refine tsP_i hb (tsP_i hb (tsP_i hb (tsP_i hb ?_)))
  cases hcm : cm.2.2.2 with
  | none =>
    rw [hcm] at c3
    refine (brP_t c3.1).mpr (tsP_i hb (tsP_i hb (tsP_i hb ((brP_t c3.1).mpr ?_))))
    obtain ⟨J, hJ, fJ, j1, j2, j3, j4, j5, j6, j7⟩ := lay7 (I := I9) (p := p) (x5 := x5) (oi := 0) (dby := 0) (c := I9 106 31) (amt := I9 106 32) (tg := I9 106 33) hp
    rw [hJ]
    have e14 : I9 106 14 = J 106 14 := (fJ _ _ (by omega)).symm
    rw [e14]
    refine lay3 (I0 := I9) (cm := cm) hp ((fJ _ _ (by omega)).trans hn) (fun q i e => fJ q i (by omega)) (t.fr (fJ _ _ (by omega)) (fun i => fJ _ _ (by omega))) j1 j2 j3 ⟨j4.trans c1, j7.trans c2, ?_⟩ (fun _ => True) trivial (fun _ _ => trivial) (fun G g1 g2 g3 _ => k G g1 g2 g3)
    rw [hcm]
    exact ⟨j5, j6.trans c3.2⟩
  | some c =>
    rw [hcm] at c3
    refine (brP_f (by rw [c3.1]; decide)).mpr (tsP_i hb (tsP_i hb (tsP_i hb ((brP_f (by rw [c3.1]; decide)).mpr ?_))))
    obtain ⟨J, hJ, fJ, j1, j2, j3, j4, j5, j6, j7⟩ := lay7 (I := I9) (p := p) (x5 := x5) (oi := 0) (dby := 1) (c := I9 106 31) (amt := I9 106 32) (tg := I9 106 33) hp
    rw [hJ, e_mpslot p 1 1 rfl]
    have tJ : TPm J T := t.fr (fJ _ _ (by omega)) (fun i => fJ _ _ (by omega))
    refine c_mcopy (a := 71) tJ.2.2.2.2 (by omega) (by omega) (by omega) (fun G g => ?_)
    have g1 := g.1
    refine lay3 (I0 := I9) (cm := cm) hp ((g1 _ _ (by omega)).trans ((fJ _ _ (by omega)).trans hn)) (fun q i e => (g1 q i (by omega)).trans (fJ q i (by omega))) (g.tp (by omega) tJ) ((g1 _ _ (by omega)).trans j1) ((g1 _ _ (by omega)).trans j2) ((g1 _ _ (by omega)).trans j3) ⟨(g1 _ _ (by omega)).trans (j4.trans c1), (g1 _ _ (by omega)).trans (j7.trans c2), ?_⟩ (fun _ => True) trivial (fun _ _ => trivial) (fun G g1 g2 g3 _ => k G g1 g2 g3)
    rw [hcm]
    exact ⟨(g1 _ _ (by omega)).trans j5, g.fm (c3.2.mv (fun i _ _ => fJ _ _ (by omega)) (fJ _ _ (by omega)))⟩
theorem PST1_ok {d : Nat} {D : DY} {Q : Option PV → PM → Prop} {x5 : Int32} {I9 : IM} {p n : Nat} {cm : Cm} {T e : Tx} (hp : p < 4) (hc : CMM I9 71 cm) (hn : I9 106 14 = z32 (n : Int)) (t : TPm I9 T) (hF : FMc I9 70 e) (k : ∀ G, QFr p I9 G → TPm G T → PLD G p x5 1 cm n → FMc G (62 + 2 * p) e → Q (some (vI 1)) (mm G D)) : PST1 d D Q (z32 (p : Int)) x5 I9 := by
  obtain ⟨c1, c2, c3⟩ := hc
  have hb : inB (z32 (p : Int)) 4 := inB_n hp (by omega)
  have ix : ixN (z32 (p : Int)) = p := ix_n (by omega)
  unfold PST1
  rw [ix]
  have e0 : ∀ J : IM, ∀ K : Int32 → IM → Prop, K (z32 ((62 + 2 * p : Nat) : Int)) J → CI d 251 [vI (z32 (p : Int)), vI 0] (mm J D) K := fun J K h => (e_mpslot p 0 0 rfl).mpr h
  have pm : ∀ G : IM, FMc G (62 + 2 * p) e → ∀ G2 : IM, (∀ q k, ¬ (152 ≤ q ∧ q ≤ 154) → G2 q k = G q k) → FMc G2 (62 + 2 * p) e := fun G h G2 f => h.mv (fun i _ _ => f _ _ (by omega)) (f _ _ (by omega))
  refine tsP_i hb (tsP_i hb (tsP_i hb (tsP_i hb ?_)))
  cases hcm : cm.2.2.2 with
  | none =>
    rw [hcm] at c3
    refine (brP_t c3.1).mpr (tsP_i hb (tsP_i hb (tsP_i hb ?_)))
    obtain ⟨J, hJ, fJ, j1, j2, j3, j4, j5, j6, j7⟩ := lay7 (I := I9) (p := p) (x5 := x5) (oi := 1) (dby := 0) (c := I9 106 31) (amt := I9 106 32) (tg := I9 106 33) hp
    rw [hJ]
    have tJ : TPm J T := t.fr (fJ _ _ (by omega)) (fun i => fJ _ _ (by omega))
    refine e0 _ _ (c_mcopy (a := 70) (b := 62 + 2 * p) tJ.2.2.2.2 (by omega) (by omega) (by omega) (fun G g => ?_))
    have g1 := g.1
    have hFG : FMc G (62 + 2 * p) e := g.fm (hF.mv (fun i _ _ => fJ _ _ (by omega)) (fJ _ _ (by omega)))
    rw [g1 106 34 (by omega), fJ 106 34 (by omega)]
    refine (brP_t c3.1).mpr ?_
    refine lay3 (I0 := I9) (cm := cm) hp ((g1 _ _ (by omega)).trans ((fJ _ _ (by omega)).trans hn)) (fun q i e => (g1 q i (by omega)).trans (fJ q i (by omega))) (g.tp (by omega) tJ) ((g1 _ _ (by omega)).trans j1) ((g1 _ _ (by omega)).trans j2) ((g1 _ _ (by omega)).trans j3) ⟨(g1 _ _ (by omega)).trans (j4.trans c1), (g1 _ _ (by omega)).trans (j7.trans c2), ?_⟩ (fun G => FMc G (62 + 2 * p) e) hFG (pm G hFG) k
    rw [hcm]
    exact ⟨(g1 _ _ (by omega)).trans j5, (g1 _ _ (by omega)).trans (j6.trans c3.2)⟩
  | some c =>
    rw [hcm] at c3
    refine (brP_f (by rw [c3.1]; decide)).mpr (tsP_i hb (tsP_i hb (tsP_i hb ?_)))
    obtain ⟨J, hJ, fJ, j1, j2, j3, j4, j5, j6, j7⟩ := lay7 (I := I9) (p := p) (x5 := x5) (oi := 1) (dby := 1) (c := I9 106 31) (amt := I9 106 32) (tg := I9 106 33) hp
    rw [hJ]
    have tJ : TPm J T := t.fr (fJ _ _ (by omega)) (fun i => fJ _ _ (by omega))
    refine e0 _ _ (c_mcopy (a := 70) (b := 62 + 2 * p) tJ.2.2.2.2 (by omega) (by omega) (by omega) (fun G g => ?_))
    have g1 := g.1
    have tG := g.tp (by omega) tJ
    have hFG : FMc G (62 + 2 * p) e := g.fm (hF.mv (fun i _ _ => fJ _ _ (by omega)) (fJ _ _ (by omega)))
    rw [g1 106 34 (by omega), fJ 106 34 (by omega)]
    refine (brP_f (by rw [c3.1]; decide)).mpr ?_
    rw [e_mpslot p 1 1 rfl]
    have h71 : FMc G 71 (encV c) := (c3.2.mv (fun i _ _ => fJ _ _ (by omega)) (fJ _ _ (by omega))).mv (fun i _ _ => g1 _ _ (by omega)) (g1 _ _ (by omega))
    refine c_mcopy (a := 71) (b := 62 + 2 * p + 1) tG.2.2.2.2 (by omega) (by omega) (by omega) (fun G2 gg => ?_)
    have g2 := gg.1
    have f2 : ∀ q i, ¬ ((q = 109 ∧ 245 * (62 + 2 * p) ≤ i ∧ i < 245 * (62 + 2 * p) + 490) ∨ (q = 110 ∧ (i = 62 + 2 * p ∨ i = 62 + 2 * p + 1))) → G2 q i = J q i := fun q i e => (g2 q i (by omega)).trans (g1 q i (by omega))
    have hFG2 : FMc G2 (62 + 2 * p) e := hFG.mv (fun i _ _ => g2 _ _ (by omega)) (g2 _ _ (by omega))
    refine lay3 (I0 := I9) (cm := cm) hp ((f2 _ _ (by omega)).trans ((fJ _ _ (by omega)).trans hn)) (fun q i e => (f2 q i (by omega)).trans (fJ q i (by omega))) (gg.tp (by omega) tG) ((f2 _ _ (by omega)).trans j1) ((f2 _ _ (by omega)).trans j2) ((f2 _ _ (by omega)).trans j3) ⟨(f2 _ _ (by omega)).trans (j4.trans c1), (f2 _ _ (by omega)).trans (j7.trans c2), ?_⟩ (fun G => FMc G (62 + 2 * p) e) hFG2 (pm G2 hFG2) k
    rw [hcm]
    exact ⟨(f2 _ _ (by omega)).trans j5, gg.fm h71⟩
theorem RMS.qs {σ : SS} {I I2 : IM} {p : Nat} {x : QL} (h : RMS σ I) (hp : p < 4) (f : QFr p I I2) (hx : POM I2 p (some x)) : RMS (setQS σ p x) I2 := by
  obtain ⟨cE, cC, cN, cA, cP2, cQ, cY, cD, cV, cH⟩ := h
  refine ⟨cE.mv (fun q j z => f q j (by unfold ZE at z; omega)), cC.mv (fun q j z => f q j (by unfold ZC at z; omega)), cN.mv (fun q j z => f q j (by unfold ZS at z; omega)), fun j hj => (f _ _ (by omega)).trans (cA j hj), cP2.mv (fun q j z => f q j (by unfold ZP at z; omega)), fun p2 hp2 => ?_, cY.mv (fun q j z => f q j (by unfold ZY at z; omega)), fun j hj => (f _ _ (by omega)).trans (cD j hj), (f _ _ (by omega)).trans cV, (f _ _ (by omega)).trans cH⟩
  show POM I2 p2 (updF (zQ σ) p (some x) p2)
  by_cases q : p2 = p
  · have e : updF (zQ σ) p (some x) p2 = some x := if_pos q
    rw [e, q]
    exact hx
  · have e : updF (zQ σ) p (some x) p2 = zQ σ p2 := if_neg q
    rw [e]
    exact (cQ p2 hp2).mv hp2 (fun q _ _ => f _ _ (by omega)) (fun k _ _ => f _ _ (by omega)) (f _ _ (by omega)) (f _ _ (by omega))
