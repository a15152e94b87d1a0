/-! The model's policies run. -/
theorem and1 (x : Int32) : x &&& 1 = 1 ↔ ¬ x &&& 1 = 0 := by
  have h : x &&& 1 = 0 ∨ x &&& 1 = 1 := by
    have : ∀ b : BitVec 32, b &&& 1#32 = 0#32 ∨ b &&& 1#32 = 1#32 := by
      intro b
      have h1 : (b &&& 1#32).toNat = b.toNat % 2 := by
        rw [BitVec.toNat_and]
        exact Nat.and_one_is_mod _
      rcases Nat.mod_two_eq_zero_or_one b.toNat with q | q
      · left
        apply BitVec.eq_of_toNat_eq
        rw [h1, q]
        rfl
      · right
        apply BitVec.eq_of_toNat_eq
        rw [h1, q]
        rfl
    rcases this x.toBitVec with q | q
    · left
      apply Int32.toBitVec_inj.mp
      rw [Int32.toBitVec_and]
      exact q
    · right
      apply Int32.toBitVec_inj.mp
      rw [Int32.toBitVec_and]
      exact q
  rcases h with h | h
  · rw [h]
    decide
  · rw [h]
    decide
theorem setQS_2 {σ : SS} {p : Nat} {x y : QL} : setQS (setQS σ p x) p y = setQS σ p y := by
  show wQ (wQ σ _) _ = wQ σ _
  unfold wQ
  congr 6
  funext j
  show updF (updF (zQ σ) p (some x)) p (some y) j = updF (zQ σ) p (some y) j
  unfold updF
  by_cases c : j = p
  · rw [if_pos c, if_pos c]
  · rw [if_neg c, if_neg c, if_neg c]
/-- what a policy's handling may change -/
def NFm (p : Nat) (I I2 : IM) : Prop := ∀ q k, ¬ ((q = 106 ∧ (k = 14 ∨ k = 25 ∨ k = 26 ∨ (31 ≤ k ∧ k ≤ 33))) ∨ q = 111 ∨ (q = 112 ∧ k < 3) ∨ (113 ≤ q ∧ q ≤ 118) ∨ q = 120 ∨ q = 121 ∨ (122 ≤ q ∧ q ≤ 125) ∨ (152 ≤ q ∧ q ≤ 154 ∧ k = p)) → I2 q k = I q k
theorem NFm.rf {p : Nat} {I : IM} : NFm p I I := fun _ _ _ => rfl
theorem NFm.tr {p : Nat} {I I2 I3 : IM} (h : NFm p I I2) (h2 : NFm p I2 I3) : NFm p I I3 := fun q k e => (h2 q k e).trans (h q k e)
theorem CFr.n {p : Nat} {I I2 : IM} (h : CFr I I2) : NFm p I I2 := fun q k e => h q k (by omega)
theorem RFm.n {p : Nat} {I I2 : IM} (h : RFm I I2) : NFm p I I2 := fun q k e => h q k (by omega)
/-- the counts of a policy -/
theorem RMS.qc {σ : SS} {J G : IM} {p : Nat} {x y : QL} (h : RMS (setQS σ p x) J) (hp : p < 4) (f : ∀ q k, ¬ (152 ≤ q ∧ q ≤ 154 ∧ k = p) → G q k = J q k) (e1 : qlM y = qlM x ∧ qlC y = qlC x ∧ qlK y = qlK x) (g : G 152 p = z32 (qlP y : Int) ∧ G 153 p = qlD y ∧ G 154 p = qlR y) (hpl : qlP y ≤ 240) : RMS (setQS σ p y) G := by
  have hx : POM J p (some x) := by
    have := h.2.2.2.2.2.1 p hp
    have e : zQ (setQS σ p x) p = some x := if_pos rfl
    rw [e] at this
    exact this
  rw [← setQS_2 (x := x)]
  refine h.qs hp (fun q k e => f q k (by omega)) ?_
  obtain ⟨a, ⟨b1, b2, b3⟩, _, ok, wc, _⟩ := hx
  obtain ⟨e1, e2, e3⟩ := e1
  refine ⟨(f _ _ (by omega)).trans a, ⟨?_, ?_, ?_⟩, g, ?_, ?_, hpl⟩
  · rw [e1]
    exact (f _ _ (by omega)).trans b1
  · rw [e2, f 147 p (by omega)]
    exact b2.mv (fun t _ _ => f _ _ (by omega)) (f _ _ (by omega))
  · rw [e3]
    exact b3.mv (fun q _ _ => f _ _ (by omega)) (fun t _ _ => f _ _ (by omega)) (f _ _ (by omega))
  · rw [e3]
    exact ok
  · rw [e2]
    exact wc
theorem c_mgive {d : Nat} {I : IM} {D : DY} {K : IM → Prop} {C : CF} {L : List EV} {i : Nat} {e : EV} (hE : EVM I L) (hC : CSM I C) (he : L[i]? = some e) (ho : okEv C e)
    (k : ∀ I2, RFm I I2 → (∀ q, q < 3 → I2 112 q = env3 (rdE C e).1 (rdE C e).2 (z32 (eS e : Int)) q) → K I2) : CV (d + 3) 243 [vR (some 106), vI (z32 ((i + 1 : Nat) : Int))] (mm I D) K := by
  have hi := lt_of_get he
  have h240 := hE.2.1
  have hp : inB (z32 ((i + 1 : Nat) : Int)) 241 := inB_n (by omega) (by omega)
  refine s_M_giveRead _ (c_mread (d := d) hE hC he ho (fun I1 f1 a1 b1 => tsP_i hp (qV_i ?_)))
  have c0 : I1 113 (i + 1) = z32 (eS e : Int) := (f1 _ _ (by omega)).trans (hE.2.2.1 i e he 0 (by omega))
  rw [ix_n (by omega), c0, a1, b1]
  refine k _ (f1.tr ((RFm.up (by omega)).tr ((RFm.up (by omega)).tr (RFm.up (by omega))))) (fun q hq => ?_)
  rcases (by omega : q = 0 ∨ q = 1 ∨ q = 2) with rfl | rfl | rfl
  · rw [up2_nj (by omega), up2_nj (by omega), up2_eq]; rfl
  · rw [up2_nj (by omega), up2_eq]; rfl
  · rw [up2_eq]; rfl
theorem RMS.sr {σ : SS} {I I2 : IM} (h : RMS σ I) (f : SFr I I2) : RMS σ I2 := h.st f.t
/-- behind a command of a policy -/
theorem ran_end {I J I3 : IM} {D : DY} {K : Int32 → IM → Prop} {σ : SS} {p : Nat} {x : QL} {e : EV} {x3 : Int32} (hp : p < 4) (h : RMS (setQS σ p x) J) (fI : NFm p I J) (f3 : CFr J I3) (e3 : RME (carS σ (eS e) (qlK x) (amtV (zC σ) (qlK x) e)).1 I3) (hx3 : x3 = (carS σ (eS e) (qlK x) (amtV (zC σ) (qlK x) e)).2)
    (hc : (qlM x >>> z32 (eK e : Int)) &&& 1 = 1 ∧ valV (env3 (rdE (zC σ) e).1 (rdE (zC σ) e).2 (z32 (eS e : Int))) (qlC x) ≠ 0)
    (k : ∀ I2, NFm p I I2 → RMS (setQS (hndS σ x e).1 p (hndS σ x e).2.1) I2 → K (b32 ((hndS σ x e).2.2 = true)) I2) :
    brP (¬ x3 = (-3)) (brP (x3 ≤ 0)
      (tsP (inB (z32 (p : Int)) 4) (tsP (inB (z32 (p : Int)) 4) (qI (mm I D) K (some (vI 1)) (mm (up2 I3 154 p ((I3 154 p) + 1)) D))))
      (tsP (inB (z32 (p : Int)) 4) (tsP (inB (z32 (p : Int)) 4) (qI (mm I D) K (some (vI 1)) (mm (up2 I3 153 p ((I3 153 p) + 1)) D)))))
      (qI (mm I D) K (some (vI 0)) (mm I3 D)) := by
  have hb : inB (z32 (p : Int)) 4 := inB_n hp (by omega)
  have hx : POM J p (some x) := by
    have := h.2.2.2.2.2.1 p hp
    have e : zQ (setQS σ p x) p = some x := if_pos rfl
    rw [e] at this
    exact this
  obtain ⟨q1, q2, q3, q4, q5, q6⟩ := carS_eq (σ := σ) (s := eS e) (cm := qlK x) (amt := amtV (zC σ) (qlK x) e)
  have hR : RMS (setQS (carS σ (eS e) (qlK x) (amtV (zC σ) (qlK x) e)).1 p x) I3 := by
    refine RMS.cmd (σ2 := setQS (carS σ (eS e) (qlK x) (amtV (zC σ) (qlK x) e)).1 p x) h f3.b e3 q1 q2 ?_ q4 q5
    show updF (zQ (carS σ (eS e) (qlK x) (amtV (zC σ) (qlK x) e)).1) p (some x) = updF (zQ σ) p (some x)
    rw [q3]
  have g152 : I3 152 p = z32 (qlP x : Int) := (f3 _ _ (by omega)).trans hx.2.2.1.1
  have g153 : I3 153 p = qlD x := (f3 _ _ (by omega)).trans hx.2.2.1.2.1
  have g154 : I3 154 p = qlR x := (f3 _ _ (by omega)).trans hx.2.2.1.2.2
  have hpl := hx.2.2.2.2.2
  have eh : hndS σ x e = (if (carS σ (eS e) (qlK x) (amtV (zC σ) (qlK x) e)).2 = -3 then ((carS σ (eS e) (qlK x) (amtV (zC σ) (qlK x) e)).1, x, false)
     else if 0 < (carS σ (eS e) (qlK x) (amtV (zC σ) (qlK x) e)).2 then ((carS σ (eS e) (qlK x) (amtV (zC σ) (qlK x) e)).1, setQ x (qlP x) (qlD x + 1) (qlR x), true)
     else ((carS σ (eS e) (qlK x) (amtV (zC σ) (qlK x) e)).1, setQ x (qlP x) (qlD x) (qlR x + 1), true)) := if_pos hc
  rw [eh] at k
  subst hx3
  have fI3 : NFm p I I3 := fI.tr f3.n
  refine brP_i (fun c => ?_) (fun c => ⟨_, _, rfl, rfl, ?_⟩)
  · rw [if_neg c] at k
    refine brP_i (fun c2 => tsP_i hb (tsP_i hb ⟨_, _, rfl, rfl, ?_⟩)) (fun c2 => tsP_i hb (tsP_i hb ⟨_, _, rfl, rfl, ?_⟩))
    · rw [if_neg (Int32.not_lt.mpr c2)] at k
      have fu : ∀ q k, ¬ (q = 154 ∧ k = p) → up2 I3 154 p (I3 154 p + 1) q k = I3 q k := fun q k e => by rw [up2_if, if_neg e]
      exact k _ (fI3.tr (fun q j e => fu q j (by omega))) (hR.qc hp (fun q j e => fu q j (by omega)) ⟨rfl, rfl, rfl⟩ ⟨(fu _ _ (by omega)).trans g152, (fu _ _ (by omega)).trans g153, by rw [up2_eq, g154]; rfl⟩ hpl)
    · rw [if_pos (Int32.not_le.mp c2)] at k
      have fu : ∀ q k, ¬ (q = 153 ∧ k = p) → up2 I3 153 p (I3 153 p + 1) q k = I3 q k := fun q k e => by rw [up2_if, if_neg e]
      exact k _ (fI3.tr (fun q j e => fu q j (by omega))) (hR.qc hp (fun q j e => fu q j (by omega)) ⟨rfl, rfl, rfl⟩ ⟨(fu _ _ (by omega)).trans g152, by rw [up2_eq, g153]; rfl, (fu _ _ (by omega)).trans g154⟩ hpl)
  · rw [if_pos (Classical.not_not.mp c)] at k
    exact k I3 fI3 hR
theorem c_mran {d : Nat} {I : IM} {D : DY} {K : Int32 → IM → Prop} {σ : SS} {p i : Nat} {x : QL} {e : EV} (hp : p < 4) (h : RMS (setQS σ p x) I) (wf : WF σ) (he : (zL σ)[i]? = some e)
    (k : ∀ I2, NFm p I I2 → RMS (setQS (hndS σ x e).1 p (hndS σ x e).2.1) I2 → K (b32 ((hndS σ x e).2.2 = true)) I2) : CI (d + 8) 253 [vR (some 106), vI (z32 (p : Int)), vI (z32 ((i + 1 : Nat) : Int))] (mm I D) K := by
  have hb : inB (z32 (p : Int)) 4 := inB_n hp (by omega)
  have hE : EVM I (zL σ) := h.1
  have hC : CSM I (zC σ) := h.2.1
  have hi := lt_of_get he
  have h240 := hE.2.1
  have hm := List.mem_of_getElem? he
  have ho := wf.1 e hm
  obtain ⟨o1, o2, o3, o4⟩ := id ho
  have hpos : inB (z32 ((i + 1 : Nat) : Int)) 241 := inB_n (by omega) (by omega)
  have ixp : ixN (z32 (p : Int)) = p := ix_n (by omega)
  have ixi : ixN (z32 ((i + 1 : Nat) : Int)) = i + 1 := ix_n (by omega)
  have hx : POM I p (some x) := by
    have := h.2.2.2.2.2.1 p hp
    have e : zQ (setQS σ p x) p = some x := if_pos rfl
    rw [e] at this
    exact this
  obtain ⟨a, ⟨b1, b2, b3, b4, b5⟩, bc, ok, wc, bl⟩ := id hx
  have c2 : I 115 (i + 1) = z32 (eK e : Int) := hE.2.2.1 i e he 2 (by omega)
  have skp : ¬ ((qlM x >>> z32 (eK e : Int)) &&& 1 = 1 ∧ valV (env3 (rdE (zC σ) e).1 (rdE (zC σ) e).2 (z32 (eS e : Int))) (qlC x) ≠ 0) → ∀ J, RFm I J → K 1 J := fun hc J fJ => by
    have eh : hndS σ x e = (σ, x, true) := if_neg hc
    rw [eh] at k
    exact k J fJ.n (h.sr fJ.s)
  refine s_M_ranOver _ _ (tsP_i hb (tsP_i hpos ?_))
  rw [ixp, ixi, b1, c2]
  refine brP_i (fun q => ?_) (fun q => qI_i (skp (fun c => ?_) I RFm.rf))
  rotate_left
  · rw [and1] at c
    exact c.1 (Classical.not_not.mp q)
  have q := (and1 _).mpr q
  -- the command
  have go : ∀ J, RFm I J → valV (env3 (rdE (zC σ) e).1 (rdE (zC σ) e).2 (z32 (eS e : Int))) (qlC x) ≠ 0 →
      CV (d + 7) 243 [vR (some 106), vI (z32 ((i + 1 : Nat) : Int))] (mm J D) (fun I2 => tsP (inB (z32 (p : Int)) 4) (tsP (inB (z32 (p : Int)) 4) (brP (¬ (I2 149 p) = 1)
 (tsP (inB (z32 (p : Int)) 4) (tsP (inB (z32 (p : Int)) 4) (tsP (inB (z32 ((i + 1 : Nat) : Int)) 241) (CI (d + 7) 209 [vR (some 106), vI (I2 113 (i + 1))] (mm (up2 (up2 (up2 I2 106 31 (I2 148 p)) 106 32 (I2 150 p)) 106 33 (I2 151 p)) D) (fun x3 I3 => brP (¬ x3 = (-3))
 (brP (x3 ≤ 0)
 (tsP (inB (z32 (p : Int)) 4) (tsP (inB (z32 (p : Int)) 4) (qI (mm I D) K (some (vI 1)) (mm (up2 I3 154 p ((I3 154 p) + 1)) D))))
 (tsP (inB (z32 (p : Int)) 4) (tsP (inB (z32 (p : Int)) 4) (qI (mm I D) K (some (vI 1)) (mm (up2 I3 153 p ((I3 153 p) + 1)) D)))))
 (qI (mm I D) K (some (vI 0)) (mm I3 D)))))))
 (CI (d + 7) 251 [vI (z32 (p : Int)), vI 1] (mm (up2 I2 106 31 (I2 148 p)) D) (fun x4 I4 => CI (d + 7) 196 [vR (some 106), vI x4] (mm I4 D) (fun x5 I5 => CI (d + 7) 40 [vI 999, vI x5] (mm I5 D) (fun x6 I6 => CI (d + 7) 39 [vI 0, vI x6] (mm I6 D) (fun x7 I7 => tsP (inB (z32 (p : Int)) 4) (tsP (inB (z32 ((i + 1 : Nat) : Int)) 241) (CI (d + 7) 209 [vR (some 106), vI (I7 113 (i + 1))] (mm (up2 (up2 I7 106 32 x7) 106 33 (I7 151 p)) D) (fun x8 I8 => brP (¬ x8 = (-3))
 (brP (x8 ≤ 0)
 (tsP (inB (z32 (p : Int)) 4) (tsP (inB (z32 (p : Int)) 4) (qI (mm I D) K (some (vI 1)) (mm (up2 I8 154 p ((I8 154 p) + 1)) D))))
 (tsP (inB (z32 (p : Int)) 4) (tsP (inB (z32 (p : Int)) 4) (qI (mm I D) K (some (vI 1)) (mm (up2 I8 153 p ((I8 153 p) + 1)) D)))))
 (qI (mm I D) K (some (vI 0)) (mm I8 D))))))))))))) := fun J fJ hv => by
    refine c_mgive (d := d + 4) (hE.st fJ.s.t) (hC.st fJ.s.t) he ho (fun I2 f2 v2 => tsP_i hb (tsP_i hb ?_))
    have fI2 := fJ.tr f2
    have g : ∀ q j, 145 ≤ q → I2 q j = I q j := fun q j _ => fI2 q j (by omega)
    have g113 : I2 113 (i + 1) = z32 (eS e : Int) := (fI2 _ _ (by omega)).trans (hE.2.2.1 i e he 0 (by omega))
    have up31 : ∀ (G : IM) (k : Nat) (v : Int32), 31 ≤ k → k ≤ 33 → NFm p I G → RMS (setQS σ p x) G → NFm p I (up2 G 106 k v) ∧ RMS (setQS σ p x) (up2 G 106 k v) := fun G k v h1 h2 h3 h4 => ⟨h3.tr (fun q j c => by rw [up2_if, if_neg (by omega)]), h4.sr (SFr.up (by unfold Sc; omega))⟩
    rw [g 148 p (by omega), g 149 p (by omega), g 150 p (by omega), g 151 p (by omega), b3, b4, g113]
    cases hk : (qlK x).2.2.2 with
    | none =>
      rw [hk] at b5
      have ea : amtV (zC σ) (qlK x) e = z32 (qlK x).2.1 := by
        unfold amtV
        rw [hk]
      rw [b5.1, b5.2]
      refine (brP_t (by decide)).mpr (tsP_i hb (tsP_i hb (tsP_i hpos ?_)))
      obtain ⟨n1, r1⟩ := up31 I2 31 (z32 (kc (qlK x).1 : Int)) (by omega) (by omega) fI2.n (h.sr fI2.s)
      obtain ⟨n2, r2⟩ := up31 _ 32 (z32 (qlK x).2.1) (by omega) (by omega) n1 r1
      obtain ⟨n3, r3⟩ := up31 _ 33 (z32 ((qlK x).2.2.1 : Int)) (by omega) (by omega) n2 r2
      refine c_masked (d := d + 1) (σ := σ) (cm := qlK x) (amt := amtV (zC σ) (qlK x) e) (show RME σ _ from RME.of (σ := setQS σ p x) r3) wf o1 ok ?_ ?_ ?_ (fun I3 f3 e3 => ran_end hp r3 n3 f3 e3 rfl ⟨q, hv⟩ k)
      · rw [up2_nj (by omega), up2_nj (by omega), up2_eq]
      · rw [up2_nj (by omega), up2_eq, ea]
      · rw [up2_eq]
    | some co =>
      rw [hk] at b5
      have ea : amtV (zC σ) (qlK x) e = cutV (valV (env3 (rdE (zC σ) e).1 (rdE (zC σ) e).2 (z32 (eS e : Int))) co) := by
        unfold amtV
        rw [hk]
      rw [b5.1]
      refine (brP_f (by decide)).mpr ?_
      rw [e_mpslot p 1 1 rfl]
      obtain ⟨n1, r1⟩ := up31 I2 31 (z32 (kc (qlK x).1 : Int)) (by omega) (by omega) fI2.n (h.sr fI2.s)
      have hF : FMc (up2 I2 106 31 (z32 (kc (qlK x).1 : Int))) (62 + 2 * p + 1) (encV co) := b5.2.mv (fun t _ _ => (up2_ne (by omega)).trans (fI2 _ _ (by omega))) ((up2_ne (by omega)).trans (fI2 _ _ (by omega)))
      refine c_worked (d := d + 6) (nv := 3) (env := env3 (rdE (zC σ) e).1 (rdE (zC σ) e).2 (z32 (eS e : Int))) (by omega) (by omega) (fun q hq => by rw [up2_ne (by omega)]; exact v2 q hq) (ok.2.2.2.2.2 co hk) hF (fun I5 f5 => ?_)
      rw [e_min, e_max]
      have n5 : NFm p I I5 := n1.tr f5.r.n
      have r5 := r1.sr f5.s
      have g5 : I5 113 (i + 1) = z32 (eS e : Int) := by rw [f5 _ _ (by omega), up2_ne (by omega)]; exact g113
      have g51 : I5 151 p = z32 ((qlK x).2.2.1 : Int) := by rw [f5 _ _ (by omega), up2_ne (by omega), g _ _ (by omega), b4]
      refine tsP_i hb (tsP_i hpos ?_)
      rw [g5, g51]
      obtain ⟨n2, r2⟩ := up31 I5 32 (amtV (zC σ) (qlK x) e) (by omega) (by omega) n5 r5
      obtain ⟨n3, r3⟩ := up31 _ 33 (z32 ((qlK x).2.2.1 : Int)) (by omega) (by omega) n2 r2
      have ec : (if (0 : Int32) < (if valV (env3 (rdE (zC σ) e).1 (rdE (zC σ) e).2 (z32 (eS e : Int))) co < 999 then valV (env3 (rdE (zC σ) e).1 (rdE (zC σ) e).2 (z32 (eS e : Int))) co else 999) then (if valV (env3 (rdE (zC σ) e).1 (rdE (zC σ) e).2 (z32 (eS e : Int))) co < 999 then valV (env3 (rdE (zC σ) e).1 (rdE (zC σ) e).2 (z32 (eS e : Int))) co else 999) else 0) = amtV (zC σ) (qlK x) e := ea.symm
      rw [ec]
      refine c_masked (d := d + 1) (σ := σ) (cm := qlK x) (amt := amtV (zC σ) (qlK x) e) (show RME σ _ from RME.of (σ := setQS σ p x) r3) wf o1 ok ?_ ?_ ?_ (fun I3 f3 e3 => ran_end hp r3 n3 f3 e3 rfl ⟨q, hv⟩ k)
      · rw [up2_nj (by omega), up2_nj (by omega), f5 _ _ (by omega), up2_eq]
      · rw [up2_nj (by omega), up2_eq]
      · rw [up2_eq]
  refine c_mgive (d := d + 4) hE hC he ho (fun I1 f1 v1 => tsP_i hb ?_)
  rw [f1 147 p (by omega)]
  refine brP_i (fun c => go I1 f1 ?_) (fun c => ?_)
  · rcases b2 with b2 | b2
    · rw [b2.2, val1]
      decide
    · exact absurd b2.1 c
  · have c : I 147 p = 1 := Classical.not_not.mp c
    rw [e_mpslot p 0 0 rfl, Nat.add_zero]
    have hF : FMc I1 (62 + 2 * p) (encV (qlC x)) := by
      rcases b2 with b2 | b2
      · rw [b2.1] at c
        exact absurd c (by decide)
      · exact b2.2.mv (fun t _ _ => f1 _ _ (by omega)) (f1 _ _ (by omega))
    refine c_worked (d := d + 6) (nv := 3) (env := env3 (rdE (zC σ) e).1 (rdE (zC σ) e).2 (z32 (eS e : Int))) (by omega) (by omega) v1 wc hF (fun I2 f2 => ?_)
    refine brP_i (fun c2 => go I2 (f1.tr f2.r) c2) (fun c2 => qI_i (skp (fun e2 => e2.2 (Classical.not_not.mp c2)) I2 (f1.tr f2.r)))
theorem mrun_loop {d : Nat} {D : DY} {K : Int32 → IM → Prop} {I0 : IM} {p n : Nat} (hp : p < 4) (hn : n ≤ 240) : ∀ (g h : Nat) (J : IM) (σ : SS) (x : QL), h + g = n → NFm p I0 J → RMS (setQS σ p x) J → WF σ → okCm (qlK x) → qlP x ≤ (zL σ).length →
    (∀ I2, NFm p I0 I2 → RMS (setQS (ranS g σ x h).1 p (ranS g σ x h).2.1) I2 → K (z32 ((ranS g σ x h).2.2 : Int)) I2) →
    Wp GG (d + 9) 252 34 [vR (some 106), vI (z32 (p : Int)), vI (z32 (n : Int)), vI (z32 (h : Int))] [] (mm J D) (qI (mm I0 D) K) := by
  have hb : inB (z32 (p : Int)) 4 := inB_n hp (by omega)
  have ixp : ixN (z32 (p : Int)) = p := ix_n (by omega)
  intro g
  induction g with
  | zero =>
    intro h J σ x hh f hR wf ok hl k
    exact s_M_run_34 _ _ _ ((brP_t (by rw [z32_le] <;> omega)).mpr ⟨_, _, rfl, rfl, k J f hR⟩)
  | succ g ih =>
    intro h J σ x hh f hR wf ok hl k
    have hE : EVM J (zL σ) := hR.1
    have h240 := hE.2.1
    have hx : POM J p (some x) := by
      have := hR.2.2.2.2.2.1 p hp
      have e : zQ (setQS σ p x) p = some x := if_pos rfl
      rw [e] at this
      exact this
    have g152 : J 152 p = z32 (qlP x : Int) := hx.2.2.1.1
    have er : ranS (g + 1) σ x h = (match (zL σ)[qlP x]? with
      | none => (σ, x, h)
      | some e => if (hndS σ x e).2.2 = true then ranS g (hndS σ x e).1 (setQ (hndS σ x e).2.1 (qlP x + 1) (qlD (hndS σ x e).2.1) (qlR (hndS σ x e).2.1)) (h + 1) else ((hndS σ x e).1, (hndS σ x e).2.1, h)) := rfl
    rw [er] at k
    refine s_M_run_34 _ _ _ ((brP_f (by rw [z32_le] <;> omega)).mpr (tsP_i hb ?_))
    rw [ixp, hE.1, g152]
    refine brP_i (fun c => ⟨_, _, rfl, rfl, ?_⟩) (fun c => tsP_i hb ?_)
    · rw [z32_le (by omega) (by omega) (by omega) (by omega)] at c
      rw [List.getElem?_eq_none (by omega)] at k
      exact k J f hR
    · rw [z32_le (by omega) (by omega) (by omega) (by omega)] at c
      obtain ⟨e, he⟩ : ∃ e, (zL σ)[qlP x]? = some e := ⟨_, List.getElem?_eq_getElem (by omega)⟩
      rw [he] at k
      have k : ∀ I2, NFm p I0 I2 → RMS (setQS (if (hndS σ x e).2.2 = true then ranS g (hndS σ x e).1 (setQ (hndS σ x e).2.1 (qlP x + 1) (qlD (hndS σ x e).2.1) (qlR (hndS σ x e).2.1)) (h + 1) else ((hndS σ x e).1, (hndS σ x e).2.1, h)).1 p (if (hndS σ x e).2.2 = true then ranS g (hndS σ x e).1 (setQ (hndS σ x e).2.1 (qlP x + 1) (qlD (hndS σ x e).2.1) (qlR (hndS σ x e).2.1)) (h + 1) else ((hndS σ x e).1, (hndS σ x e).2.1, h)).2.1) I2 → K (z32 ((if (hndS σ x e).2.2 = true then ranS g (hndS σ x e).1 (setQ (hndS σ x e).2.1 (qlP x + 1) (qlD (hndS σ x e).2.1) (qlR (hndS σ x e).2.1)) (h + 1) else ((hndS σ x e).1, (hndS σ x e).2.1, h)).2.2 : Int)) I2 := k
      have o1 := (wf.1 e (List.mem_of_getElem? he)).1
      rw [z32_s (qlP x)]
      refine c_mran (d := d) hp hR wf he (fun I2 f2 r2 => ?_)
      refine br1 (fun c1 => tsP_i hb (tsP_i hb ?_)) (fun c1 => ⟨_, _, rfl, rfl, ?_⟩)
      rotate_left
      · rw [if_neg c1] at k
        exact k I2 (f.tr f2) r2
      rw [if_pos c1] at k
      have hx2 : POM I2 p (some (hndS σ x e).2.1) := by
        have := r2.2.2.2.2.2.1 p hp
        have e : zQ (setQS (hndS σ x e).1 p (hndS σ x e).2.1) p = some (hndS σ x e).2.1 := if_pos rfl
        rw [e] at this
        exact this
      have wf2 := wf.hnd o1 ok (x := x)
      have hl2 := hnd_len (σ := σ) (x := x) (e := e)
      have hE2 : EVM I2 (zL (hndS σ x e).1) := r2.1
      have h240' := hE2.2.1
      have eP : qlP (hndS σ x e).2.1 = qlP x := by
        unfold hndS
        split
        · split
          · rfl
          · split <;> rfl
        · rfl
      have e152 : I2 152 p = z32 (qlP x : Int) := by rw [hx2.2.2.1.1, eP]
      rw [e152, z32_s (qlP x), z32_s h]
      have fu : ∀ q k, ¬ (q = 152 ∧ k = p) → up2 I2 152 p (z32 ((qlP x + 1 : Nat) : Int)) q k = I2 q k := fun q k e => by rw [up2_if, if_neg e]
      refine ih (h + 1) _ (hndS σ x e).1 (setQ (hndS σ x e).2.1 (qlP x + 1) (qlD (hndS σ x e).2.1) (qlR (hndS σ x e).2.1)) (by omega) ((f.tr f2).tr (fun q j c => fu q j (by omega))) (r2.qc hp (fun q j c => fu q j (by omega)) ⟨rfl, rfl, rfl⟩ ⟨up2_eq, (fu _ _ (by omega)).trans hx2.2.2.1.2.1, (fu _ _ (by omega)).trans hx2.2.2.1.2.2⟩ ?_) wf2 ?_ ?_ k
      · show qlP x + 1 ≤ 240
        omega
      · show okCm (qlK (hndS σ x e).2.1)
        rw [hnd_K]
        exact ok
      · show qlP x + 1 ≤ (zL (hndS σ x e).1).length
        omega
section
variable {d : Nat} {I : IM} {D : DY} {τ : ST}
theorem q_run {K : Int32 → IM → Prop} (h : RM τ I) (wf : WF (tS τ)) (p n : Int32) (k : ∀ I2, FrC I I2 → RM (S_run τ p n).1 I2 → K (S_run τ p n).2 I2) : CI (d + 100) 252 [vR (some 106), vI p, vI n] (mm I D) K := by
  unfold S_run at k
  refine s_M_run _ _ ?_
  rw [e_mpol]
  refine br0 (fun hp => ?_) (fun hp => qI_i ?_)
  rotate_left
  · rw [if_neg (fun c => hp c.1)] at k
    exact k I FrC.rf h
  rw [e_in]
  refine br1 (fun hn => ?_) (fun hn => qI_i ?_)
  rotate_left
  · rw [if_neg (fun c => hn c.2)] at k
    exact k I FrC.rf h
  have hn : 1 ≤ n ∧ n ≤ 240 := hn
  rw [if_pos ⟨hp, hn⟩] at k
  obtain ⟨pn, rfl, hpn⟩ := rng (m := 3) (by omega) hp
  obtain ⟨nn, rfl, hnn⟩ := rng1 (m := 240) (by omega) hn
  rw [aN_z (by omega), aN_z (by omega)] at k
  have hb : inB (z32 (pn : Int)) 4 := inB_n (by omega) (by omega)
  have hQ := h.Q pn (by omega)
  refine tsP_i hb ?_
  rw [ix_n (by omega)]
  cases hz : zQ (tS τ) pn with
  | none =>
    rw [hz] at hQ k
    have hQ : I 145 pn = 0 := hQ
    exact (brP_f (by rw [hQ]; decide)).mpr (qI_i (k I FrC.rf h))
  | some x =>
    rw [hz] at hQ k
    have k : ∀ J, FrC I J → RM (tT τ, setQS (ranS (nn + 1) (tS τ) x 0).1 pn (ranS (nn + 1) (tS τ) x 0).2.1, tI τ) J → K (z32 ((ranS (nn + 1) (tS τ) x 0).2.2 : Int)) J := k
    refine (brP_t (by rw [hQ.1]; decide)).mpr ?_
    have hR0 : RMS (setQS (tS τ) pn x) I := by
      have : setQS (tS τ) pn x = tS τ := by
        show wQ (tS τ) (updF (zQ (tS τ)) pn (some x)) = tS τ
        have : updF (zQ (tS τ)) pn (some x) = zQ (tS τ) := by
          funext j
          unfold updF
          by_cases c : j = pn
          · rw [if_pos c, c, hz]
          · rw [if_neg c]
        rw [this]
        rfl
      rw [this]
      exact h.2.2.1
    refine mrun_loop (d := d + 91) (I0 := I) (by omega) (by omega) (nn + 1) 0 I (tS τ) x (Nat.zero_add _) NFm.rf hR0 wf hQ.2.2.2.1 (wf.2.2.2.2.2.1 pn x (by omega) hz) (fun I2 f2 r2 => ?_)
    exact k I2 (fun q j e => f2 q j (by omega)) ⟨h.1.fr (f2 _ _ (by omega)) (fun j => f2 _ _ (by omega)), h.2.1.fr (fun j => f2 _ _ (by omega)), r2, h.2.2.2.mv (f2 _ _ (by omega)) (fun j => f2 _ _ (by omega)) (fun j hj => f2 _ _ (by omega)) (fun j hj => f2 _ _ (by omega))⟩
end
