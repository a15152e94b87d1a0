/-! The model's calls: batches, what is foreseen, attempts, what is harmless. -/
theorem hap_eq {σ : SS} {s : Nat} {cm : Cm} {amt : Int32} : zA (hapS σ s cm amt) = zA σ ∧ zP (hapS σ s cm amt) = zP σ ∧ zQ (hapS σ s cm amt) = zQ σ ∧ zE (hapS σ s cm amt) = zE σ ∧ zH (hapS σ s cm amt) = zH σ := by
  unfold hapS
  split <;> exact ⟨rfl, rfl, rfl, rfl, rfl⟩
theorem thr_eq {r : Nat} : ∀ (l : List LN) (σ : SS) (e : Nat), zA (thrS r σ l e) = zA σ ∧ zP (thrS r σ l e) = zP σ ∧ zQ (thrS r σ l e) = zQ σ ∧ zE (thrS r σ l e) = zE σ ∧ zH (thrS r σ l e) = zH σ := by
  intro l
  induction l with
  | nil => intro σ e; exact ⟨rfl, rfl, rfl, rfl, rfl⟩
  | cons x l ih =>
    intro σ e
    unfold thrS
    split
    · split
      · obtain ⟨a, b, c, f, g⟩ := ih (hapS σ x.1 x.2 (z32 x.2.2.1)) (e + evC x.2)
        obtain ⟨a2, b2, c2, f2, g2⟩ := hap_eq (σ := σ) (s := x.1) (cm := x.2) (amt := z32 x.2.2.1)
        exact ⟨a.trans a2, b.trans b2, c.trans c2, f.trans f2, g.trans g2⟩
      · exact ⟨rfl, rfl, rfl, rfl, rfl⟩
    · exact ⟨rfl, rfl, rfl, rfl, rfl⟩
theorem WF.thr {r : Nat} : ∀ (l : List LN) {σ : SS} {e : Nat}, WF σ → (∀ x ∈ l, okLn x) → WF (thrS r σ l e) := by
  intro l
  induction l with
  | nil => intro σ e h _; exact h
  | cons x l ih =>
    intro σ e h ok
    obtain ⟨hs, okc⟩ := ok x List.mem_cons_self
    unfold thrS
    split
    · split
      · exact ih (h.hap hs okc) (fun y hy => ok y (List.mem_cons_of_mem _ hy))
      · exact h
    · exact h
theorem SNM.pt {I I2 : IM} {S : SN} (h : SNM I S) (h1 : ∀ s, s < 8 → I2 122 s = I 122 s) (h2 : ∀ j, j < 32 → I2 123 j = I 123 j ∧ I2 124 j = I 124 j) : SNM I2 S := fun s hs => by
  obtain ⟨a, b, c⟩ := h s hs
  refine ⟨(h1 s hs).trans a, b, fun j x hx => ?_⟩
  have hj := (List.getElem?_eq_some_iff.mp hx).1
  obtain ⟨e, f⟩ := h2 (4 * s + j) (by omega)
  rw [e, f]
  exact c j x hx
theorem e300 (t : Nat) : (-300 : Int32) - z32 (t : Int) = z32 (-300 - (t : Int)) := by
  show z32 (-300) - _ = _
  rw [z32_sub]
/-- all is as it was before the lines were gone through -/
theorem undo {d : Nat} {I0 I1 I3 : IM} {D : DY} {K : IM → Prop} {σ : SS} {l : List LN} (h : RME σ I0) (wf : WF σ) (ok : ∀ x ∈ l, okLn x) (f1 : ∀ q k, ¬ (131 ≤ q ∧ q ≤ 133) → I1 q k = I0 q k) (ks : KS I0 I1) (f3 : HFr I1 I3) (h3 : RME (thrS (240 - (zL σ).length) σ l 0) I3)
    (k : ∀ I5, (∀ q k, ¬ ((q = 106 ∧ k = 14) ∨ q = 120 ∨ ZS q) → I5 q k = I3 q k) → RME σ I5 → K I5) : CV d 220 [vR (some 106), vI (z32 ((zL σ).length : Int))] (mm I3 D) (fun I4 => CV d 217 [vR (some 106), vI 1] (mm I4 D) K) := by
  obtain ⟨a1, a2, a3, a4, a5, a6⟩ := thr_ok (r := 240 - (zL σ).length) l σ 0 0
  have wf3 : WF (thrS (240 - (zL σ).length) σ l 0) := WF.thr l wf ok
  have hge := (thk_t (r := 240 - (zL σ).length) l (stF (zC σ) (zL σ)) 0 0).2
  refine c_mcut (L := zL (thrS (240 - (zL σ).length) σ l 0)) h3.1 (fun e he => (wf3.1 e he).1) (by omega) (fun I4 f4 e4 => c_mkeep1 (fun I5 f5 g1 g2 => k I5 (fun q k c => (f5 q k (fun z => c (Or.inr (Or.inr z)))).trans (f4 q k (fun z => c (z.elim Or.inl (fun y => Or.inr (Or.inl y)))))) ⟨?_, ?_, ?_, ?_, ?_⟩))
  · rw [a6] at e4
    exact e4.mv (fun q k z => f5 q k (by unfold ZE at z; unfold ZS; omega))
  · have := h3.2.1
    rw [a1] at this
    exact this.mv (fun q k z => (f5 q k (by unfold ZC at z; unfold ZS; omega)).trans (f4 q k (by unfold ZC at z; omega)))
  · refine h.2.2.1.pt (fun s hs => ?_) (fun j hj => ?_)
    · rw [g1 s hs, f4 _ _ (by omega), f3 _ _ (by omega)]
      exact ks.1 s hs
    · obtain ⟨b1, b2⟩ := g2 j hj
      rw [b1, b2, f4 _ _ (by omega), f4 _ _ (by omega), f3 _ _ (by omega), f3 _ _ (by omega)]
      exact ks.2 j hj
  · intro k hk
    rw [f5 _ _ (by unfold ZS; omega), f4 _ _ (by omega), h3.2.2.2.1 k hk, a2]
  · rw [f5 _ _ (by unfold ZS; omega), f4 _ _ (by omega), h3.2.2.2.2, a3]
section
variable {d : Nat} {I : IM} {D : DY} {τ : ST}
theorem q_batch {K : Int32 → IM → Prop} (h : RM τ I) (wf : WF (tS τ)) (k : ∀ I2, FrC I I2 → RM (S_batch τ).1 I2 → K (S_batch τ).2 I2) : CI (d + 100) 214 [vR (some 106)] (mm I D) K := by
  have h240 := h.E.2.1
  unfold S_batch at k
  refine s_M_batch (m_lines (d := d + 27) h.2.1 h.1 (fun l I1 h1 ok hL f1 t1 => ?_) (fun f I1 h1 f1 t1 hf g4 => ?_))
  rotate_left
  · rw [h1] at k
    refine (brP_f (by rw [z32_0, z32_lt] <;> omega)).mpr (qI_i ?_)
    rw [fl_eq g4]
    exact k I1 f1.c (h.tp f1 t1)
  rw [h1] at k
  have k : ∀ J, FrC I J → RM ([], (batS (tS τ) l).1, tI τ) J → K (batS (tS τ) l).2 J := k
  have okl : ∀ x ∈ l, okLn x := fun x hx => (ok x hx).1
  have hR1 : RMS (tS τ) I1 := h.2.2.1.st f1
  refine (brP_t (by decide)).mpr (c_mkeep0 (fun I2 f2 ks => ?_))
  have s2 : SFr I1 I2 := fun q k c => f2 q k (fun z => c (by unfold Sc; omega))
  have fB2 : BFr I I2 := f1.b.tr s2.t.b
  have hL2 : LNM I2 l := hL.sf (f2 _ _ (by omega)) (fun q k _ _ => f2 _ _ (by omega))
  have hE2 : RME (tS τ) I2 := (RME.of hR1).st s2.t
  refine c_mthrough (d := d + 92) okl hL2 hE2 wf (fun I3 f3 h3 g42 => ?_)
  have fB3 : BFr I I3 := fB2.tr f3.b
  obtain ⟨a1, a2, a3, a4, a5, a6⟩ := thr_ok (r := 240 - (zL (tS τ)).length) l (tS τ) 0 0
  obtain ⟨b1, b2, b3, b4, b5⟩ := thr_eq (r := 240 - (zL (tS τ)).length) l (tS τ) 0
  have htk := thk_t (r := 240 - (zL (tS τ)).length) l (stF (zC (tS τ)) (zL (tS τ))) 0 0
  have h40 := hL.2.1
  have e37 : I3 106 37 = z32 (l.length : Int) := (f3 _ _ (by omega)).trans hL2.1
  have e14 : I1 106 14 = z32 ((zL (tS τ)).length : Int) := hR1.1.1
  have t3 : TPm I3 [] := t1.fr ((f3 _ _ (by omega)).trans (f2 _ _ (by omega))) (fun k => (f3 _ _ (by omega)).trans (f2 _ _ (by omega)))
  have h3240 := h3.1.2.1
  rw [e37, e14]
  refine brP_i (fun q => qI_i ?_) (fun q => ?_)
  · rw [z32_le (by omega) (by omega) (by omega) (by omega)] at q
    have eb : batS (tS τ) l = (carL (tS τ) l, z32 ((thk (240 - (zL (tS τ)).length) (stF (zC (tS τ)) (zL (tS τ))) l 0 0).2.1 : Int)) := if_neg (by omega)
    have ec : carL (tS τ) l = wD (thrS (240 - (zL (tS τ)).length) (tS τ) l 0) (updF (zD (tS τ)) 0 (zD (tS τ) 0 + z32 (l.length : Int))) := carL_thr (n0 := (zL (tS τ)).length) l (tS τ) (zD (tS τ)) 0 0 rfl h240 (by omega)
    rw [eb, ec] at k
    have ea : I3 106 14 - z32 ((zL (tS τ)).length : Int) = z32 ((thk (240 - (zL (tS τ)).length) (stF (zC (tS τ)) (zL (tS τ))) l 0 0).2.1 : Int) := by
      rw [h3.1.1, z32_sub]
      congr 1
      omega
    rw [ea]
    have fu : ∀ q k, q ≠ 125 → up2 I3 125 0 (I3 125 0 + z32 (l.length : Int)) q k = I3 q k := fun q k c => up2_ne c
    have fB : BFr I (up2 I3 125 0 (I3 125 0 + z32 (l.length : Int))) := fB3.tr (fun q k c => fu q k (by omega))
    refine k _ fB.c (h.bt fB (t3.fr (fu _ _ (by omega)) (fun k => fu _ _ (by omega))) (h.2.2.1.cmd fB ⟨?_, ?_, ?_, ?_, ?_⟩ b1 b2 b3 b4 b5))
    · exact h3.1.mv (fun q k z => fu q k (by unfold ZE at z; omega))
    · exact h3.2.1.mv (fun q k z => fu q k (by unfold ZC at z; omega))
    · exact h3.2.2.1.mv (fun q k z => fu q k (by unfold ZS at z; omega))
    · intro j hj
      show _ = updF (zD (tS τ)) 0 (zD (tS τ) 0 + z32 (l.length : Int)) j
      by_cases c : j = 0
      · subst c
        rw [up2_eq, h3.2.2.2.1 0 hj, a2]
        exact (if_pos rfl).symm
      · rw [up2_nj c, h3.2.2.2.1 j hj, a2]
        exact (if_neg c).symm
    · exact (fu _ _ (by omega)).trans h3.2.2.2.2
  · rw [z32_le (by omega) (by omega) (by omega) (by omega)] at q
    have eb : batS (tS τ) l = ((if (thk (240 - (zL (tS τ)).length) (stF (zC (tS τ)) (zL (tS τ))) l 0 0).2.2.1 = true then telS (tS τ) 3 else (tS τ)), z32 (-300 - ((thk (240 - (zL (tS τ)).length) (stF (zC (tS τ)) (zL (tS τ))) l 0 0).1 : Int))) := if_pos (by omega)
    rw [eb] at k
    refine undo (I0 := I1) (RME.of hR1) wf okl f2 ks f3 h3 (fun I5 f5 h5 => ?_)
    have fB5 : BFr I I5 := fB3.tr (fun q k c => f5 q k (by unfold ZS; omega))
    have t5 : TPm I5 [] := t3.fr (f5 _ _ (by unfold ZS; omega)) (fun k => f5 _ _ (by unfold ZS; omega))
    rw [f5 106 42 (by unfold ZS; omega), g42, e300]
    refine br0 (fun q2 => qI_i ?_) (fun q2 => qI_i ?_)
    · rw [if_pos q2] at k
      have fT : BFr I (up2 I5 125 3 (I5 125 3 + 1)) := fB5.tr (fun q j e => up2_ne (by omega))
      exact k _ fT.c (h.bt fT (t5.fr (up2_ne (by omega)) (fun k => up2_ne (by omega))) (h.2.2.1.cmd fT (h5.tell (by omega)) rfl rfl rfl rfl rfl))
    · rw [if_neg q2] at k
      exact k I5 fB5.c (h.bt fB5 t5 (h.2.2.1.cmd fB5 h5 rfl rfl rfl rfl rfl))
theorem q_foresee {K : Int64 → IM → Prop} (h : RM τ I) (wf : WF (tS τ)) (s w : Int32) (k : ∀ I2, FrC I I2 → RM (S_foresee τ s w).1 I2 → K (S_foresee τ s w).2 I2) : CL (d + 100) 221 [vR (some 106), vI s, vI w] (mm I D) K := by
  have h240 := h.E.2.1
  unfold S_foresee at k
  refine s_M_foresee _ _ ?_
  rw [e_mstream]
  refine br0 (fun hs => ?_) (fun hs => qL_i ?_)
  rotate_left
  · rw [if_neg (fun c => hs c.1)] at k
    exact k I FrC.rf h
  rw [e_in]
  refine br1 (fun hw => ?_) (fun hw => qL_i ?_)
  rotate_left
  · rw [if_neg (fun c => hw c.2)] at k
    exact k I FrC.rf h
  rw [if_pos ⟨hs, hw⟩] at k
  obtain ⟨sn, rfl, hsn⟩ := rng (m := 7) (by omega) hs
  obtain ⟨wn, rfl, hwn⟩ := rng (m := 5) (by omega) hw
  rw [aN_z (by omega), aN_z (by omega)] at k
  refine m_lines (d := d + 27) h.2.1 h.1 (fun l I1 h1 ok hL f1 t1 => ?_) (fun f I1 h1 f1 t1 hf g4 => ?_)
  rotate_left
  · rw [h1] at k
    refine (brP_f (by rw [z32_0, z32_lt] <;> omega)).mpr (qL_i ?_)
    rw [g4]
    exact k I1 f1.c (h.tp f1 t1)
  rw [h1] at k
  have okl : ∀ x ∈ l, okLn x := fun x hx => (ok x hx).1
  have hR1 : RMS (tS τ) I1 := h.2.2.1.st f1
  refine (brP_t (by decide)).mpr (c_mkeep0 (fun I2 f2 ks => ?_))
  have s2 : SFr I1 I2 := fun q k c => f2 q k (fun z => c (by unfold Sc; omega))
  have fB2 : BFr I I2 := f1.b.tr s2.t.b
  have hL2 : LNM I2 l := hL.sf (f2 _ _ (by omega)) (fun q k _ _ => f2 _ _ (by omega))
  have hE2 : RME (tS τ) I2 := (RME.of hR1).st s2.t
  refine c_mthrough (d := d + 92) okl hL2 hE2 wf (fun I3 f3 h3 g42 => ?_)
  have fB3 : BFr I I3 := fB2.tr f3.b
  obtain ⟨a1, a2, a3, a4, a5, a6⟩ := thr_ok (r := 240 - (zL (tS τ)).length) l (tS τ) 0 0
  have htk := thk_t (r := 240 - (zL (tS τ)).length) l (stF (zC (tS τ)) (zL (tS τ))) 0 0
  have h40 := hL.2.1
  have e14 : I1 106 14 = z32 ((zL (tS τ)).length : Int) := hR1.1.1
  have t3 : TPm I3 [] := t1.fr ((f3 _ _ (by omega)).trans (f2 _ _ (by omega))) (fun k => (f3 _ _ (by omega)).trans (f2 _ _ (by omega)))
  have h3240 := h3.1.2.1
  have wf3 : WF (thrS (240 - (zL (tS τ)).length) (tS τ) l 0) := WF.thr l wf okl
  refine c_mfoldNow (d := d + 95) h3.1 h3.2.1 wf3.1 wf3.2.1 (by omega) (fun I6 f6 x6 => ?_)
  rw [e14]
  have h6 := h3.st f6.s.t
  refine undo (I0 := I1) (RME.of hR1) wf okl f2 ks (f3.tr f6.h) h6 (fun I5 f5 h5 => ?_)
  have fB5 : BFr I I5 := (fB3.tr f6.s.t.b).tr (fun q k c => f5 q k (by unfold ZS; omega))
  have t5 : TPm I5 [] := (t3.sf f6.s).fr (f5 _ _ (by unfold ZS; omega)) (fun k => f5 _ _ (by unfold ZS; omega))
  have fin := k I5 fB5.c (h.bt fB5 t5 (h.2.2.1.cmd fB5 h5 rfl rfl rfl rfl rfl))
  dsimp only at fin
  refine brP_i (fun q => brP_i (fun q2 => ?_) (fun q2 => qL_i ?_)) (fun q => qL_i ?_)
  · have n0 : wn ≠ 0 := fun e => q (by rw [e]; rfl)
    have n1 : wn ≠ 1 := fun e => q2 (by rw [e]; rfl)
    rw [if_pos (show (2 : Int32) ≤ z32 (wn : Int) by show z32 2 ≤ _; rw [z32_le] <;> omega)] at fin
    have e2 : z32 (wn : Int) - 2 = z32 ((wn - 2 : Nat) : Int) := by
      show _ - z32 2 = _
      rw [z32_sub]
      congr 1
      omega
    rw [e2]
    refine tsP_i (inB_n (by omega) (by omega)) (qL_i ?_)
    rw [ix_n (by omega), f5 121 _ (by unfold ZS; omega), x6 _ (by omega), a1, a5]
    exact fin
  · have n1 : z32 (wn : Int) = 1 := Classical.not_not.mp q2
    rw [if_neg (by rw [n1]; decide), if_neg q] at fin
    have ea : I3 106 14 - z32 ((zL (tS τ)).length : Int) = z32 ((thk (240 - (zL (tS τ)).length) (stF (zC (tS τ)) (zL (tS τ))) l 0 0).2.1 : Int) := by
      rw [h3.1.1, z32_sub]
      congr 1
      omega
    rw [ea]
    exact fin
  · have n0 : z32 (wn : Int) = 0 := Classical.not_not.mp q
    rw [if_neg (by rw [n0]; decide), if_pos n0] at fin
    exact fin
theorem harm_loop {K : Int32 → IM → Prop} {L : List EV} {s : Nat} {v m : Int32} (hE : EVM I L) (hm : I 106 75 = m) (hs : s < 8) (hes : ∀ e ∈ L, eS e < 8) : ∀ (l : List EV) (i : Nat), L.drop i = l → i ≤ L.length → K (onlL m s v l) I →
    Wp GG d 259 2 [vR (some 106), vI (z32 (s : Int)), vI v, vI (z32 ((i + 1 : Nat) : Int))] [] (mm I D) (qI (mm I D) K) := by
  have h240 := hE.2.1
  intro l
  induction l with
  | nil =>
    intro i hd hi k
    have : L.length ≤ i := List.drop_eq_nil_iff.mp hd
    refine s_M_allHarmless_2 _ _ _ ?_
    rw [hE.1]
    exact (brP_t (by rw [z32_lt] <;> omega)).mpr (qI_i k)
  | cons e l ih =>
    intro i hd hi k
    obtain ⟨hj, hx, hd2⟩ := get_drop hd
    have c0 : I 113 (i + 1) = z32 (eS e : Int) := hE.2.2.1 i e hx 0 (by omega)
    have c1 : I 114 (i + 1) = z32 (eV e : Int) := hE.2.2.1 i e hx 1 (by omega)
    have c2 : I 115 (i + 1) = z32 (eK e : Int) := hE.2.2.1 i e hx 2 (by omega)
    have he8 := hes e (List.mem_of_getElem? hx)
    have hp : inB (z32 ((i + 1 : Nat) : Int)) 241 := inB_n (by omega) (by omega)
    have k : K (if eS e = s then (if z32 (eV e : Int) ≤ v then onlL m s v l else if (m >>> z32 (eK e : Int)) &&& 1 = 0 then 0 else onlL m s v l) else onlL m s v l) I := k
    refine s_M_allHarmless_2 _ _ _ ?_
    rw [hE.1]
    refine (brP_f (by rw [z32_lt] <;> omega)).mpr (tsP_i hp ?_)
    rw [ix_n (by omega), c0, c1, c2, hm, z32_s]
    refine brP_i (fun q => ?_) (fun q => tsP_i hp (brP_i (fun q2 => ?_) (fun q2 => tsP_i hp (brP_i (fun q3 => ?_) (fun q3 => qI_i ?_)))))
    · rw [if_neg (fun c => q (by rw [c]))] at k
      exact ih (i + 1) hd2 hj k
    · have q := Classical.not_not.mp q
      rw [z32_inj (by omega) (by omega) (by omega) (by omega)] at q
      rw [if_pos (by omega), if_pos q2] at k
      exact ih (i + 1) hd2 hj k
    · have q := Classical.not_not.mp q
      rw [z32_inj (by omega) (by omega) (by omega) (by omega)] at q
      rw [if_pos (by omega), if_neg q2, if_neg q3] at k
      exact ih (i + 1) hd2 hj k
    · have q := Classical.not_not.mp q
      rw [z32_inj (by omega) (by omega) (by omega) (by omega)] at q
      rw [if_pos (by omega), if_neg q2, if_pos (Classical.not_not.mp q3)] at k
      exact k
theorem q_attempt {K : Int32 → IM → Prop} (h : RM τ I) (wf : WF (tS τ)) (c w : Int32) (k : ∀ I2, FrC I I2 → RM (S_attempt τ c w).1 I2 → K (S_attempt τ c w).2 I2) : CI (d + 100) 258 [vR (some 106), vI c, vI w] (mm I D) K := by
  have h240 := h.E.2.1
  unfold S_attempt at k
  refine s_M_attempt _ _ ?_
  rw [e_mcli]
  refine br0 (fun hc => ?_) (fun hc => qI_i ?_)
  rotate_left
  · rw [if_neg (fun e => hc e.1)] at k
    exact k I FrC.rf h
  rw [e_in]
  refine br1 (fun hw => ?_) (fun hw => qI_i ?_)
  rotate_left
  · rw [if_neg (fun e => hw e.2)] at k
    exact k I FrC.rf h
  rw [if_pos ⟨hc, hw⟩] at k
  obtain ⟨cn, rfl, hcn⟩ := rng (m := 3) (by omega) hc
  obtain ⟨wn, rfl, hwn⟩ := rng (m := 1) (by omega) hw
  rw [aN_z (by omega)] at k
  have hb : inB (z32 (cn : Int)) 4 := inB_n (by omega) (by omega)
  have ixc : ixN (z32 (cn : Int)) = cn := ix_n (by omega)
  have hY := h.Y cn (by omega)
  refine tsP_i hb ?_
  rw [ixc]
  cases hE : zE (tS τ) cn with
  | none =>
    rw [hE] at hY k
    have hY : I 155 cn = 0 := hY
    exact (brP_f (by rw [hY]; decide)).mpr (qI_i (k I FrC.rf h))
  | some sv =>
    obtain ⟨s, v⟩ := sv
    rw [hE] at hY k
    obtain ⟨y1, y2, y3, y4, y5⟩ := hY
    refine (brP_t (by rw [y1]; decide)).mpr ?_
    refine m_alone (d := d + 28) h.2.1 h.1 (fun cm I2 h1 ok f2 t2 g31 g32 g33 => ?_) (fun f I2 h1 f2 t2 g4 hf => ?_)
    rotate_left
    · dsimp only at k
      rw [h1] at k
      refine (brP_f (by rw [z32_0, z32_lt] <;> omega)).mpr (qI_i ?_)
      rw [fl_eq g4]
      exact k I2 f2.c (h.tp f2 t2)
    dsimp only at k
    rw [h1] at k
    have k : ∀ J, FrC I J → RM ([], (tryS (tS τ) cn s v (decide (z32 (wn : Int) = 1)) cm).1, tI τ) J → K (tryS (tS τ) cn s v (decide (z32 (wn : Int) = 1)) cm).2 J := k
    have hS2 : RMS (tS τ) I2 := h.2.2.1.st f2
    have e156 : I2 156 cn = z32 (s : Int) := (f2 _ _ (by unfold Sc; omega)).trans y2
    have e157 : I2 157 cn = z32 (v : Int) := (f2 _ _ (by unfold Sc; omega)).trans y3
    have hb8 : inB (z32 (s : Int)) 8 := inB_n y4 (by omega)
    have ixs : ixN (z32 (s : Int)) = s := ix_n (by omega)
    refine (brP_t (by decide)).mpr (tsP_i hb ?_)
    rw [e156, e157, ixs, hS2.1.2.2.2 s y4]
    have eT : ∀ fg, tryS (tS τ) cn s v fg cm = if z32 (vrS (zL (tS τ)) s : Int) = z32 (v : Int) ∨ (fg = true ∧ onlL (zH (tS τ)) s (z32 (v : Int)) (zL (tS τ)) ≠ 0) then
      ((if 0 < (carS (tS τ) s cm (z32 cm.2.1)).2 then wE (carS (tS τ) s cm (z32 cm.2.1)).1 (updF (zE (carS (tS τ) s cm (z32 cm.2.1)).1) cn (some (s, vrS (zL (carS (tS τ) s cm (z32 cm.2.1)).1) s))) else (carS (tS τ) s cm (z32 cm.2.1)).1), (carS (tS τ) s cm (z32 cm.2.1)).2)
      else (telS (tS τ) 2, -4) := fun fg => rfl
    rw [eT] at k
    have go : ∀ I3, SFt I I3 → TPm I3 [] → I3 106 31 = z32 (kc cm.1 : Int) → I3 106 32 = z32 cm.2.1 → I3 106 33 = z32 (cm.2.2.1 : Int) → (z32 (vrS (zL (tS τ)) s : Int) = z32 (v : Int) ∨ (decide (z32 (wn : Int) = 1) = true ∧ onlL (zH (tS τ)) s (z32 (v : Int)) (zL (tS τ)) ≠ 0)) →
        CI (d + 99) 209 [vR (some 106), vI (z32 (s : Int))] (mm I3 D) (fun x4 I4 => brP (x4 ≤ 0)
        (qI (mm I D) K (some (vI x4)) (mm I4 D))
        (tsP (inB (z32 (s : Int)) 8) (tsP (inB (z32 (cn : Int)) 4) (qI (mm I D) K (some (vI x4)) (mm (up2 I4 157 cn (I4 120 s)) D))))) := fun I3 f3 t3 g31 g32 g33 hex => by
      rw [if_pos hex] at k
      refine c_masked (d := d + 93) (σ := tS τ) (RME.of (h.2.2.1.st f3)) wf y4 ok g31 g32 g33 (fun I4 f4 h4 => ?_)
      have fB : BFr I I4 := f3.b.tr f4.b
      obtain ⟨q1, q2, q3, q4, q5, q6⟩ := carS_eq (σ := tS τ) (s := s) (cm := cm) (amt := z32 cm.2.1)
      have hR := h.2.2.1.cmd fB h4 q1 q2 q3 q4 q5
      have hT4 : TPm I4 [] := t3.fr (f4 _ _ (by omega)) (fun k => f4 _ _ (by omega))
      refine brP_i (fun c1 => qI_i ?_) (fun c1 => tsP_i hb8 (tsP_i hb (qI_i ?_)))
      · rw [if_neg (Int32.not_lt.mpr c1)] at k
        exact k I4 fB.c (h.bt fB hT4 hR)
      · rw [if_pos (Int32.not_le.mp c1)] at k
        rw [h4.1.2.2.2 s y4]
        have hvr := vrS_le (L := zL (carS (tS τ) s cm (z32 cm.2.1)).1) (s := s)
        have h4l := h4.1.2.1
        have fu : ∀ q k, ¬ (q = 157 ∧ k = cn) → up2 I4 157 cn (z32 (vrS (zL (carS (tS τ) s cm (z32 cm.2.1)).1) s : Int)) q k = I4 q k := fun q k e => by rw [up2_if, if_neg e]
        refine k _ (fun q k e => (fu q k (by omega)).trans (fB.c q k e)) ⟨hT4.fr (fu _ _ (by omega)) (fun k => fu _ _ (by omega)), (h.2.1.b fB).fr (fun k => fu _ _ (by omega)), ?_, (h.2.2.2.b fB).mv (fu _ _ (by omega)) (fun k => fu _ _ (by omega)) (fun k hk => fu _ _ (by omega)) (fun k hk => fu _ _ (by omega))⟩
        obtain ⟨a, b, c, e, p, g, y, l, v2, u⟩ := hR
        refine ⟨a.mv (fun q k z => fu q k (by unfold ZE at z; omega)), b.mv (fun q k z => fu q k (by unfold ZC at z; omega)), c.mv (fun q k z => fu q k (by unfold ZS at z; omega)), fun j hj => (fu _ _ (by omega)).trans (e j hj), p.mv (fun q k z => fu q k (by unfold ZP at z; omega)), g.mv (fun q k z => fu q k (by unfold ZQ at z; omega)), fun j hj => ?_, fun k hk => (fu _ _ (by omega)).trans (l k hk), (fu _ _ (by omega)).trans v2, (fu _ _ (by omega)).trans u⟩
        show SEM _ j (updF (zE (carS (tS τ) s cm (z32 cm.2.1)).1) cn (some (s, vrS (zL (carS (tS τ) s cm (z32 cm.2.1)).1) s)) j)
        by_cases q : j = cn
        · subst q
          have e1 : updF (zE (carS (tS τ) s cm (z32 cm.2.1)).1) j (some (s, vrS (zL (carS (tS τ) s cm (z32 cm.2.1)).1) s)) j = some (s, vrS (zL (carS (tS τ) s cm (z32 cm.2.1)).1) s) := if_pos rfl
          rw [e1]
          have yj := y j hj
          have hEj : zE (carS (tS τ) s cm (z32 cm.2.1)).1 j = some (s, v) := by rw [q4]; exact hE
          rw [hEj] at yj
          exact ⟨(fu _ _ (by omega)).trans yj.1, (fu _ _ (by omega)).trans yj.2.1, up2_eq, y4, by omega⟩
        · have e1 : updF (zE (carS (tS τ) s cm (z32 cm.2.1)).1) cn (some (s, vrS (zL (carS (tS τ) s cm (z32 cm.2.1)).1) s)) j = zE (carS (tS τ) s cm (z32 cm.2.1)).1 j := if_neg q
          rw [e1]
          exact (y j hj).mv (fun q2 _ _ => fu _ _ (by omega))
    refine tsP_i hb8 (tsP_i hb (brP_i (fun c1 => go I2 f2 t2 g31 g32 g33 (Or.inl c1)) (fun c1 => brP_i (fun c2 => qI_i ?_) (fun c2 => tsP_i hb ?_))))
    · have : ¬ (z32 (vrS (zL (tS τ)) s : Int) = z32 (v : Int) ∨ (decide (z32 (wn : Int) = 1) = true ∧ onlL (zH (tS τ)) s (z32 (v : Int)) (zL (tS τ)) ≠ 0)) := fun q => by
        rcases q with q | q
        · exact c1 q
        · have := of_decide_eq_true q.1
          rw [c2] at this
          exact absurd this (by decide)
      rw [if_neg this] at k
      have hT := (RME.of hS2).tell (k := 2) (by omega)
      have fT : BFr I (up2 I2 125 2 (I2 125 2 + 1)) := f2.b.tr (fun q j e => up2_ne (by omega))
      exact k _ fT.c (h.bt fT (t2.fr (up2_ne (by omega)) (fun k => up2_ne (by omega))) (h.2.2.1.cmd fT hT rfl rfl rfl rfl rfl))
    · have w1 : z32 (wn : Int) = 1 := by
        rcases (by omega : wn = 0 ∨ wn = 1) with e | e
        · exact absurd (by rw [e]; rfl) c2
        · rw [e]; rfl
      have hal : CI (d + 99) 259 [vR (some 106), vI (z32 (s : Int)), vI (z32 (v : Int))] (mm I2 D) (fun x I3 => x = onlL (zH (tS τ)) s (z32 (v : Int)) (zL (tS τ)) ∧ I3 = I2) :=
        s_M_allHarmless _ _ (harm_loop (d := d + 99) hS2.1 hS2.2.2.2.2.2.2.2.2.2 y4 (fun e he => (wf.1 e he).1) (zL (tS τ)) 0 rfl (Nat.zero_le _) ⟨rfl, rfl⟩)
      rw [CI_iff hal]
      refine brP_i (fun c3 => ?_) (fun c3 => qI_i ?_)
      · exact go I2 f2 t2 g31 g32 g33 (Or.inr ⟨decide_eq_true w1, c3⟩)
      · have : ¬ (z32 (vrS (zL (tS τ)) s : Int) = z32 (v : Int) ∨ (decide (z32 (wn : Int) = 1) = true ∧ onlL (zH (tS τ)) s (z32 (v : Int)) (zL (tS τ)) ≠ 0)) := fun q => by
          rcases q with q | q
          · exact c1 q
          · exact c3 q.2
        rw [if_neg this] at k
        have hT := (RME.of hS2).tell (k := 2) (by omega)
        have fT : BFr I (up2 I2 125 2 (I2 125 2 + 1)) := f2.b.tr (fun q j e => up2_ne (by omega))
        exact k _ fT.c (h.bt fT (t2.fr (up2_ne (by omega)) (fun k => up2_ne (by omega))) (h.2.2.1.cmd fT hT rfl rfl rfl rfl rfl))
/-- how many kinds -/
def hmS (m : Int32) : Nat → Nat → Int32 → Int32
  | 0, _, n => n
  | g + 1, i, n => hmS m g (i + 1) (n + ((m >>> z32 (i : Int)) &&& 1))
theorem hmS_bc : ∀ m : Nat, m < 512 → hmS (z32 (m : Int)) 9 0 0 = bcF (z32 (m : Int)) := by decide +kernel
theorem hm_loop {Q : Option PV → PM → Prop} {m : Int32} : ∀ (g i : Nat) (n : Int32), i + g = 9 → Q (some (vI (hmS m g i n))) (mm I D) → Wp GG (d + 1) 257 44 [vR (some 106), vI m, vI n, vI (z32 (i : Int))] [] (mm I D) Q := by
  intro g
  induction g with
  | zero =>
    intro i n hi k
    obtain rfl : i = 9 := by omega
    exact s_M_harmless_44 _ _ _ ((brP_t (by decide)).mpr k)
  | succ g ih =>
    intro i n hi k
    refine s_M_harmless_44 _ _ _ ((brP_f (by show ¬ z32 9 ≤ _; rw [z32_le] <;> omega)).mpr ?_)
    rw [z32_s]
    exact ih (i + 1) _ (by omega) k
theorem q_harmless {K : Int32 → IM → Prop} (h : RM τ I) (k : ∀ I2, FrC I I2 → RM (S_harmless τ).1 I2 → K (S_harmless τ).2 I2) : CI (d + 100) 257 [vR (some 106)] (mm I D) K := by
  have h160 := h.1.2.1
  unfold S_harmless at k
  refine s_M_harmless (m_begin h.1 (fun I1 f1 M1 => ?_))
  have set : ∀ (J : IM) (v : Int32), SFt I J → TPm J [] → BFr I J → FrC I (up2 J 106 75 v) ∧ RM ([], wH (tS τ) v, tI τ) (up2 J 106 75 v) := fun J v f t fB => by
    have fu : ∀ q k, ¬ (q = 106 ∧ k = 75) → up2 J 106 75 v q k = J q k := fun q k e => by rw [up2_if, if_neg e]
    refine ⟨fun q k e => (fu q k (by omega)).trans (f.c q k e), t.fr (fu _ _ (by omega)) (fun k => fu _ _ (by omega)), (h.2.1.b fB).fr (fun k => fu _ _ (by omega)), ?_, (h.2.2.2.b fB).mv (fu _ _ (by omega)) (fun k => fu _ _ (by omega)) (fun k hk => fu _ _ (by omega)) (fun k hk => fu _ _ (by omega))⟩
    obtain ⟨a, b, c, e, p, g, y, l, v2, u⟩ := h.2.2.1.st f
    exact ⟨a.mv (fun q k z => fu q k (by unfold ZE at z; omega)), b.mv (fun q k z => fu q k (by unfold ZC at z; omega)), c.mv (fun q k z => fu q k (by unfold ZS at z; omega)), fun j hj => (fu _ _ (by omega)).trans (e j hj), p.mv (fun q k z => fu q k (by unfold ZP at z; omega)), g.mv (fun q k z => fu q k (by unfold ZQ at z; omega)), y.mv (fun q k z => fu q k (by unfold ZY at z; omega)), fun k hk => (fu _ _ (by omega)).trans (l k hk), (fu _ _ (by omega)).trans v2, up2_eq⟩
  rw [M1.1.1]
  refine brP_i (fun q => ?_) (fun q => ?_)
  · have hne : ¬ (tT τ).length = 0 := fun e => q (by rw [e]; rfl)
    rw [if_neg hne] at k
    refine m_kinds (d := d + 96) (h.2.1.nf f1) M1 (fun x I2 f2 M2 hv => ?_)
    rw [sq_inl] at M2 hv
    refine m_end_br (d := d + 98) M2 (fun m I3 h1 h2 h3 h4 => ?_) (fun f I3 h1 h3 h4 h5 h6 h7 => ?_)
    · have h1 : allP (tT τ) (kdP (tT τ)) = .inl m := h1
      rw [h1] at k
      have k : ∀ J, FrC I J → RM ([], wH (tS τ) m, tI τ) J → K (bcF m) J := k
      obtain rfl := hv m [] h2
      obtain ⟨mn, hm, rfl⟩ := kdP_m h2
      have fI := f1.s.t.tr (f2.s.t.tr h3.t)
      obtain ⟨s1, s2⟩ := set I3 (z32 (mn : Int)) fI h4 fI.b
      refine hm_loop (d := d + 99) 9 0 0 rfl (qI_i ?_)
      rw [hmS_bc mn hm]
      exact k _ s1 s2
    · have h1 : allP (tT τ) (kdP (tT τ)) = .inr f := h1
      rw [h1] at k
      refine qI_i ?_
      rw [h6]
      have fI := f1.s.t.tr (f2.s.t.tr h3.t)
      exact k I3 fI.c (h.tp fI h4)
  · have q : z32 ((tT τ).length : Int) = z32 0 := Classical.not_not.mp q
    rw [z32_inj (by omega) (by omega) (by omega) (by omega)] at q
    have hz : (tT τ).length = 0 := by omega
    have hnil : tT τ = [] := List.eq_nil_of_length_eq_zero hz
    rw [if_pos hz, hnil] at k
    rw [hnil] at M1
    refine m_end_br (d := d + 98) (q := (.inl ((), []) : PR Unit)) M1 (fun m I3 h1 h2 h3 h4 => ?_) (fun f I3 h1 h3 h4 h5 h6 h7 => by cases h1)
    have fI := f1.s.t.tr h3.t
    obtain ⟨s1, s2⟩ := set I3 0 fI h4 fI.b
    refine hm_loop (d := d + 99) 9 0 0 rfl (qI_i ?_)
    have e0 : hmS 0 9 0 0 = 0 := by decide
    rw [e0]
    exact k _ s1 s2
end
