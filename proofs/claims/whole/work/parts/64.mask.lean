/-! The model asks a command of a stream. -/
def RME (σ : SS) (G : IM) : Prop := EVM G (zL σ) ∧ CSM G (zC σ) ∧ SNM G (zN σ) ∧ (∀ k, k < 7 → G 125 k = zD σ k) ∧ G 106 23 = z32 (zV σ : Int)
def AFr (I I2 : IM) : Prop := ∀ q k, ¬ ((q = 106 ∧ k = 14) ∨ (113 ≤ q ∧ q ≤ 118) ∨ q = 120 ∨ (122 ≤ q ∧ q ≤ 124)) → I2 q k = I q k
def CFr (I I2 : IM) : Prop := ∀ q k, ¬ ((q = 106 ∧ (k = 14 ∨ k = 25 ∨ k = 26)) ∨ q = 111 ∨ (q = 112 ∧ k < 3) ∨ (113 ≤ q ∧ q ≤ 118) ∨ q = 120 ∨ q = 121 ∨ (122 ≤ q ∧ q ≤ 125)) → I2 q k = I q k
def BFr (I I2 : IM) : Prop := ∀ q k, ¬ (Sc q k ∨ (q = 106 ∧ (k = 2 ∨ k = 14)) ∨ (q = 110 ∧ 70 ≤ k ∧ k < 80) ∨ (113 ≤ q ∧ q ≤ 118) ∨ q = 120 ∨ (122 ≤ q ∧ q ≤ 125)) → I2 q k = I q k
theorem AFr.rf {I : IM} : AFr I I := fun _ _ _ => rfl
theorem AFr.tr {I I2 I3 : IM} (h : AFr I I2) (h2 : AFr I2 I3) : AFr I I3 := fun q k e => (h2 q k e).trans (h q k e)
theorem AFr.c {I I2 : IM} (h : AFr I I2) : CFr I I2 := fun q k e => h q k (by omega)
theorem CFr.rf {I : IM} : CFr I I := fun _ _ _ => rfl
theorem CFr.tr {I I2 I3 : IM} (h : CFr I I2) (h2 : CFr I2 I3) : CFr I I3 := fun q k e => (h2 q k e).trans (h q k e)
theorem FoF.c {I I2 : IM} (h : FoF I I2) : CFr I I2 := fun q k e => h q k (by omega)
theorem BFr.tr {I I2 I3 : IM} (h : BFr I I2) (h2 : BFr I2 I3) : BFr I I3 := fun q k e => (h2 q k e).trans (h q k e)
theorem CFr.b {I I2 : IM} (h : CFr I I2) : BFr I I2 := fun q k e => h q k (fun c => e (by unfold Sc; omega))
theorem SFt.b {I I2 : IM} (h : SFt I I2) : BFr I I2 := fun q k e => h q k (fun c => e (c.elim Or.inl (fun h => h.elim (fun h => Or.inr (Or.inl ⟨h.1, Or.inl h.2⟩)) (fun h => Or.inr (Or.inr (Or.inl h))))))
theorem BFr.c {I I2 : IM} (h : BFr I I2) : FrC I I2 := fun q k e => h q k (by unfold Sc; omega)
theorem RME.of {σ : SS} {I : IM} (h : RMS σ I) : RME σ I := ⟨h.1, h.2.1, h.2.2.1, h.2.2.2.2.2.2.2.1, h.2.2.2.2.2.2.2.2.1⟩
theorem RME.st {σ : SS} {I I2 : IM} (h : RME σ I) (hf : SFt I I2) : RME σ I2 := ⟨h.1.st hf, h.2.1.st hf, h.2.2.1.mv (fun q k z => hf q k (by unfold ZS at z; unfold Sc; omega)), fun k hk => (hf _ _ (by unfold Sc; omega)).trans (h.2.2.2.1 k hk), (hf _ _ (by unfold Sc; omega)).trans h.2.2.2.2⟩
theorem RMS.cmd {σ σ2 : SS} {I I2 : IM} (h : RMS σ I) (f : BFr I I2) (e : RME σ2 I2) (eA : zA σ2 = zA σ) (eP : zP σ2 = zP σ) (eQ : zQ σ2 = zQ σ) (eE : zE σ2 = zE σ) (eH : zH σ2 = zH σ) : RMS σ2 I2 := by
  obtain ⟨_, _, _, a, p, q, y, _, _, u⟩ := h
  refine ⟨e.1, e.2.1, e.2.2.1, fun k hk => ?_, ?_, ?_, ?_, e.2.2.2.1, e.2.2.2.2, ?_⟩
  · rw [eA]
    exact (f _ _ (by unfold Sc; omega)).trans (a k hk)
  · rw [eP]
    exact p.mv (fun q k z => f q k (by unfold ZP at z; unfold Sc; omega))
  · rw [eQ]
    exact q.mv (fun q k z => f q k (by unfold ZQ at z; unfold Sc; omega))
  · rw [eE]
    exact y.mv (fun q k z => f q k (by unfold ZY at z; unfold Sc; omega))
  · rw [eH]
    exact (f _ _ (by unfold Sc; omega)).trans u
theorem IMP.b {κ : Option SS} {I I2 : IM} (h : IMP κ I) (f : BFr I I2) : IMP κ I2 := h.mv (f _ _ (by unfold Sc; omega)) (fun k => f _ _ (by unfold Sc; omega)) (fun k hk => f _ _ (by unfold Sc; omega)) (fun k hk => f _ _ (by unfold Sc; omega))
theorem WRD.b {I I2 : IM} (h : WRD I) (f : BFr I I2) : WRD I2 := h.fr (fun k => f _ _ (by unfold Sc; omega))
theorem EVM.com {I I2 : IM} {L : List EV} {e : EV} (h : EVM I L) (hr : L.length < 240) (h14 : I2 106 14 = z32 ((L.length + 1 : Nat) : Int)) (hn : ∀ c, c < 6 → I2 (113 + c) (L.length + 1) = colE c e) (ho : ∀ c k, c < 6 → k ≠ L.length + 1 → I2 (113 + c) k = I (113 + c) k) (hv : ∀ t, t < 8 → I2 120 t = z32 ((vrS L t + (if eS e = t then 1 else 0) : Nat) : Int)) : EVM I2 (L ++ [e]) := by
  have hl : (L ++ [e]).length = L.length + 1 := by rw [List.length_append]; rfl
  refine ⟨by rw [h14, hl], by omega, fun i x hx c hc => ?_, fun t ht => ?_⟩
  · rcases Nat.lt_or_ge i L.length with q | q
    · rw [List.getElem?_append_left q] at hx
      rw [ho c (i + 1) hc (by omega)]
      exact h.2.2.1 i x hx c hc
    · have hi : i = L.length := by
        have := (List.getElem?_eq_some_iff.mp hx).1
        omega
      subst hi
      rw [List.getElem?_append_right (Nat.le_refl _), Nat.sub_self] at hx
      cases hx
      exact hn c hc
  · rw [hv t ht]
    congr 2
    unfold vrS
    rw [List.filter_append, List.length_append]
    congr 1
    by_cases q : eS e = t
    · rw [if_pos q, List.filter_cons, if_pos (by rw [q]; simp)]
      rfl
    · rw [if_neg q, List.filter_cons, if_neg (by simp [q])]
      rfl
theorem c_mcome {d : Nat} {I : IM} {D : DY} {K : IM → Prop} {σ : SS} {s kd : Nat} {a b : Int32} (h : RME σ I) (hs : s < 8) (hk : kd < 9) (hr : (zL σ).length < 240) (hv : zV σ ≤ 20) (k : ∀ I2, AFr I I2 → RME (comS σ s kd a b) I2 → K I2) :
    CV (d + 1) 213 [vR (some 106), vI (z32 (s : Int)), vI (z32 (kd : Int)), vI a, vI b] (mm I D) K := by
  obtain ⟨hE, hC, hN, hL, hV⟩ := id h
  have hvr := vrS_le (L := zL σ) (s := s)
  have he27 := eraC_le hC.2.2.1.1
  have hs8 : inB (z32 (s : Int)) 8 := inB_n hs (by omega)
  have hp : inB (z32 (((zL σ).length + 1 : Nat) : Int)) 241 := inB_n (by omega) (by omega)
  have ixs : ixN (z32 (s : Int)) = s := ix_n (by omega)
  have ixk : ixN (z32 (kd : Int)) = kd := ix_n (by omega)
  have ixp : ixN (z32 (((zL σ).length + 1 : Nat) : Int)) = (zL σ).length + 1 := ix_n (by omega)
  have e14 : I 106 14 + 1 = z32 (((zL σ).length + 1 : Nat) : Int) := by rw [hE.1, z32_s]
  refine s_M_addEvent _ _ _ _ ?_
  rw [e14, ixs, ixk, ixp, hE.2.2.2 s hs, hC.2.1 kd hk, hV, up2_eq, z32_s, z32_s]
  have hM : ∀ (G : IM), (∀ q k, ¬ ((q = 106 ∧ k = 14) ∨ (113 ≤ q ∧ q ≤ 118 ∧ k = (zL σ).length + 1) ∨ (q = 120 ∧ k = s)) → G q k = I q k) → G 106 14 = z32 (((zL σ).length + 1 : Nat) : Int) → G 120 s = z32 ((vrS (zL σ) s + 1 : Nat) : Int) → G 113 ((zL σ).length + 1) = z32 (s : Int) → G 114 ((zL σ).length + 1) = z32 ((vrS (zL σ) s + 1 : Nat) : Int) → G 115 ((zL σ).length + 1) = z32 (kd : Int) → G 116 ((zL σ).length + 1) = z32 (((zC σ kd).length + 1 : Nat) : Int) → G 117 ((zL σ).length + 1) = a → G 118 ((zL σ).length + 1) = b →
      AFr I G ∧ EVM G (zL σ ++ [evN σ s kd a b]) ∧ CSM G (zC σ) ∧ SNM G (zN σ) ∧ (∀ k, k < 7 → G 125 k = zD σ k) ∧ G 106 23 = z32 (zV σ : Int) ∧ G 106 22 = z32 (eraC (zC σ) : Int) := fun G f g14 g120 g113 g114 g115 g116 g117 g118 => by
    refine ⟨fun q k c => f q k (by omega), hE.com hr g14 (fun c hc => ?_) (fun c k hc hk => f _ _ (by omega)) (fun t ht => ?_), hC.mv (fun q k z => f q k (by unfold ZC at z; omega)), hN.mv (fun q k z => f q k (by unfold ZS at z; omega)), fun k hk => (f _ _ (by omega)).trans (hL k hk), (f _ _ (by omega)).trans hV, (f _ _ (by omega)).trans hC.1⟩
    · rcases (by omega : c = 0 ∨ c = 1 ∨ c = 2 ∨ c = 3 ∨ c = 4 ∨ c = 5) with rfl | rfl | rfl | rfl | rfl | rfl
      · exact g113
      · exact g114
      · exact g115
      · exact g116
      · exact g117
      · exact g118
    · show G 120 t = z32 ((vrS (zL σ) t + (if s = t then 1 else 0) : Nat) : Int)
      by_cases q : s = t
      · subst q
        rw [if_pos rfl, g120]
      · rw [if_neg q, Nat.add_zero, f 120 t (by omega)]
        exact hE.2.2.2 t ht
  generalize hG : up2 (up2 (up2 (up2 (up2 (up2 (up2 (up2 I 106 14 (z32 (((zL σ).length + 1 : Nat) : Int))) 120 s (z32 ((vrS (zL σ) s + 1 : Nat) : Int))) 113 ((zL σ).length + 1) (z32 (s : Int))) 114 ((zL σ).length + 1) (z32 ((vrS (zL σ) s + 1 : Nat) : Int))) 115 ((zL σ).length + 1) (z32 (kd : Int))) 116 ((zL σ).length + 1) (z32 (((zC σ kd).length + 1 : Nat) : Int))) 117 ((zL σ).length + 1) a) 118 ((zL σ).length + 1) b = G
  obtain ⟨fG, gE, gC, gN, gL, gV, gR⟩ := hM G (fun q k c => by
      rw [← hG, up2_if, if_neg (by omega), up2_if, if_neg (by omega), up2_if, if_neg (by omega), up2_if, if_neg (by omega), up2_if, if_neg (by omega), up2_if, if_neg (by omega), up2_if, if_neg (by omega), up2_if, if_neg (by omega)])
    (by rw [← hG, up2_ne (by omega), up2_ne (by omega), up2_ne (by omega), up2_ne (by omega), up2_ne (by omega), up2_ne (by omega), up2_ne (by omega), up2_eq])
    (by rw [← hG, up2_ne (by omega), up2_ne (by omega), up2_ne (by omega), up2_ne (by omega), up2_ne (by omega), up2_ne (by omega), up2_eq])
    (by rw [← hG, up2_ne (by omega), up2_ne (by omega), up2_ne (by omega), up2_ne (by omega), up2_ne (by omega), up2_eq])
    (by rw [← hG, up2_ne (by omega), up2_ne (by omega), up2_ne (by omega), up2_ne (by omega), up2_eq])
    (by rw [← hG, up2_ne (by omega), up2_ne (by omega), up2_ne (by omega), up2_eq])
    (by rw [← hG, up2_ne (by omega), up2_ne (by omega), up2_eq])
    (by rw [← hG, up2_ne (by omega), up2_eq])
    (by rw [← hG, up2_eq])
  have keep : ¬ (0 < zV σ ∧ (vrS (zL σ) s + 1) % zV σ = 0) → K G := fun q => by
    refine k G fG ⟨gE, gC, ?_, gL, gV⟩
    have : zN (comS σ s kd a b) = zN σ := if_neg q
    rw [this]
    exact gN
  have hk9 : inB (z32 (kd : Int)) 9 := inB_n hk (by omega)
  refine tsP_i hs8 (tsP_i hs8 (tsP_i hp (tsP_i hs8 (tsP_i hp (tsP_i hp (tsP_i hk9 (tsP_i hp (tsP_i hp (tsP_i hp (brP_i (fun q => qV_i (keep ?_)) (fun q => ?_)))))))))))
  · rw [z32_0, z32_le (by omega) (by omega) (by omega) (by omega)] at q
    omega
  · rw [z32_0, z32_le (by omega) (by omega) (by omega) (by omega)] at q
    refine tsP_i hs8 (tsP_i (by rw [z32_0, z32_inj] <;> omega) (brP_i (fun q2 => qV_i (keep ?_)) (fun q2 => ?_)))
    · rw [div20 _ (by omega) _ hv (by omega)] at q2
      exact fun c => q2 c.2
    · have q2 := (div20 (vrS (zL σ) s + 1) (by omega) _ hv (by omega)).mp (Classical.not_not.mp q2)
      have gv : G 120 s = z32 ((vrS (zL σ) s + 1 : Nat) : Int) := by
        rw [gE.2.2.2 s hs]
        show z32 ((vrS (zL σ ++ [(s, vrS (zL σ) s + 1, kd, (zC σ kd).length + 1, a, b)]) s : Nat) : Int) = _
        rw [vrS_snoc, if_pos rfl]
      refine c_mtake (d := d) gN hs gv (by omega) gR he27 (fun I2 f2 n2 => qV_i (k I2 (fG.tr (fun q j c => f2 q j (by unfold ZS; omega))) ⟨gE.mv (fun q k z => f2 q k (by unfold ZE at z; unfold ZS; omega)), gC.mv (fun q k z => f2 q k (by unfold ZC at z; unfold ZS; omega)), ?_, fun k hk => (f2 _ _ (by unfold ZS; omega)).trans (gL k hk), (f2 _ _ (by unfold ZS; omega)).trans gV⟩))
      have : zN (comS σ s kd a b) = addS (zN σ) s (vrS (zL σ) s + 1) (eraC (zC σ)) := if_pos ⟨by omega, q2⟩
      rw [this]
      exact n2
theorem c_mrefusal {d : Nat} {I : IM} {D : DY} {K : Int32 → IM → Prop} {C : CF} {L : List EV} {s k t : Nat} {amt : Int32} (hE : EVM I L) (hC : CSM I C) (ho : ∀ e ∈ L, okEv C e) (hv : VOL L) (hs : s < 8) (ht : t < 8) (hk : k < 9) (hk7 : k ≠ 7)
    (h31 : I 106 31 = z32 (kc k : Int)) (h32 : I 106 32 = amt) (h33 : I 106 33 = z32 (t : Int)) (kk : ∀ I2, FoF I I2 → K (refV (stF C L) s k t amt) I2) : CI (d + 5) 210 [vR (some 106), vI (z32 (s : Int))] (mm I D) K := by
  refine s_M_refusal _ (c_mfoldNow (d := d) hE hC ho hv hs (fun I1 f1 x1 => ?_))
  have x0 : I1 121 0 = (stF C L s).1 := x1 0 (by omega)
  have xs : I1 121 1 = (stF C L s).2.1 := x1 1 (by omega)
  have xh : I1 121 2 = (stF C L s).2.2.1 := x1 2 (by omega)
  rw [f1 106 31 (by omega), f1 106 32 (by omega), f1 106 33 (by omega), h31, h32, h33, x0, xs, xh]
  have kk1 := kk I1 f1
  rcases (by omega : k = 0 ∨ k = 1 ∨ k = 2 ∨ k = 3 ∨ k = 4 ∨ k = 5 ∨ k = 6 ∨ k = 8) with rfl | rfl | rfl | rfl | rfl | rfl | rfl | rfl
  · refine (brP_f (by decide)).mpr (brP_i (fun c => qI_i ?_) (fun c => qI_i ?_))
    · have e : refV (stF C L) s 0 t amt = 22 := if_neg c
      rw [e] at kk1; exact kk1
    · have e : refV (stF C L) s 0 t amt = 0 := if_pos (Classical.not_not.mp c)
      rw [e] at kk1; exact kk1
  · have e : refV (stF C L) s 1 t amt = if (stF C L s).1 = 1 then 0 else 21 := rfl
    rw [e] at kk1
    refine (brP_t (by decide)).mpr (brP_i (fun c => ?_) (fun c => qI_i ?_))
    · rw [if_pos c] at kk1
      exact (brP_t (by decide)).mpr ((brP_t (by decide)).mpr ((brP_t (by decide)).mpr ((brP_f (by decide)).mpr ((brP_f (by decide)).mpr ((brP_t (by decide)).mpr (qI_i kk1))))))
    · rw [if_neg c] at kk1; exact kk1
  · have e : refV (stF C L) s 2 t amt = if (stF C L s).1 = 1 then (if amt ≤ (stF C L s).2.1 - (stF C L s).2.2.1 then 0 else 23) else 21 := rfl
    rw [e] at kk1
    refine (brP_t (by decide)).mpr (brP_i (fun c => ?_) (fun c => qI_i ?_))
    · rw [if_pos c] at kk1
      refine (brP_t (by decide)).mpr ((brP_t (by decide)).mpr ((brP_t (by decide)).mpr ((brP_t (by decide)).mpr (brP_i (fun c2 => qI_i ?_) (fun c2 => qI_i ?_)))))
      · rw [if_pos c2] at kk1; exact kk1
      · rw [if_neg c2] at kk1; exact kk1
    · rw [if_neg c] at kk1; exact kk1
  · have e : refV (stF C L) s 3 t amt = if (stF C L s).1 = 1 then (if amt ≤ (stF C L s).2.1 - (stF C L s).2.2.1 then 0 else 23) else 21 := rfl
    rw [e] at kk1
    refine (brP_t (by decide)).mpr (brP_i (fun c => ?_) (fun c => qI_i ?_))
    · rw [if_pos c] at kk1
      refine (brP_t (by decide)).mpr ((brP_t (by decide)).mpr ((brP_t (by decide)).mpr ((brP_f (by decide)).mpr ((brP_t (by decide)).mpr (brP_i (fun c2 => qI_i ?_) (fun c2 => qI_i ?_))))))
      · rw [if_pos c2] at kk1; exact kk1
      · rw [if_neg c2] at kk1; exact kk1
    · rw [if_neg c] at kk1; exact kk1
  · have e : refV (stF C L) s 4 t amt = if (stF C L s).1 = 1 then (if amt ≤ (stF C L s).2.2.1 then 0 else 23) else 21 := rfl
    rw [e] at kk1
    refine (brP_t (by decide)).mpr (brP_i (fun c => ?_) (fun c => qI_i ?_))
    · rw [if_pos c] at kk1
      refine (brP_t (by decide)).mpr ((brP_f (by decide)).mpr (brP_i (fun c2 => qI_i ?_) (fun c2 => qI_i ?_)))
      · rw [if_pos c2] at kk1; exact kk1
      · rw [if_neg c2] at kk1; exact kk1
    · rw [if_neg c] at kk1; exact kk1
  · have e : refV (stF C L) s 5 t amt = if (stF C L s).1 = 1 then 0 else 21 := rfl
    rw [e] at kk1
    refine (brP_t (by decide)).mpr (brP_i (fun c => ?_) (fun c => qI_i ?_))
    · rw [if_pos c] at kk1
      exact (brP_t (by decide)).mpr ((brP_t (by decide)).mpr ((brP_t (by decide)).mpr ((brP_f (by decide)).mpr ((brP_f (by decide)).mpr ((brP_t (by decide)).mpr (qI_i kk1))))))
    · rw [if_neg c] at kk1; exact kk1
  · have e : ∀ J, K (refV (stF C L) s 6 t amt) J → K (if (stF C L s).1 = 1 then (if t = s then 25 else if (stF C L t).1 = 1 then (if amt ≤ (stF C L s).2.1 - (stF C L s).2.2.1 then 0 else 23) else 25) else 21) J := fun J h => h
    refine (brP_t (by decide)).mpr (brP_i (fun c => ?_) (fun c => qI_i ?_))
    · refine (brP_t (by decide)).mpr ((brP_t (by decide)).mpr ((brP_f (by decide)).mpr (brP_i (fun c2 => ?_) (fun c2 => qI_i ?_))))
      · have c2 : ¬ t = s := fun q => c2 (by rw [q])
        refine c_mfoldNow (d := d) (hE.st f1.s.t) (hC.st f1.s.t) ho hv ht (fun I2 f2 x2 => ?_)
        have kk2 := e I2 (kk I2 (f1.tr f2))
        have y0 : I2 121 0 = (stF C L t).1 := x2 0 (by omega)
        rw [if_pos c, if_neg c2] at kk2
        rw [f2 106 31 (by omega), f2 106 32 (by omega), f1 106 31 (by omega), f1 106 32 (by omega), h31, h32, y0]
        refine brP_i (fun c3 => ?_) (fun c3 => qI_i ?_)
        · rw [if_pos c3] at kk2
          refine (brP_f (by decide)).mpr ((brP_f (by decide)).mpr ((brP_f (by decide)).mpr (brP_i (fun c4 => qI_i ?_) (fun c4 => qI_i ?_))))
          · rw [if_pos c4] at kk2; exact kk2
          · rw [if_neg c4] at kk2; exact kk2
        · rw [if_neg c3] at kk2; exact kk2
      · have c2 : z32 (t : Int) = z32 (s : Int) := Classical.not_not.mp c2
        rw [z32_inj (by omega) (by omega) (by omega) (by omega)] at c2
        have kk2 := e I1 kk1
        rw [if_pos c, if_pos (by omega)] at kk2
        exact kk2
    · have kk2 := e I1 kk1
      rw [if_neg c] at kk2
      exact kk2
  · have e : refV (stF C L) s 8 t amt = if (stF C L s).1 = 1 then (if (stF C L s).2.1 = 0 then 0 else 24) else 21 := rfl
    rw [e] at kk1
    refine (brP_t (by decide)).mpr (brP_i (fun c => ?_) (fun c => qI_i ?_))
    · rw [if_pos c] at kk1
      refine (brP_f (by decide)).mpr (brP_i (fun c2 => qI_i ?_) (fun c2 => qI_i ?_))
      · rw [if_neg c2] at kk1; exact kk1
      · rw [if_pos (Classical.not_not.mp c2)] at kk1; exact kk1
    · rw [if_neg c] at kk1; exact kk1
/-- a command is carried, without being led -/
theorem c_mhappen {d : Nat} {I : IM} {D : DY} {K : IM → Prop} {σ : SS} {s : Nat} {cm : Cm} {amt : Int32} (h : RME σ I) (hs : s < 8) (ok : okCm cm) (hv : zV σ ≤ 20) (hr : (zL σ).length + evC cm ≤ 240) (h31 : I 106 31 = z32 (kc cm.1 : Int)) (h32 : I 106 32 = amt) (h33 : I 106 33 = z32 (cm.2.2.1 : Int))
    (k : ∀ I2, AFr I I2 → RME (hapS σ s cm amt) I2 → K I2) : CV (d + 2) 212 [vR (some 106), vI (z32 (s : Int))] (mm I D) K := by
  obtain ⟨o1, o2, o3, o4, o5, o6⟩ := ok
  have c31 : ∀ {n : Nat}, n < 9 → (I 106 31 = z32 (n : Int) ↔ kc cm.1 = n) := fun {n} hn => by
    have : kc cm.1 ≤ 9 := by unfold kc; split <;> omega
    rw [h31, z32_inj] <;> omega
  have hev : evC cm = if cm.1 = 6 then 2 else 1 := rfl
  refine s_M_happen _ ?_
  by_cases q6 : cm.1 = 6
  · have e6 : kc cm.1 = 6 := by unfold kc; rw [if_neg (by omega), q6]
    have a6 : I 106 31 = 6 := (c31 (n := 6) (by omega)).mpr e6
    rw [if_pos q6] at hev
    rw [a6, h32, h33]
    refine (brP_t (by decide)).mpr ((brP_f (by decide)).mpr ?_)
    refine c_mcome (d := d) (kd := 6) h hs (by omega) (by omega) hv (fun I1 f1 h1 => ?_)
    rw [f1 106 31 (by omega), f1 106 32 (by omega), f1 106 33 (by omega), a6, h32, h33]
    refine (brP_f (by decide)).mpr ?_
    refine c_mcome (d := d) (kd := 7) h1 o5 (by omega) ?_ hv (fun I2 f2 h2 => qV_i (k I2 (f1.tr f2) ?_))
    · rw [comS_len]
      omega
    · unfold hapS
      rw [if_pos q6]
      exact h2
  · rw [if_neg q6] at hev
    have hh : hapS σ s cm amt = comS σ s cm.1 amt 0 := if_neg q6
    rw [hh] at k
    by_cases q8 : cm.1 = 8
    · have e7 : kc cm.1 = 7 := by unfold kc; rw [if_pos q8]
      have a7 : I 106 31 = 7 := (c31 (n := 7) (by omega)).mpr e7
      rw [a7, h32]
      refine (brP_f (by decide)).mpr ((brP_t (by decide)).mpr ?_)
      refine c_mcome (d := d) (kd := 8) h hs (by omega) (by omega) hv (fun I1 f1 h1 => ?_)
      rw [f1 106 31 (by omega), a7]
      rw [q8] at k
      exact (brP_t (by decide)).mpr (qV_i (k I1 f1 h1))
    · have ek : kc cm.1 = cm.1 := by unfold kc; rw [if_neg q8]
      have a : I 106 31 = z32 (cm.1 : Int) := (c31 (n := cm.1) o1).mpr ek
      have n7 : ¬ z32 (cm.1 : Int) = 7 := fun c => by
        have c : z32 (cm.1 : Int) = z32 7 := c
        rw [z32_inj] at c <;> omega
      have n6 : ¬ z32 (cm.1 : Int) = 6 := fun c => by
        have c : z32 (cm.1 : Int) = z32 6 := c
        rw [z32_inj] at c <;> omega
      rw [a, h32]
      refine (brP_t n7).mpr ((brP_t n6).mpr ?_)
      refine c_mcome (d := d) (kd := cm.1) h hs o1 (by omega) hv (fun I1 f1 h1 => ?_)
      rw [f1 106 31 (by omega), a]
      exact (brP_t n6).mpr (qV_i (k I1 f1 h1))
theorem e_mroom {d : Nat} {I : IM} {D : DY} {K : Int32 → IM → Prop} {L : List EV} {cm : Cm} (hE : EVM I L) (ok : okCm cm) (h31 : I 106 31 = z32 (kc cm.1 : Int)) : CI d 211 [vR (some 106)] (mm I D) K ↔ K (b32 (L.length + evC cm ≤ 240)) I := by
  have h240 := hE.2.1
  have o1 := ok.1
  refine CI_iff (s_M_hasRoom ?_)
  have fin : ∀ n : Nat, n ≤ 2 → evC cm = n → brP ((240 : Int32) < z32 (L.length : Int) + z32 (n : Int)) (qI (mm I D) (fun x I2 => x = b32 (L.length + evC cm ≤ 240) ∧ I2 = I) (some (vI 0)) (mm I D)) (qI (mm I D) (fun x I2 => x = b32 (L.length + evC cm ≤ 240) ∧ I2 = I) (some (vI 1)) (mm I D)) := fun n hn he => by
    rw [he, addn]
    refine brP_i (fun c => qI_i ⟨?_, rfl⟩) (fun c => qI_i ⟨?_, rfl⟩)
    · have c : z32 240 < z32 ((L.length + n : Nat) : Int) := c
      rw [z32_lt (by omega) (by omega) (by omega) (by omega)] at c
      exact (b32_f (by omega)).symm
    · have c : ¬ z32 240 < z32 ((L.length + n : Nat) : Int) := c
      rw [z32_lt (by omega) (by omega) (by omega) (by omega)] at c
      exact (b32_t (by omega)).symm
  rw [h31, hE.1]
  have hkc : kc cm.1 ≤ 8 := by unfold kc; split <;> omega
  refine brP_i (fun c => ?_) (fun c => ?_)
  · have : cm.1 ≠ 6 := fun q => c (by unfold kc; rw [if_neg (by omega), q]; rfl)
    exact fin 1 (by omega) (if_neg this)
  · have c : z32 (kc cm.1 : Int) = z32 6 := Classical.not_not.mp c
    rw [z32_inj (by omega) (by omega) (by omega) (by omega)] at c
    have : cm.1 = 6 := by
      unfold kc at c
      split at c <;> omega
    exact fin 2 (by omega) (if_pos this)
theorem RME.tell {σ : SS} {I : IM} {k : Nat} (h : RME σ I) (hk : k < 7) : RME (telS σ k) (up2 I 125 k (I 125 k + 1)) := by
  obtain ⟨a, b, c, e, v⟩ := h
  refine ⟨a.mv (fun q j z => up2_ne (by unfold ZE at z; omega)), b.mv (fun q j z => up2_ne (by unfold ZC at z; omega)), c.mv (fun q j z => up2_ne (by unfold ZS at z; omega)), fun j hj => ?_, (up2_ne (by omega)).trans v⟩
  show _ = updF (zD σ) k (zD σ k + 1) j
  by_cases q : j = k
  · subst q
    rw [up2_eq, e j hj]
    exact (if_pos rfl).symm
  · rw [up2_nj q, e j hj]
    exact (if_neg q).symm
theorem c_masked {d : Nat} {I : IM} {D : DY} {K : Int32 → IM → Prop} {σ : SS} {s : Nat} {cm : Cm} {amt : Int32} (h : RME σ I) (wf : WF σ) (hs : s < 8) (ok : okCm cm) (h31 : I 106 31 = z32 (kc cm.1 : Int)) (h32 : I 106 32 = amt) (h33 : I 106 33 = z32 (cm.2.2.1 : Int))
    (k : ∀ I2, CFr I I2 → RME (carS σ s cm amt).1 I2 → K (carS σ s cm amt).2 I2) : CI (d + 6) 209 [vR (some 106), vI (z32 (s : Int))] (mm I D) K := by
  refine s_M_asked _ (c_mrefusal (d := d) (k := cm.1) (t := cm.2.2.1) h.1 h.2.1 wf.1 wf.2.1 hs ok.2.2.2.2.1 ok.1 ok.2.1 h31 h32 h33 (fun I1 f1 => ?_))
  have h1 := h.st f1.s.t
  have g31 : I1 106 31 = z32 (kc cm.1 : Int) := (f1 _ _ (by omega)).trans h31
  refine brP_i (fun q => ?_) (fun q => ?_)
  · have q := refV_le.mp q
    rw [e_mroom h1.1 ok g31]
    refine br1 (fun q2 => ?_) (fun q2 => qI_i ?_)
    · have ec : carS σ s cm amt = (telS (hapS σ s cm amt) 0, z32 (vrS (zL (hapS σ s cm amt)) s : Int)) := (if_pos q).trans (if_pos q2)
      rw [ec] at k
      refine c_mhappen (d := d + 3) h1 hs ok wf.2.2.1 q2 g31 ((f1 _ _ (by omega)).trans h32) ((f1 _ _ (by omega)).trans h33) (fun I2 f2 h2 => tsP_i (inB_n hs (by omega)) (qI_i ?_))
      rw [ix_n (by omega), h2.1.2.2.2 s hs]
      exact k _ ((f1.c.tr f2.c).tr (fun q j c => up2_ne (by omega))) (h2.tell (by omega))
    · have ec : carS σ s cm amt = (σ, -3) := (if_pos q).trans (if_neg q2)
      rw [ec] at k
      exact k I1 f1.c h1
  · have q : ¬ refV (stF (zC σ) (zL σ)) s cm.1 cm.2.2.1 amt = 0 := fun e => q (refV_le.mpr e)
    have ec : carS σ s cm amt = (telS σ 3, -(refV (stF (zC σ) (zL σ)) s cm.1 cm.2.2.1 amt)) := if_neg q
    rw [ec] at k
    exact qI_i (k _ (f1.c.tr (fun q j c => up2_ne (by omega))) (h1.tell (by omega)))
theorem carS_eq {σ : SS} {s : Nat} {cm : Cm} {amt : Int32} : zA (carS σ s cm amt).1 = zA σ ∧ zP (carS σ s cm amt).1 = zP σ ∧ zQ (carS σ s cm amt).1 = zQ σ ∧ zE (carS σ s cm amt).1 = zE σ ∧ zH (carS σ s cm amt).1 = zH σ ∧ zC (carS σ s cm amt).1 = zC σ := by
  unfold carS
  split
  · split
    · show zA (hapS σ s cm amt) = _ ∧ zP (hapS σ s cm amt) = _ ∧ zQ (hapS σ s cm amt) = _ ∧ zE (hapS σ s cm amt) = _ ∧ zH (hapS σ s cm amt) = _ ∧ zC (hapS σ s cm amt) = _
      unfold hapS
      split <;> exact ⟨rfl, rfl, rfl, rfl, rfl, rfl⟩
    · exact ⟨rfl, rfl, rfl, rfl, rfl, rfl⟩
  · exact ⟨rfl, rfl, rfl, rfl, rfl, rfl⟩
section
variable {d : Nat} {I : IM} {D : DY} {τ : ST}
/-- one command of the tape, alone -/
theorem m_alone {A : Int32 → IM → Prop} {T : Tx} (hW : WRD I) (h : TPm I T)
    (ka : ∀ cm I2, allP T (cmP false T) = .inl cm → okCm cm → SFt I I2 → TPm I2 [] → I2 106 31 = z32 (kc cm.1 : Int) → I2 106 32 = z32 cm.2.1 → I2 106 33 = z32 (cm.2.2.1 : Int) → A (-1) I2)
    (kb : ∀ f I2, allP T (cmP false T) = .inr f → SFt I I2 → TPm I2 [] → I2 106 4 = z32 (f : Int) → f ≤ 160 → A (z32 (f : Int)) I2) : CI (d + 71) 207 [vR (some 106)] (mm I D) A := by
  have h160 := h.2.1
  refine s_M_readAlone (m_begin h (fun I1 f1 M1 => ?_))
  refine m_command (d := d) (sl := 70) (pol := false) (hW.nf f1) (by omega) M1 (fun I2 f2 M2 c2 => ?_)
  rw [sq_inl] at M2 c2
  refine m_end_go M2 (fun cm I3 h1 h2 h3 h4 => qI_i ?_) (fun f I3 h1 h3 h4 h5 h6 => qI_i (kb f I3 h1 (f1.s.t.tr ((f2.t (by omega) (by omega)).tr h3.t)) h4 h6 h5))
  obtain ⟨c1, c3, c4⟩ := c2 cm [] h2
  obtain ⟨ok, hn⟩ := cmP_wf h160 h2
  rw [hn rfl] at c4
  exact ka cm I3 h1 ok (f1.s.t.tr ((f2.t (by omega) (by omega)).tr h3.t)) h4 ((h3 _ _ (by omega)).trans c1) ((h3 _ _ (by omega)).trans c4.2) ((h3 _ _ (by omega)).trans c3)
theorem fl_eq {f : Nat} {x : Int32} (h : x = z32 (f : Int)) : -100 - x = fltV f := by
  rw [h]
  show z32 (-100) - _ = _
  rw [z32_sub]
  rfl
theorem RM.bt {τ : ST} {I2 : IM} {σ2 : SS} (h : RM τ I) (f : BFr I I2) (ht : TPm I2 []) (e : RMS σ2 I2) : RM ([], σ2, tI τ) I2 := ⟨ht, h.2.1.b f, e, h.2.2.2.b f⟩
theorem q_ask {K : Int32 → IM → Prop} (h : RM τ I) (wf : WF (tS τ)) (s ex n : Int32) (k : ∀ I2, FrC I I2 → RM (S_ask τ s ex n).1 I2 → K (S_ask τ s ex n).2 I2) : CI (d + 100) 206 [vR (some 106), vI s, vI ex, vI n] (mm I D) K := by
  unfold S_ask at k
  refine s_M_ask _ _ _ ?_
  rw [e_mstream]
  refine br0 (fun hs => ?_) (fun hs => qI_i ?_)
  rotate_left
  · rw [if_neg (fun c => hs c.1)] at k
    exact k I FrC.rf h
  refine brP_i (fun hx => qI_i ?_) (fun hx => ?_)
  · rw [if_neg (fun c => c.2.1 hx)] at k
    exact k I FrC.rf h
  rw [e_in]
  refine br1 (fun hn => ?_) (fun hn => qI_i ?_)
  rotate_left
  · have hn : ¬ (0 ≤ n ∧ n ≤ 999) := hn
    rw [if_neg (fun c => hn ⟨c.2.2.1, c.2.2.2⟩)] at k
    exact k I FrC.rf h
  have hn : 0 ≤ n ∧ n ≤ 999 := hn
  rw [if_pos ⟨hs, hx, hn.1, hn.2⟩] at k
  obtain ⟨sn, rfl, hsn⟩ := rng (m := 7) (by omega) hs
  obtain ⟨nn, rfl, hnn⟩ := rng (m := 999) (by omega) hn
  rw [aN_z (by omega), aN_z (by omega)] at k
  refine m_alone (d := d + 28) h.2.1 h.1 (fun cm I2 h1 ok f2 t2 g31 g32 g33 => ?_) (fun f I2 h1 f2 t2 g4 hf => ?_)
  rotate_left
  · rw [h1] at k
    refine (brP_f (by rw [z32_0, z32_lt] <;> omega)).mpr (qI_i ?_)
    rw [fl_eq g4]
    exact k I2 f2.c (h.tp f2 t2)
  rw [h1] at k
  have k : ∀ J, FrC I J → RM ([], (askS (tS τ) sn ex nn cm).1, tI τ) J → K (askS (tS τ) sn ex nn cm).2 J := k
  refine (brP_t (by decide)).mpr (tsP_i (inB_n (by omega) (by omega)) ?_)
  have hS2 : RMS (tS τ) I2 := h.2.2.1.st f2
  have a2 : I2 126 nn = zA (tS τ) nn := hS2.2.2.2.1 nn (by omega)
  rw [ix_n (by omega), a2]
  have eA : askS (tS τ) sn ex nn cm = if 0 < nn ∧ 0 < zA (tS τ) nn then (telS (tS τ) 1, zA (tS τ) nn) else if ex = -1 ∨ ex = z32 (vrS (zL (tS τ)) sn : Int) then
    ((if 0 < nn ∧ 0 < (carS (tS τ) sn cm (z32 cm.2.1)).2 then wA (carS (tS τ) sn cm (z32 cm.2.1)).1 (updF (zA (carS (tS τ) sn cm (z32 cm.2.1)).1) nn (carS (tS τ) sn cm (z32 cm.2.1)).2) else (carS (tS τ) sn cm (z32 cm.2.1)).1), (carS (tS τ) sn cm (z32 cm.2.1)).2)
    else (telS (tS τ) 2, -4) := rfl
  refine brP_i (fun c => ?_) (fun c => ?_)
  rotate_left
  · -- answered before
    have cp : 0 < zA (tS τ) nn := Int32.not_le.mp c
    have n0 : 0 < nn := Nat.pos_of_ne_zero (fun e => by rw [e, wf.2.2.2.1] at cp; exact absurd cp (by decide))
    rw [eA, if_pos ⟨n0, cp⟩] at k
    refine tsP_i (inB_n (by omega) (by omega)) (qI_i ?_)
    have hT := (RME.of hS2).tell (k := 1) (by omega)
    have fT : BFr I (up2 I2 125 1 (I2 125 1 + 1)) := f2.b.tr (fun q j e => up2_ne (by omega))
    have hv : (up2 I2 125 1 (I2 125 1 + 1)) 126 nn = zA (tS τ) nn := (up2_ne (by omega)).trans a2
    first
      | rw [a2]
      | skip
    exact k _ fT.c (h.bt fT (t2.fr (up2_ne (by omega)) (fun k => up2_ne (by omega))) (h.2.2.1.cmd fT hT rfl rfl rfl rfl rfl))
  · rw [eA, if_neg (fun q => absurd q.2 (Int32.not_lt.mpr c))] at k
    -- the asking itself
    have go : (ex = -1 ∨ ex = z32 (vrS (zL (tS τ)) sn : Int)) → CI (d + 99) 209 [vR (some 106), vI (z32 (sn : Int))] (mm I2 D) (fun x4 I4 => brP (x4 ≤ 0)
        (qI (mm I D) K (some (vI x4)) (mm I4 D))
        (brP (z32 (nn : Int) ≤ 0)
        (qI (mm I D) K (some (vI x4)) (mm I4 D))
        (tsP (inB (z32 (nn : Int)) 1000) (qI (mm I D) K (some (vI x4)) (mm (up2 I4 126 nn x4) D))))) := fun hex => by
      rw [if_pos hex] at k
      refine c_masked (d := d + 93) (σ := tS τ) (RME.of hS2) wf (by omega) ok g31 g32 g33 (fun I4 f4 h4 => ?_)
      have fB : BFr I I4 := f2.b.tr f4.b
      obtain ⟨q1, q2, q3, q4, q5, q6⟩ := carS_eq (σ := tS τ) (s := sn) (cm := cm) (amt := z32 cm.2.1)
      have hR := h.2.2.1.cmd fB h4 q1 q2 q3 q4 q5
      have hT4 : TPm I4 [] := t2.fr (f4 _ _ (by omega)) (fun k => f4 _ _ (by omega))
      refine brP_i (fun c1 => qI_i ?_) (fun c1 => brP_i (fun c2 => qI_i ?_) (fun c2 => tsP_i (inB_n (by omega) (by omega)) (qI_i ?_)))
      · rw [if_neg (fun q => absurd q.2 (Int32.not_lt.mpr c1))] at k
        exact k I4 fB.c (h.bt fB hT4 hR)
      · rw [z32_0, z32_le (by omega) (by omega) (by omega) (by omega)] at c2
        rw [if_neg (fun q => by omega)] at k
        exact k I4 fB.c (h.bt fB hT4 hR)
      · rw [z32_0, z32_le (by omega) (by omega) (by omega) (by omega)] at c2
        rw [if_pos ⟨by omega, Int32.not_le.mp c1⟩] at k
        have fu : ∀ q k, q ≠ 126 → up2 I4 126 nn (carS (tS τ) sn cm (z32 cm.2.1)).2 q k = I4 q k := fun q k e => up2_ne e
        refine k _ (fun q k e => (fu q k (by omega)).trans (fB.c q k e)) ⟨hT4.fr (fu _ _ (by omega)) (fun k => fu _ _ (by omega)), (h.2.1.b fB).fr (fun k => fu _ _ (by omega)), ?_, (h.2.2.2.b fB).mv (fu _ _ (by omega)) (fun k => fu _ _ (by omega)) (fun k hk => fu _ _ (by omega)) (fun k hk => fu _ _ (by omega))⟩
        obtain ⟨a, b, c, e, p, g, y, l, v, u⟩ := hR
        refine ⟨a.mv (fun q k z => fu q k (by unfold ZE at z; omega)), b.mv (fun q k z => fu q k (by unfold ZC at z; omega)), c.mv (fun q k z => fu q k (by unfold ZS at z; omega)), fun j hj => ?_, p.mv (fun q k z => fu q k (by unfold ZP at z; omega)), g.mv (fun q k z => fu q k (by unfold ZQ at z; omega)), y.mv (fun q k z => fu q k (by unfold ZY at z; omega)), fun k hk => (fu _ _ (by omega)).trans (l k hk), (fu _ _ (by omega)).trans v, (fu _ _ (by omega)).trans u⟩
        show _ = updF (zA (carS (tS τ) sn cm (z32 cm.2.1)).1) nn (carS (tS τ) sn cm (z32 cm.2.1)).2 j
        by_cases q : j = nn
        · subst q
          rw [up2_eq]
          exact (if_pos rfl).symm
        · rw [up2_nj q, e j hj]
          exact (if_neg q).symm
    refine brP_i (fun c1 => go (Or.inl ?_)) (fun c1 => tsP_i (inB_n (by omega) (by omega)) ?_)
    · obtain ⟨y, rfl, y1, y2⟩ := z32_all ex
      rw [z32_0, z32_lt y1 y2 (by omega) (by omega)] at c1
      rw [z32_m1, z32_lt y1 y2 (by omega) (by omega)] at hx
      rw [show y = -1 by omega]
      rfl
    · rw [ix_n (by omega), (hS2.1).2.2.2 sn (by omega)]
      refine brP_i (fun c2 => go (Or.inr c2)) (fun c2 => qI_i ?_)
      have : ¬ (ex = -1 ∨ ex = z32 (vrS (zL (tS τ)) sn : Int)) := fun q => by
        rcases q with q | q
        · rw [q] at c1
          exact c1 (by decide)
        · exact c2 q
      rw [if_neg this] at k
      have hT := (RME.of hS2).tell (k := 2) (by omega)
      have fT : BFr I (up2 I2 125 2 (I2 125 2 + 1)) := f2.b.tr (fun q j e => up2_ne (by omega))
      exact k _ fT.c (h.bt fT (t2.fr (up2_ne (by omega)) (fun k => up2_ne (by omega))) (h.2.2.1.cmd fT hT rfl rfl rfl rfl rfl))
end
