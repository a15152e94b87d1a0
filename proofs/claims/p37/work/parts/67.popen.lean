/-! The beginning of the law: two bins are opened. -/
def σ0 : SS := ([], fun _ => [], fun _ => [], fun _ => 0, fun _ _ => none, fun _ => none, fun _ => none, fun _ => 0, 0, 0)
def τ0 : ST := ([], σ0, none)
theorem WT0 : WT τ0 := ⟨⟨fun e h => (by simp [zL, tS, τ0, σ0] at h), fun i e h => (by simp [zL, tS, τ0, σ0] at h), Nat.zero_le _, rfl, fun w p x _ _ h => (by cases h), fun p x _ h => (by cases h), 0, by decide, rfl⟩, fun κ h => (by cases h)⟩
theorem opn {σ : SS} {s : Nat} {ex : Int32} {amt : Int} (hex : ex = -1 ∨ ex = z32 (vrS (zL σ) s : Int)) (h0 : (stF (zC σ) (zL σ) s).1 = 0) (hl : (zL σ).length < 240) : askS σ s ex 0 (0, amt, 0, none) = (telS (comS σ s 0 (z32 amt) 0) 0, z32 ((vrS (zL σ) s + 1 : Nat) : Int)) := by
  have e1 : carS σ s (0, amt, 0, none) (z32 amt) = (telS (comS σ s 0 (z32 amt) 0) 0, z32 ((vrS (zL σ) s + 1 : Nat) : Int)) := by
    unfold carS
    have hr : refV (stF (zC σ) (zL σ)) s 0 0 (z32 amt) = 0 := by
      unfold refV
      rw [if_pos rfl, if_pos h0]
    have hv : vrS (zL (comS σ s 0 (z32 amt) 0)) s = vrS (zL σ) s + 1 := by
      show vrS (zL σ ++ [evN σ s 0 (z32 amt) 0]) s = _
      rw [vrS_snoc, if_pos (show eS (evN σ s 0 (z32 amt) 0) = s from rfl)]
    rw [if_pos hr, if_pos (show (zL σ).length + evC (0, amt, 0, none) ≤ 240 from (show (zL σ).length + 1 ≤ 240 by omega))]
    show (telS (comS σ s 0 (z32 amt) 0) 0, z32 (vrS (zL (comS σ s 0 (z32 amt) 0)) s : Int)) = _
    rw [hv]
  unfold askS
  rw [if_neg (fun q => absurd q.1 (Nat.lt_irrefl 0)), if_pos hex]
  show ((if 0 < 0 ∧ _ then _ else (carS σ s (0, amt, 0, none) (z32 amt)).1), (carS σ s (0, amt, 0, none) (z32 amt)).2) = _
  rw [if_neg (fun q => absurd q.1 (Nat.lt_irrefl 0)), e1]
def σ1 : SS := telS (comS σ0 0 0 (z32 7) 0) 0
def σ2 : SS := telS (comS σ1 1 0 (z32 5) 0) 0
def zF : Nat → S4 := fun _ => (0, 0, 0, 0)
theorem stF0 : stF (zC σ0) (zL σ0) = zF := rfl
theorem stF1 : stF (zC σ1) (zL σ1) = updF zF 0 (1, 0, 0, 7) := (com_stF (σ := σ0) (s := 0) (k := 0) (a := z32 7) (b := 0)).trans rfl
theorem stF2 : stF (zC σ2) (zL σ2) = updF (updF zF 0 (1, 0, 0, 7)) 1 (1, 0, 0, 5) := by
  refine (com_stF (σ := σ1) (s := 1) (k := 0) (a := z32 5) (b := 0)).trans ?_
  rw [stF1]
  rfl
theorem vr1 : vrS (zL σ1) 1 = 0 := by decide +kernel
theorem vr2 : vrS (zL σ2) = updF (updF (fun _ => 0) 0 1) 1 1 := by
  funext s
  show vrS ([evN σ0 0 0 (z32 7) 0] ++ [evN σ1 1 0 (z32 5) 0]) s = _
  rw [vrS_snoc]
  show vrS ([] ++ [evN σ0 0 0 (z32 7) 0]) s + _ = _
  rw [vrS_snoc]
  show 0 + (if 0 = s then 1 else 0) + (if 1 = s then 1 else 0) = _
  unfold updF
  by_cases h1 : s = 1
  · subst h1
    rfl
  · rw [if_neg h1, if_neg (fun q : 1 = s => h1 q.symm)]
    by_cases h0 : s = 0
    · subst h0
      rfl
    · rw [if_neg h0, if_neg (fun q : 0 = s => h0 q.symm)]
section
variable {d c : Nat} {I : IM} {D : DY}
theorem BNS.next {I2 : IM} {D2 : DY} (h : BNS D c) (hf : FK (inA c) (mm I D) (mm I2 D2)) (hw : ∀ a, a < dZ D → dW D2 a = dW D a) : BNS D2 c := by
  obtain ⟨h1, h2, h3, h4, h5⟩ := h
  have kk : ∀ a, c ≤ a → a < c + 9 → dK D2 a = dK D a ∧ dN D2 a = dN D a := fun a g1 g2 => by
    have := hf.2.2.1 a (show a < dZ D by omega)
    rw [mmK (by show 159 ≤ a; omega), mmK (by show 159 ≤ a; omega), mmN (by show 159 ≤ a; omega), mmN (by show 159 ≤ a; omega)] at this
    exact this
  have z : dZ D ≤ dZ D2 := hf.1
  refine ⟨h1, by omega, ((kk c (by omega) (by omega)).1).trans h3, ((kk c (by omega) (by omega)).2).trans h4, fun j hj => ?_⟩
  obtain ⟨q1, q2, q3, q4⟩ := h5 j hj
  have r := (hf.2.2.2 c ⟨by omega, by omega⟩ j).2
  rw [mmR (isFn_new h1), mmR (isFn_new h1)] at r
  exact ⟨r.trans q1, ((kk _ (by omega) (by omega)).1).trans q2, ((kk _ (by omega) (by omega)).2).trans q3, (hw _ (by omega)).trans q4⟩
theorem BNS.gl (h : BNS D c) {s : Nat} {i : Int32} (hi : i = z32 (s : Int)) (hs : s < 8) {P : Nat → Prop} (k : P (c + 1 + s)) : onR False (some c) (fun a1 => tsP (pKd (mm I D) a1 = 27) (tsP (inB i (pLn (mm I D) a1)) (onR False (pR (mm I D) a1 s) P))) := by
  refine tsP_i h.k.1 (tsP_i (by rw [h.k.2, hi]; exact inB_n hs (by omega)) ?_)
  rw [(h.r hs).1]
  exact k
theorem asks_ok {σ : SS} {κ : Option SS} {j : Nat} {K : Int32 → IM → DY → Prop} {s ex n is : Int32} (hj : j < 40) (r : RC ([], σ, κ) I D) (wf : WF σ) (lw : LW I) {τ2 : ST} (E : S_ask (sL j, σ, κ) s ex n = (τ2, is)) (hT : tT τ2 = []) (k : ∀ I2 D2, FrM I I2 → GD D D2 → RC τ2 I2 D2 → K 1 I2 D2) : AI (d + 102) 194 [vR (some 45), vR (some (plS j)), vI s, vI ex, vI n, vI is] (mm I D) K := by
  refine s_L_asks _ _ _ _ _ (tell_con (d := d) hj lw r (fun I1 f1 r1 => brP_i (fun q => absurd q (by decide)) (fun _ => ?_)))
  refine p_ask (d := d + 1) r1 wf _ _ _ (fun I2 D2 f2 g2 r2 => ?_)
  rw [E] at r2 ⊢
  refine brP_i (fun q => absurd rfl q) (fun _ => q_count2 (d := d + 1) r2 ?_)
  dsimp only
  rw [hT]
  exact brP_i (fun q => absurd rfl q) (fun _ => aI_i rfl (k I2 D2 (f1.m.tr f2) g2 r2))
/-- all there is is known; the script's length is an int -/
def OX (I : IM) (D : DY) : Prop := clo XN (mm I D) ∧ dN D 0 < 2147483648
theorem AI.ox {y : Nat} {as : List PV} {K0 K : Int32 → IM → DY → Prop} (ox : OX I D) (ha : outL XN (dZ D) as) (h : AI d y as (mm I D) K0) (k : ∀ x I2 D2, K0 x I2 D2 → OX I2 D2 → K x I2 D2) : AI d y as (mm I D) K :=
  (AI.fk ox.1 ha h).use fun x I2 D2 ⟨k0, f⟩ => k x I2 D2 k0 ⟨f.2.1, by rw [show dN D2 0 = dN D 0 from (f.2.2.1 0 (Nat.lt_of_lt_of_le (by decide) ox.1.1)).2]; exact ox.2⟩
theorem ask_1 : S_ask (sL 30, σ0, none) 0 0 0 = (([], σ1, none), 1) := by
  obtain ⟨cm, h1, rfl⟩ := par_30
  rw [S_ask_eq (by decide) h1]
  have := opn (σ := σ0) (s := 0) (ex := 0) (amt := 7) (Or.inr rfl) rfl (by decide)
  show (([], (askS σ0 0 0 0 (0, 7, 0, none)).1, none), (askS σ0 0 0 0 (0, 7, 0, none)).2) = _
  rw [this]
  rfl
theorem ask_2 : S_ask (sL 31, σ1, none) 1 (-1) 0 = (([], σ2, none), 1) := by
  obtain ⟨cm, h1, rfl⟩ := par_31
  rw [S_ask_eq (by decide) h1]
  have := opn (σ := σ1) (s := 1) (ex := -1) (amt := 5) (Or.inl rfl) (by rw [stF1]; rfl) (by decide)
  show (([], (askS σ1 1 (-1) 0 (0, 5, 0, none)).1, none), (askS σ1 1 (-1) 0 (0, 5, 0, none)).2) = _
  rw [this, vr1]
  rfl
theorem WT1 : WT ([], σ1, none) := by
  have := w_ask (τ := (sL 30, σ0, none)) WT0 (by decide) 0 0 0
  rw [ask_1] at this
  exact this
theorem WT2 : WT ([], σ2, none) := by
  have := w_ask (τ := (sL 31, σ1, none)) WT1 (by decide) 1 (-1) 0
  rw [ask_2] at this
  exact this
theorem opened_ok {K : Int32 → IM → DY → Prop} (hb : BNS D c) (hw : dW D c = 2) (hc : clo (inA c) (mm I D)) (r : RC τ0 I D) (lw : LW I) (hv : BNV I c zF (fun _ => 0)) (k : ∀ I2 D2, FrM I I2 → dZ D2 ≤ dZ D + 400 → dL D2 ≤ dL D + 16000 → RC ([], σ2, none) I2 D2 → K 1 I2 D2) : AI (d + 103) 202 [vR (some 45), vR (some c)] (mm I D) K := by
  have e0 : (0 : Int32) = z32 ((0 : Nat) : Int) := rfl
  have e1 : (1 : Int32) = z32 ((1 : Nat) : Int) := rfl
  refine s_L_opened _ (hb.gl (s := 0) e0 (by omega) (hb.at (s := 0) (w := 0) (by omega) (by omega) ?_))
  refine hb.gl (s := 0) e0 (by omega) (hb.at (s := 0) (w := 3) (by omega) (by omega) ?_)
  refine hb.gl (s := 0) e0 (by omega) (hb.at (s := 0) (w := 4) (by omega) (by omega) ?_)
  refine hb.gl (s := 1) e1 (by omega) (hb.at (s := 1) (w := 0) (by omega) (by omega) ?_)
  refine hb.gl (s := 1) e1 (by omega) (hb.at (s := 1) (w := 3) (by omega) (by omega) ?_)
  refine hb.gl (s := 1) e1 (by omega) (hb.at (s := 1) (w := 4) (by omega) (by omega) ?_)
  have v1 := hv.up4 (s := 0) (w := 0) (v := 1) (x := (1, 0, 0, 0)) (by omega) (by omega) rfl (fun j hj hj2 => by
    obtain rfl | rfl | rfl : j = 1 ∨ j = 2 ∨ j = 3 := by omega
    all_goals rfl)
  have v2 := v1.up4 (s := 0) (w := 3) (v := 7) (x := (1, 0, 0, 7)) (by omega) (by omega) rfl (fun j hj hj2 => by
    rw [updF_eq]
    obtain rfl | rfl | rfl : j = 0 ∨ j = 1 ∨ j = 2 := by omega
    all_goals rfl)
  rw [updF_upd] at v2
  have v3 := v2.upv (s := 0) (n := 1) (by omega)
  have v4 := v3.up4 (s := 1) (w := 0) (v := 1) (x := (1, 0, 0, 0)) (by omega) (by omega) rfl (fun j hj hj2 => by
    rw [updF_ne (by decide)]
    obtain rfl | rfl | rfl : j = 1 ∨ j = 2 ∨ j = 3 := by omega
    all_goals rfl)
  have v5 := v4.up4 (s := 1) (w := 3) (v := 5) (x := (1, 0, 0, 5)) (by omega) (by omega) rfl (fun j hj hj2 => by
    rw [updF_eq]
    obtain rfl | rfl | rfl : j = 0 ∨ j = 1 ∨ j = 2 := by omega
    all_goals rfl)
  rw [updF_upd] at v5
  have v6 := v5.upv (s := 1) (n := 1) (by omega)
  rw [← stF2, ← vr2] at v6
  generalize hI : up2 (up2 (up2 (up2 (up2 (up2 I (c + 1 + 0) 0 1) (c + 1 + 0) 3 7) (c + 1 + 0) 4 (z32 ((1 : Nat) : Int))) (c + 1 + 1) 0 1) (c + 1 + 1) 3 5) (c + 1 + 1) 4 (z32 ((1 : Nat) : Int)) = J at v6
  have fJ : ∀ q j, ¬ inA c q → J q j = I q j := fun q j hq => by
    have n0 : q ≠ c + 1 + 0 := fun e => hq ⟨by omega, by omega⟩
    have n1 : q ≠ c + 1 + 1 := fun e => hq ⟨by omega, by omega⟩
    rw [← hI, up2_ne n1, up2_ne n1, up2_ne n1, up2_ne n0, up2_ne n0, up2_ne n0]
  have rJ : RC τ0 J D := r.inA hb hw fJ
  have lJ : LW J := lw.fr (FrM.inA hb fJ)
  have hcJ : clo (inA c) (mm J D) := hc
  have oS : ∀ {j : Nat} {D' : DY} {I' : IM} {l : List Int32}, j < 40 → clo (inA c) (mm I' D') → outL (inA c) (dZ D') (vR (some 45) :: vR (some (plS j)) :: l.map vI) := fun hj h => outL.cons (out_c h (by decide)) (outL.cons (out_c h (by have := (strH _ hj).2.2.2.2.2.2.1; omega)) (fun v hv => by
    obtain ⟨x, -, rfl⟩ := List.mem_map.mp hv
    trivial))
  show AI (d + 102) 194 [vR (some 45), vR (some (plS 30)), vI 0, vI 0, vI 0, vI 1] (mm (up2 (up2 (up2 (up2 (up2 (up2 I (c + 1 + 0) 0 1) (c + 1 + 0) 3 7) (c + 1 + 0) 4 (z32 ((1 : Nat) : Int))) (c + 1 + 1) 0 1) (c + 1 + 1) 3 5) (c + 1 + 1) 4 (z32 ((1 : Nat) : Int))) D) _
  rw [hI]
  refine (AI.fk hcJ (oS (j := 30) (l := [0, 0, 0, 1]) (by omega) hcJ) (asks_ok (d := d) (j := 30) (K := fun x I2 D2 => x = 1 ∧ FrM J I2 ∧ GD D D2 ∧ RC ([], σ1, none) I2 D2) (by omega) rJ WT0.1 lJ ask_1 rfl (fun I2 D2 f g r2 => ⟨rfl, f, g, r2⟩))).use (fun x1 I1 D1 ⟨⟨x1e, f1, g1, r1⟩, k1⟩ => ?_)
  rw [x1e]
  refine brP_i (fun q => absurd q (by decide)) (fun _ => ?_)
  have b1 := hb.next k1 g1.2.2.2
  have w1 := v6.fr (fun a ha j => (k1.2.2.2 a ha j).1)
  have c1 := k1.2.1
  refine (AI.fk c1 (oS (j := 31) (l := [1, -1, 0, 1]) (by omega) c1) (asks_ok (d := d) (j := 31) (K := fun x I2 D2 => x = 1 ∧ FrM I1 I2 ∧ GD D1 D2 ∧ RC ([], σ2, none) I2 D2) (by omega) r1 WT1.1 (lJ.fr f1) ask_2 rfl (fun I2 D2 f g r2 => ⟨rfl, f, g, r2⟩))).use (fun x2 I2 D2 ⟨⟨x2e, f2, g2, r2⟩, k2⟩ => ?_)
  rw [x2e]
  refine brP_i (fun q => absurd q (by decide)) (fun _ => ?_)
  have b2 := b1.next k2 g2.2.2.2
  have w2 := w1.fr (fun a ha j => (k2.2.2.2 a ha j).1)
  refine isSo_ok (d := d + 1) b2 k2.2.1 r2 w2 (fun I3 f3 r3 => brP_i (fun q => absurd q (by decide)) (fun _ => aI_i rfl (k I3 D2 ((FrM.inA hb fJ).tr ((f1.tr f2).tr f3)) ?_ ?_ r3)))
  · have := g1.2.1
    have := g2.2.1
    omega
  · have := g1.2.2.1
    have := g2.2.2.1
    omega
end
