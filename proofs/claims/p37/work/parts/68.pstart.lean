/-! From the constructor's end to the loop. -/
section
variable {T : Tx} {σ : SS} {κ : Option SS}
theorem S_project_eq {p : Nat} (hp : p < 4) {x : Nat × Int32 × Nat × Tx} (hx : allP T (pjP T) = .inl x) : S_project (T, σ, κ) (z32 (p : Int)) = (([], setPJ (setPJ σ 0 p (some (newX x))) 1 p none, κ), 1) := by
  have hp3 : (0 : Int32) ≤ z32 (p : Int) ∧ z32 (p : Int) ≤ 3 := rngN (a := 0) (c := 3) (by omega) (by omega) (by omega)
  unfold S_project
  rw [if_pos hp3, aN_z (n := p) (by omega)]
  show (match allP T (pjP T) with
    | .inr f => _
    | .inl x => _) = _
  rw [hx]
theorem S_policy_eq {x : Int32 × Tx × Cm} (hx : allP T (plP T) = .inl x) : S_policy (T, σ, κ) 0 = (([], setQS σ 0 (newQL x (zL σ).length), κ), 1) := by
  unfold S_policy
  rw [if_pos (by decide)]
  show (match allP T (plP T) with
    | .inr f => _
    | .inl x => _) = _
  rw [hx]
  rfl
theorem allP_p {α : Type} {r : PR α} {x : α} (h : allP T r = .inl x) : r = .inl (x, []) := by
  unfold allP at h
  split at h
  · cases h
    rfl
  · cases h
  · cases h
end
def σ3 : SS := setPJ (setPJ σ2 0 0 (some (newX (0, 130, 0, [1])))) 1 0 none
def σ4 : SS := setPJ (setPJ σ3 0 1 (some (newX (1, 511, 1, [1])))) 1 1 none
theorem SPC4 {x : Int32 × Tx × Cm} (hx : allP (sL 34) (plP (sL 34)) = .inl x) (h1 : x.2.2.1 = 1) : SPC 0 (setQS σ4 0 (newQL x (zL σ4).length)) := by
  refine ⟨newX (0, 130, 0, [1]), newX (1, 511, 1, [1]), ⟨rfl, rfl⟩, ⟨rfl, rfl, rfl⟩, ⟨rfl, rfl, rfl⟩, ⟨PJI.nil rfl (fun _ => rfl), PJI.nil rfl (fun _ => rfl)⟩, ⟨Nat.zero_le _, Nat.zero_le _⟩, ⟨?_, rfl⟩, fun p y hp hy => ?_, ⟨_, updF_eq (f := zQ σ4) (s := 0)⟩⟩
  · show zD σ4 4 = z32 0
    decide +kernel
  · have hy : updF (zQ σ4) 0 (some (newQL x (zL σ4).length)) p = some y := hy
    by_cases z : p = 0
    · rw [z, updF_eq] at hy
      cases hy
      exact ⟨(plP_wf (by decide +kernel) (allP_p hx)).2.1, by show x.2.2.1 ≠ 6; rw [h1]; decide⟩
    · rw [updF_ne z] at hy
      exact absurd (show (none : Option QL) = some y from hy) (fun q => by cases q)
section
variable {d : Nat} {I : IM} {D : DY} {Q : Option PV → PM → Prop} {κ : Option SS}
theorem OX.i {I2 : IM} (h : OX I D) : OX I2 D := h
theorem OX.gmk (hz : 159 ≤ dZ D) (h : OX I D) : OX (zgI I (dZ D) 8) (_root_.id (gmk D 8 5 2)) := by
  have h2 := (FK.gmk (n := 8) (m := 5) h.1).2.1
  rw [mkG_mm 2 hz] at h2
  refine ⟨h2, ?_⟩
  show (if 0 = dZ D then 8 else if dZ D < 0 ∧ 0 < dZ D + (1 + 8) then 5 else dN D 0) < _
  rw [if_neg (by omega), if_neg (by omega)]
  exact h.2
theorem xproject {τ : ST} {K : Int32 → IM → DY → Prop} (h : RC τ I D) (ox : OX I D) (p : Int32) (k : ∀ I2 D2, FrM I I2 → GD D D2 → OX I2 D2 → RC (S_project τ p).1 I2 D2 → K (S_project τ p).2 I2 D2) : AI (d + 100) 109 [vR (some 45), vI p] (mm I D) K :=
  AI.ox (K0 := fun x I2 D2 => x = (S_project τ p).2 ∧ FrM I I2 ∧ GD D D2 ∧ RC (S_project τ p).1 I2 D2) ox (out45 (l := [p]) ox.1) (p_project (d := d) h p (fun I2 D2 f g r => ⟨rfl, f, g, r⟩)) (fun x I2 D2 ⟨e, f, g, r⟩ o => by rw [e]; exact k I2 D2 f g o r)
theorem xpolicy {τ : ST} {K : Int32 → IM → DY → Prop} (h : RC τ I D) (ox : OX I D) (p : Int32) (k : ∀ I2 D2, FrM I I2 → GD D D2 → OX I2 D2 → RC (S_policy τ p).1 I2 D2 → K (S_policy τ p).2 I2 D2) : AI (d + 100) 132 [vR (some 45), vI p] (mm I D) K :=
  AI.ox (K0 := fun x I2 D2 => x = (S_policy τ p).2 ∧ FrM I I2 ∧ GD D D2 ∧ RC (S_policy τ p).1 I2 D2) ox (out45 (l := [p]) ox.1) (p_policy (d := d) h p (fun I2 D2 f g r => ⟨rfl, f, g, r⟩)) (fun x I2 D2 ⟨e, f, g, r⟩ o => by rw [e]; exact k I2 D2 f g o r)
theorem xopened {K : Int32 → IM → DY → Prop} (hz : 159 ≤ dZ D) (r : RC τ0 I D) (lw : LW I) (ox : OX I D) (k : ∀ I2 D2, FrM I I2 → dZ D2 ≤ dZ D + 409 → dL D2 ≤ dL D + 16048 → OX I2 D2 → RC ([], σ2, none) I2 D2 → K 1 I2 D2) : AR (d + 103) 195 [] (mm I D) (fun x1 I1 D1 => AI (d + 103) 202 [vR (some 45), vR x1] (mm I1 D1) K) := by
  have c1 : CHX XN I D (zgI I (dZ D) 8) (gmk D 8 5 2) 9 48 := g_chx
  have ox1 : OX (zgI I (dZ D) 8) (gmk D 8 5 2) := ox.gmk hz
  refine s_L_bins ⟨_, _, mkG_mm 2 hz, aR_i rfl ?_⟩
  refine AI.ox (K0 := fun x I2 D2 => x = 1 ∧ FrM I I2 ∧ dZ D2 ≤ dZ D + 409 ∧ dL D2 ≤ dL D + 16048 ∧ RC ([], σ2, none) I2 D2) ox1 (outL.cons (out_c ox1.1 (by decide)) (outL.cons ⟨show dZ D < dZ D + (1 + 8) by omega, id⟩ outL.nil)) ?_ (fun x I2 D2 ⟨e, f, z, l, r2⟩ o => by rw [e]; exact k I2 D2 f z l o r2)
  have hw : dW (gmk D 8 5 2) (dZ D) = 2 := if_pos ⟨Nat.le_refl _, by omega⟩
  have fz : FrM I (zgI I (dZ D) 8) := fun q j h1 h2 => c1.2 q j (by omega) id
  refine opened_ok (d := d) (BNS.new hz) hw (clo_gmk hz ox.1) (r.chx c1) (lw.fr fz) BNV.new (fun I2 D2 f z l r2 => ⟨rfl, fz.tr f, ?_, ?_, r2⟩)
  · have : dZ (gmk D 8 5 2) = dZ D + 9 := rfl
    omega
  · have : dL (gmk D 8 5 2) = dL D + 48 := rfl
    omega
/-- up to the loop -/
theorem l_start {Z S : Nat} (hz : 159 ≤ dZ D) (r : RC τ0 I D) (lw : LW I) (ox : OX I D) (hZ : dZ D + 1010 ≤ Z) (hS : dL D + 40100 ≤ S)
    (k : ∀ l2 σ I2 D2, LIV l2 0 ([], σ, none) I2 D2 → dZ D2 ≤ Z → dL D2 ≤ S → Wp GG (d + 104) 268 86 [vR (some 0), vR (some 45), vR (some l2), vI (z32 ((0 : Nat) : Int)), vI (z32 ((0 : Nat) : Int)), vT, vT, vT, vT, vT] [] (mm I2 D2) Q) :
    Wp GG (d + 104) 268 7 [vR (some 0), vT, vT, vT, vT, vT, vT, vT, vT, vT] [vR (some 45)] (mm I D) Q := by
  obtain ⟨x, hx, hx1⟩ := par_34
  refine s_law_7 (xopened (d := d) hz r lw ox (fun I2 D2 f2 z2 l2 o2 r2 => ?_))
  have lw2 := lw.fr f2
  refine brP_i (fun _ => ?_) (fun q => absurd (by decide) q)
  refine tell_con (d := d + 2) (j := 32) (by omega) lw2 r2 (fun I3 f3 r3 => brP_i (fun q => absurd q (by decide)) (fun _ => ?_))
  have W3 := w_project (τ := (sL 32, σ2, none)) WT2 0
  have E3 := S_project_eq (T := sL 32) (σ := σ2) (κ := none) (p := 0) (by omega) par_32
  refine xproject (d := d + 3) r3 (o2.i (I2 := I3)) _ (fun I4 D4 f4 g4 o4 r4 => ?_)
  have E3 : S_project (sL 32, σ2, none) 0 = (([], σ3, none), 1) := E3
  rw [E3] at W3 r4 ⊢
  dsimp only at W3 r4 ⊢
  have lw4 := (lw2.fr f3.m).fr f4
  refine brP_i (fun q => absurd rfl q) (fun _ => ?_)
  refine tell_con (d := d + 2) (j := 33) (by omega) lw4 r4 (fun I5 f5 r5 => brP_i (fun q => absurd q (by decide)) (fun _ => ?_))
  have W5 := w_project (τ := (sL 33, σ3, none)) W3 1
  have E5 : S_project (sL 33, σ3, none) 1 = (([], σ4, none), 1) := S_project_eq (T := sL 33) (σ := σ3) (κ := none) (p := 1) (by omega) par_33
  refine xproject (d := d + 3) r5 (o4.i (I2 := I5)) _ (fun I6 D6 f6 g6 o6 r6 => ?_)
  rw [E5] at W5 r6 ⊢
  dsimp only at W5 r6 ⊢
  have lw6 := (lw4.fr f5.m).fr f6
  refine brP_i (fun q => absurd rfl q) (fun _ => ?_)
  refine tell_con (d := d + 2) (j := 34) (by omega) lw6 r6 (fun I7 f7 r7 => brP_i (fun q => absurd q (by decide)) (fun _ => ?_))
  have W7 := w_policy (τ := (sL 34, σ4, none)) W5 0
  refine xpolicy (d := d + 3) r7 (o6.i (I2 := I7)) _ (fun I8 D8 f8 g8 o8 r8 => ?_)
  rw [S_policy_eq hx] at W7 r8 ⊢
  dsimp only at W7 r8 ⊢
  have lw8 := (lw6.fr f7.m).fr f8
  refine brP_i (fun _ => ?_) (fun q => absurd rfl q)
  have hz8 : 159 ≤ dZ D8 := r8.1
  refine s_law_76 (can_mk 2 hz8 ?_)
  have c9 : CHX XN I8 D8 (upr I8 (dZ D8) 0) (dmk D8 20 6 2) 1 6 := ⟨DX.mk, fun q j hq _ => upr_ne (by omega)⟩
  have cl := clo.mk (c := 20) (n := 6) o8.1
  rw [mk_mm 2 hz8] at cl
  refine k (dZ D8) _ _ _ ⟨r8.chx c9, W7, rfl, lw8.chx hz8 c9, ⟨?_, up1_eq, up1_eq, up1_eq, ?_⟩, fun j h1 h2 => ?_, SPC4 hx hx1⟩ ?_ ?_
  · exact cl.sub (fun a e => Or.inr e) (fun a ha hn => absurd (ha.resolve_left id) hn)
  · show up1 (dN D8) (dZ D8) 6 0 < _
    rw [up1_ne (by omega)]
    exact o8.2
  · rw [upr_eq]
    rfl
  · have := g4.2.1
    have := g6.2.1
    have := g8.2.1
    show dZ D8 + 1 ≤ _
    omega
  · have := g4.2.2.1
    have := g6.2.2.1
    have := g8.2.2.1
    show dL D8 + 6 ≤ _
    omega
end
