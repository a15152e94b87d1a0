/-! The end of the law. -/
def E01 (σ : SS) (x0 x1 : PJ) : Prop := (zP σ 0 0 = some x0 ∧ zP σ 0 1 = some x1) ∧ (jF x0 = 0 ∧ jM x0 = 130 ∧ jY x0 = 0) ∧ (jF x1 = 1 ∧ jM x1 = 511 ∧ jY x1 = 1) ∧ (PJI x0 ((zL σ).take (jP x0)) ∧ PJI x1 ((zL σ).take (jP x1))) ∧ jP x0 ≤ (zL σ).length ∧ jP x1 ≤ (zL σ).length
section
variable {d : Nat} {Q : Option PV → PM → Prop} {κ : Option SS} {x0 x1 : PJ}
/-- the last: told, swapped, told again -/
theorem z_879 {I : IM} {D : DY} {σ : SS} {y : PJ} {l2 l4 : Option Nat} {l3 l6 l7 : Int32} {w8 w9 : PV} (r : RC ([], σ, κ) I D) (wt : WT ([], σ, κ)) (h0 : zP σ 0 0 = some x0) (h1 : zP σ 1 0 = some y) (ht : TRU (zC σ) (zL σ) y) (hp : jP y = jP x0)
    (k : ∀ I2 D2, dZ D2 ≤ dZ D + 600 → dL D2 ≤ dL D + 24000 → Q (some (vI 1)) (mm I2 D2)) :
    Wp GG (d + 104) 268 879 [vR (some 0), vR (some 45), vR l2, vI l3, vR l4, vI (z32 (jP x0 : Int)), vI l6, vI l7, w8, w9] [] (mm I D) Q := by
  refine s_law_879 _ _ _ _ _ _ _ _ (p_look (d := d + 3) r wt.1 _ _ _ (fun I1 D1 f1 g1 r1 => ?_))
  have e1 : S_look ([], σ, κ) 0 1 3 = 1 := look_T (τ := ([], σ, κ)) (p := 0) (w := 1) (by omega) (by omega) h1 ht
  rw [e1]
  refine brP_i (fun q => absurd rfl q) (fun _ => ?_)
  have E : S_swap ([], σ, κ) 0 = (([], setPJ (setPJ σ 1 0 none) 0 0 (some y), κ), z32 (jP y : Int)) := by
    unfold S_swap
    rw [if_pos (by decide)]
    show (match zP σ 1 0 with
      | none => _
      | some y => _) = _
    rw [h1]
    show (match zP σ 0 0 with
      | none => _
      | some x => _) = _
    rw [h0]
    dsimp only
    rw [if_pos (by omega)]
    rfl
  have W := w_swap wt 0
  refine p_swap (d := d + 3) r1 _ (fun I2 D2 f2 g2 r2 => ?_)
  rw [E] at W r2 ⊢
  dsimp only at W r2 ⊢
  rw [hp]
  refine brP_i (fun q => absurd rfl q) (fun _ => ?_)
  refine p_look (d := d + 3) r2 W.1 _ _ _ (fun I3 D3 f3 g3 r3 => ?_)
  have e3 : S_look ([], setPJ (setPJ σ 1 0 none) 0 0 (some y), κ) 0 0 3 = 1 := look_T (τ := ([], setPJ (setPJ σ 1 0 none) 0 0 (some y), κ)) (p := 0) (w := 0) (x := y) (by omega) (by omega) rfl ht
  rw [e3]
  have := g1.2.1
  have := g2.2.1
  have := g3.2.1
  have := g1.2.2.1
  have := g2.2.2.1
  have := g3.2.2.1
  exact brP_i (fun q => absurd rfl q) (fun _ => k I3 D3 (by omega) (by omega))
/-- the rows compared -/
def sameN (x y : PJ) (k : Nat) : Bool := (List.range k).all (fun j => decide (jR x j = jR y j))
theorem sameN_s {x y : PJ} {k : Nat} : sameN x y (k + 1) = (sameN x y k && decide (jR x k = jR y k)) := by
  unfold sameN
  rw [List.range_succ, List.all_append]
  simp
theorem b32_and {p q : Bool} : b32 (p = true) &&& (if q = true then 1 else 0) = b32 ((p && q) = true) := by cases p <;> cases q <;> decide
theorem z_816 {I0 : IM} {D : DY} {σ : SS} {y : PJ} {l2 l4 : Option Nat} {l3 l5 : Int32} {w8 w9 : PV} (h0 : zP σ 0 0 = some x0) (h1 : zP σ 1 0 = some y) (hs : ∀ k, (jR x0 k).isSome = (jR y k).isSome)
    (nx : ∀ I2, RC ([], σ, κ) I2 D → Wp GG (d + 104) 268 858 [vR (some 0), vR (some 45), vR l2, vI l3, vR l4, vI l5, vI (b32 (sameN x0 y 8 = true)), vI (z32 ((8 : Nat) : Int)), w8, w9] [] (mm I2 D) Q) : ∀ (g k : Nat), k + g = 8 → ∀ I, RC ([], σ, κ) I D →
    Wp GG (d + 104) 268 816 [vR (some 0), vR (some 45), vR l2, vI l3, vR l4, vI l5, vI (b32 (sameN x0 y k = true)), vI (z32 (k : Int)), w8, w9] [] (mm I D) Q := by
  intro g
  induction g with
  | zero =>
    intro k hk I r
    obtain rfl : k = 8 := by omega
    exact s_law_816 _ _ _ _ _ _ _ _ (brP_i (fun _ => nx I r) (fun q => absurd (by decide) q))
  | succ g ih =>
    intro k hk I r
    refine s_law_816 _ _ _ _ _ _ _ _ (brP_i (fun q => absurd q ?_) (fun _ => ?_))
    · show ¬ z32 8 ≤ z32 (k : Int)
      rw [z32_le (by omega) (by omega) (by omega) (by omega)]
      omega
    have ea : S_row ([], σ, κ) 0 0 (z32 (k : Int)) = valR (jR x0 k) := row_eq (τ := ([], σ, κ)) (p := 0) (w := 0) (by omega) (by omega) (by omega) h0
    have eb : S_row ([], σ, κ) 0 1 (z32 (k : Int)) = valR (jR y k) := row_eq (τ := ([], σ, κ)) (p := 0) (w := 1) (by omega) (by omega) (by omega) h1
    refine p_row (d := d + 3) r _ _ _ (fun I2 f2 r2 => ?_)
    rw [ea]
    refine p_row (d := d + 3) r2 _ _ _ (fun I3 f3 r3 => ?_)
    rw [eb]
    have go := ih (k + 1) (by omega) I3 r3
    rw [sameN_s, ← b32_and] at go
    have e := valR_eq (hs k)
    refine brP_i (fun q => ?_) (fun q => ?_)
    · refine s_law_849 _ _ _ _ _ _ _ _ _ _ ?_
      rw [decide_eq_false (fun z => q (e.mpr z))] at go
      rw [z32_s]
      exact go
    · refine s_law_849 _ _ _ _ _ _ _ _ _ _ ?_
      rw [decide_eq_true (e.mp (Classical.not_not.mp q))] at go
      rw [z32_s]
      exact go
theorem z_858 {I : IM} {D : DY} {σ : SS} {y : PJ} {l2 l4 : Option Nat} {l3 l7 : Int32} {w8 w9 : PV} (r : RC ([], σ, κ) I D) (wt : WT ([], σ, κ)) (h0 : zP σ 0 0 = some x0) (h1 : zP σ 1 0 = some y) (hy : y = truV (zC σ) (zL σ) (jP x0) 1 (newJ x0)) (h8 : jR x0 8 = none ∧ jR y 8 = none) (ht : TRU (zC σ) (zL σ) y) (hp : jP y = jP x0)
    (k : ∀ I2 D2, dZ D2 ≤ dZ D + 800 → dL D2 ≤ dL D + 32000 → Q (some (vI 1)) (mm I2 D2)) :
    Wp GG (d + 104) 268 858 [vR (some 0), vR (some 45), vR l2, vI l3, vR l4, vI (z32 (jP x0 : Int)), vI (b32 (sameN x0 y 8 = true)), vI l7, w8, w9] [] (mm I D) Q := by
  refine s_law_858 _ _ _ _ _ _ _ _ (p_look (d := d + 3) r wt.1 _ _ _ (fun I1 D1 f1 g1 r1 => ?_))
  have e1 : S_look ([], σ, κ) 0 0 3 = _ := look_3 (τ := ([], σ, κ)) (p := 0) (w := 0) (by omega) (by omega) h0
  have hy2 : truV (zC (tS ([], σ, κ))) (zL (tS ([], σ, κ))) (jP x0) 1 (newJ x0) = y := hy.symm
  rw [hy2] at e1
  rw [e1]
  have g2 := g1.2.1
  have g3 := g1.2.2.1
  have go : Wp GG (d + 104) 268 879 [vR (some 0), vR (some 45), vR l2, vI l3, vR l4, vI (z32 (jP x0 : Int)), vI (b32 (sameN x0 y 8 = true)), vI l7, w8, w9] [] (mm I1 D1) Q := z_879 (d := d) r1 wt h0 h1 ht hp (fun I2 D2 a b => k I2 D2 (by omega) (by omega))
  by_cases hs : sameN x0 y 8 = true
  · have hall : ∀ k ∈ List.range' 0 9, jR x0 k = jR y k := fun k hk => by
      have hk : k < 9 := by
        have := List.mem_range'.mp hk
        omega
      by_cases e : k = 8
      · rw [e, h8.1, h8.2]
      · have := List.all_eq_true.mp hs k (List.mem_range.mpr (by omega))
        exact of_decide_eq_true this
    rw [rsame_1 _ hall]
    refine brP_i (fun q => absurd (by decide) q) (fun _ => s_law_874 _ _ _ _ _ _ _ _ _ (brP_i (fun q => absurd ?_ q) (fun _ => go)))
    rw [hs]
    rfl
  · have hex : ∃ k ∈ List.range' 0 9, jR x0 k ≠ jR y k := by
      refine Classical.byContradiction (fun q => hs ?_)
      refine List.all_eq_true.mpr (fun k hk => decide_eq_true ?_)
      have hk := List.mem_range.mp hk
      exact Classical.byContradiction (fun z => q ⟨k, List.mem_range'.mpr ⟨k, by omega, by omega⟩, z⟩)
    rw [rsame_0 _ hex]
    refine brP_i (fun _ => s_law_874 _ _ _ _ _ _ _ _ _ (brP_i (fun q => absurd ?_ q) (fun _ => go))) (fun q => absurd (by decide) q)
    rw [Bool.eq_false_iff.mpr hs]
    rfl
end
