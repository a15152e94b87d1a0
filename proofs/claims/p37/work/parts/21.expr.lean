/-! What the class reads of a C: its code, behind its operands. -/
/-- the codes that were given so far -/
def CC (I : IM) (c : Tx) : Prop := I 46 3 = z32 (c.length : Int) ∧ c.length ≤ 160 ∧ ∀ k, k < c.length → I 48 k = c.getD k 0
def XC (I : IM) (T : Tx) (r : PS) (c : Tx) : Prop := PC I T r ∧ (∃ cl : Nat, cl ≤ 160 ∧ I 46 3 = z32 (cl : Int)) ∧ ∀ s, r = .inl s → CC I c ∧ c.length + s.length ≤ 160
/-- what the reading of a C may change -/
def PFx (I I2 : IM) : Prop := ∀ a k, a ≠ 48 → (a = 46 → k ≠ 3 ∧ k ≠ 5 ∧ k ≠ 6) → I2 a k = I a k
theorem PFx.rf {I : IM} : PFx I I := fun _ _ _ _ => rfl
theorem PFx.tr {I I2 I3 : IM} (h : PFx I I2) (h2 : PFx I2 I3) : PFx I I3 := fun a k h1 h3 => (h2 a k h1 h3).trans (h a k h1 h3)
theorem PFr.x {I I2 : IM} (h : PFr I I2) : PFx I I2 := fun a k _ h3 => h a k (fun q => (h3 q).2)
theorem TP.fx {I I2 : IM} {T : Tx} (h : TP I T) (hf : PFx I I2) : TP I2 T := by
  obtain ⟨h1, h2, h3, h4⟩ := h
  exact ⟨by rw [hf 46 4 (by omega) (fun _ => by omega)]; exact h1, h2, fun k hk => by rw [hf 47 k (by omega) (fun q => by omega)]; exact h3 k hk, h4⟩
theorem SOK.fx {I I2 : IM} (h : SOK I) (hf : PFx I I2) : SOK I2 := fun j hj => ⟨by rw [hf _ _ (by omega) (fun q => by omega)]; exact (h j hj).1, fun k hk => by rw [hf _ _ (by omega) (fun q => by omega)]; exact (h j hj).2 k hk⟩
def apC (c : Tx) (q : PR Tx) : Tx := match q with
  | .inl (c2, _) => c ++ c2
  | .inr _ => []
theorem setR_mm {I : IM} {D : DY} {a j : Nat} {v : Option Nat} (h : isFn a j = false) : setR (mm I D) a j v = mm I (dZ D, dL D, dK D, dN D, up2 (dR D) a j v, dW D) := by
  unfold setR mm
  refine congrArg (fun R => ((_, _, _, _, _, R) : PM)) ?_
  funext b k
  show up2 (fun a k => bif isFn a k then some (rfT a k) else dR D a k) a j v b k = (bif isFn b k then some (rfT b k) else up2 (dR D) a j v b k)
  by_cases e : b = a ∧ k = j
  · obtain ⟨rfl, rfl⟩ := e
    rw [h, up2_eq]
    exact up2_eq.symm
  · have h1 : ∀ {f : Nat → Nat → Option Nat}, up2 f a j v b k = f b k := if_neg e
    rw [h1]
    cases isFn b k
    · exact h1.symm
    · rfl
theorem c_emit {d : Nat} {I : IM} {D : DY} {K : IM → Prop} {T : Tx} {r : PS} {c : Tx} {x : Int32} (h : XC I T r c) (hl : ∀ s, r = .inl s → c.length + 1 + s.length ≤ 160) (k : ∀ I2, PFx I I2 → XC I2 T r (c ++ [x]) → K I2) : CV d 33 [vR (some 46), vI x] (mm I D) K := by
  obtain ⟨h1, ⟨cl, h2, h3⟩, h4⟩ := h
  refine s_Tape_emit _ ?_
  rw [h3]
  refine brP_i (fun q => ?_) (fun q => ?_)
  · have q : z32 160 ≤ z32 (cl : Int) := q
    rw [z32_le (by omega) (by omega) (by omega) (by omega)] at q
    refine qV_i (k _ PFx.rf ⟨h1, ⟨cl, h2, h3⟩, fun s hs => ?_⟩)
    have h5 := hl s hs
    have h6 := (h4 s hs).1.1
    rw [h3, z32_inj (by omega) (by omega) (by omega) (by omega)] at h6
    omega
  · have q : ¬ z32 160 ≤ z32 (cl : Int) := q
    rw [z32_le (by omega) (by omega) (by omega) (by omega)] at q
    rw [tsP_iff]
    refine ⟨by show 0 ≤ _ ∧ _; rw [z32_toInt (by omega) (by omega)]; omega, ?_⟩
    have hf : PFx I (up2 (up2 I 48 (ixN (z32 (cl : Int))) x) 46 3 (z32 (cl : Int) + 1)) := fun a j g2 g3 => by
      by_cases e : a = 46
      · subst e
        rw [up2_nj (g3 rfl).1, up2_ne (by omega)]
      · rw [up2_ne e, up2_ne g2]
    have e3 : z32 (cl : Int) + 1 = z32 ((cl + 1 : Nat) : Int) := by
      show z32 _ + z32 1 = _
      rw [z32_add]
      rfl
    refine qV_i (k _ hf ⟨⟨h1.1.fx hf, h1.2.1, ?_, ?_⟩, ⟨cl + 1, by omega, by rw [up2_eq, e3]⟩, fun s hs => ?_⟩)
    · rw [up2_nj (by omega), up2_ne (by omega)]
      exact h1.2.2.1
    · rw [up2_nj (by omega), up2_ne (by omega)]
      exact h1.2.2.2
    · obtain ⟨⟨g1, g2, g3⟩, g4⟩ := h4 s hs
      have h5 := hl s hs
      rw [h3, z32_inj (by omega) (by omega) (by omega) (by omega)] at g1
      have g1 : cl = c.length := by omega
      subst g1
      refine ⟨⟨by rw [up2_eq, e3, List.length_append]; rfl, by rw [List.length_append]; simp only [List.length_cons, List.length_nil]; omega, fun k hk => ?_⟩, by rw [List.length_append]; simp only [List.length_cons, List.length_nil]; omega⟩
      rw [List.length_append] at hk
      simp only [List.length_cons, List.length_nil] at hk
      rw [up2_ne (by omega), ix_n (by omega)]
      by_cases e : k = c.length
      · subst e
        rw [up2_eq, List.getD_eq_getElem?_getD, List.getElem?_append_right (Nat.le_refl _), Nat.sub_self]
        rfl
      · rw [up2_nj e, g3 k (by omega), List.getD_eq_getElem?_getD, List.getD_eq_getElem?_getD, List.getElem?_append_left (by omega)]
theorem XC.fr {I I2 : IM} {T : Tx} {r r2 : PS} {c : Tx} (h : XC I T r c) (hf : PFr I I2) (h2 : PC I2 T r2) (hr : ∀ s, r2 = .inl s → ∃ s0, r = .inl s0 ∧ s.length ≤ s0.length) : XC I2 T r2 c := by
  obtain ⟨h1, ⟨cl, h3, h4⟩, h5⟩ := h
  have e3 := hf 46 3 (fun _ => by omega)
  refine ⟨h2, ⟨cl, h3, by rw [e3]; exact h4⟩, fun s hs => ?_⟩
  obtain ⟨s0, e, hl⟩ := hr s hs
  obtain ⟨⟨g1, g2, g3⟩, g4⟩ := h5 s0 e
  exact ⟨⟨by rw [e3]; exact g1, g2, fun k hk => by rw [hf 48 k (fun q => by omega)]; exact g3 k hk⟩, by omega⟩
