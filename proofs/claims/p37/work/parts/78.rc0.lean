/-! The class as it begins. -/
section
variable {L : Nat} {xs : Nat → Int32}
theorem strQ1 : ∀ j, j < 22 → Nat.beq (2 * j + 1) 0 = false ∧ Nat.blt (2 * j + 1) 45 = true ∧ Nat.beq ((2 * j + 1) % 2) 0 = false ∧ Nat.beq (2 * j + 2) 0 = false ∧ Nat.blt (2 * j + 2) 45 = true ∧ Nat.beq ((2 * j + 2) % 2) 0 = true ∧ (2 * j + 2) / 2 - 1 = j := by decide +kernel
theorem strQ2 : ∀ j, j < 40 → 22 ≤ j → Nat.beq (2 * j + 62) 0 = false ∧ Nat.blt (2 * j + 62) 45 = false ∧ (Nat.ble 106 (2 * j + 62) && Nat.blt (2 * j + 62) 142) = true ∧ Nat.beq ((2 * j + 62) % 2) 1 = false ∧ Nat.beq (2 * j + 63) 0 = false ∧ Nat.blt (2 * j + 63) 45 = false ∧ (Nat.ble 106 (2 * j + 63) && Nat.blt (2 * j + 63) 142) = true ∧ Nat.beq ((2 * j + 63) % 2) 1 = true ∧ (2 * j + 63 - 63) / 2 = j := by decide +kernel
theorem pm0_a {j : Nat} (hj : j < 22) : pI (pm0 L xs) (2 * j + 1) 1 = 0 ∧ ∀ k, pI (pm0 L xs) (2 * j + 2) k = (sL j).getD k 0 := by
  obtain ⟨h1, h2, h3, h4, h5, h6, h7⟩ := strQ1 j hj
  constructor
  · show (bif Nat.beq (2 * j + 1) 0 then xs 1 else in0 (2 * j + 1) 1) = 0
    unfold in0
    rw [h1, h2, h3]
    rfl
  · intro k
    show (bif Nat.beq (2 * j + 2) 0 then xs k else in0 (2 * j + 2) k) = _
    unfold in0
    rw [h4, h5, h6, h7]
    rfl
theorem pm0_b {j : Nat} (hj : j < 40) (h22 : 22 ≤ j) : pI (pm0 L xs) (2 * j + 62) 1 = 0 ∧ ∀ k, pI (pm0 L xs) (2 * j + 63) k = (sL j).getD k 0 := by
  obtain ⟨h1, h2, h3, h4, h5, h6, h7, h8, h9⟩ := strQ2 j hj h22
  constructor
  · show (bif Nat.beq (2 * j + 62) 0 then xs 1 else in0 (2 * j + 62) 1) = 0
    unfold in0
    rw [h1, h2, h3, h4]
    rfl
  · intro k
    show (bif Nat.beq (2 * j + 63) 0 then xs k else in0 (2 * j + 63) k) = _
    unfold in0
    rw [h5, h6, h7, h8, h9]
    rfl
theorem RC0 : RC τ0 (iS L xs) (dS L xs) := by
  have z : ∀ {a k : Nat}, (45 ≤ a ∧ a < 106) → spB (a + 114) = false → iS L xs a k = 0 := fun ha hs => iS_0 ha.1 ha.2 hs
  have n : ∀ {a k : Nat}, (45 ≤ a ∧ a < 106) → nrB (a + 114) = true → dR (dS L xs) a k = none := fun ha hs => rS_n ha.1 ha.2 hs
  refine ⟨Nat.le_refl _, fun j hj => ?_, ⟨(iS_ag (by decide)).trans mr8, Nat.zero_le _, fun k hk => absurd hk (Nat.not_lt_zero k), fun x hx => by cases hx⟩, z (by decide) rfl, ?_, ?_, ?_, ?_, ?_⟩
  · obtain ⟨h1, h2⟩ := pm0_a (L := L) (xs := xs) hj
    exact ⟨(iS_lo (by omega) (by omega)).trans h1, fun k _ => (iS_lo (by omega) (by omega)).trans (h2 k)⟩
  · refine ⟨⟨z (by decide) rfl, Nat.zero_le _, fun i e h => (by simp [zL, τ0, σ0] at h), fun s _ => z (by decide) rfl⟩, fun s w _ hw => ?_, ⟨z (by decide) rfl, fun k _ => z (by show 45 ≤ 64 ∧ 64 < 106; decide) rfl, ⟨fun k _ => Nat.zero_le _, fun k i c _ h => by simp [zC, τ0, σ0] at h⟩, fun k i c _ h => (by simp [zC, τ0, σ0] at h), fun j b _ h => ?_⟩, fun s _ => ⟨z (by decide) rfl, Nat.zero_le _, fun j x h => by simp [zN, τ0, σ0] at h⟩, fun k _ => z (by decide) rfl, fun c hc => ?_, fun k _ => z (by decide) rfl, z (by decide) rfl, z (by decide) rfl⟩
    · refine (z (by decide) rfl).trans ?_
      show 0 = s4 w (0, 0, 0, 0)
      unfold s4
      split <;> rfl
    · rcases h with h | h
      · rw [n (by decide) rfl] at h; cases h
      · rw [n (by decide) rfl] at h; cases h
    · have := List.all_eq_true.mp mr6 c (List.mem_range.mpr hc)
      exact (iS_ag (by decide)).trans (of_decide_eq_true this)
  · intro w p hw _
    show dR (dS L xs) (73 + w + 0) p = none
    rcases (show w = 0 ∨ w = 1 by omega) with rfl | rfl
    · exact n (by decide) rfl
    · exact n (by decide) rfl
  · intro p _
    exact n (by decide) rfl
  · intro y q hy _
    rcases hy with rfl | rfl | rfl
    · exact n (by decide) rfl
    · exact n (by decide) rfl
    · exact n (by decide) rfl
  · refine ⟨fun x p y q a hx _ _ _ h _ => ?_, fun x p y q a hx _ _ _ h _ => ?_⟩
    · rcases hx with rfl | rfl | rfl | rfl <;> (rw [n (by decide) rfl] at h; cases h)
    · rcases hx with rfl | rfl <;> (rw [n (by decide) rfl] at h; cases h)
theorem LW0 : LW (iS L xs) := ⟨fun j h1 h2 => by
    obtain ⟨q1, q2⟩ := pm0_b (L := L) (xs := xs) h2 h1
    exact ⟨(iS_lo (by omega) (by omega)).trans q1, fun k _ => (iS_lo (by omega) (by omega)).trans (q2 k)⟩, fun k hk => ⟨(iS_lo (by omega) (by omega)).trans rfl, (iS_lo (by omega) (by omega)).trans rfl⟩⟩
theorem rf0_t : (List.range 159).all (fun a => (List.range 80).all (fun k => !((Nat.blt a 45 || (Nat.ble 106 a && Nat.blt a 142)) && isFn a k) || (Nat.blt (rfT a k) 220 && (Nat.blt (rfT a k) 45 || Nat.ble 106 (rfT a k))))) = true := by decide +kernel
theorem pm0_B (a k : Nat) : okB (pR (pm0 L xs) a k) := by
  intro b hb
  have hb : rf0 a k = some b := hb
  unfold rf0 at hb
  cases hc : (Nat.blt a 45 || (Nat.ble 106 a && Nat.blt a 142)) && isFn a k with
  | false => rw [hc] at hb; cases hb
  | true =>
    rw [hc] at hb
    have hb : some (rfT a k) = some b := hb
    cases hb
    have hf : isFn a k = true := (Bool.and_eq_true _ _ ▸ hc : _ ∧ _).2
    have := List.all_eq_true.mp (List.all_eq_true.mp rf0_t a (List.mem_range.mpr (isFn_159 hf))) k (List.mem_range.mpr (isFn_80 hf))
    rw [hc, Bool.not_true, Bool.false_or, Bool.and_eq_true, Bool.or_eq_true] at this
    exact ⟨Nat.le_of_ble_eq_true this.1, this.2.elim (fun z => Or.inl (Nat.le_of_ble_eq_true z)) (fun z => Or.inr (Nat.le_of_ble_eq_true z))⟩
theorem m1_B (a k : Nat) : okB (pR (m1 L xs) a k) := by
  unfold m1
  exact b_all pm0_B _ okL
theorem OX0 (hL : L < 2147483648) : OX (iS L xs) (dS L xs) := by
  refine ⟨⟨Nat.le_refl _, fun _ e => e.elim, fun a k b ha hb => ⟨?_, fun _ e => e⟩⟩, by rw [dS_N]; exact hL⟩
  have hb : pR (mm (iS L xs) (dS L xs)) a k = some b := hb
  rw [← mS_mm] at hb
  unfold mS at hb
  rw [ren_r] at hb
  have hB := m1_B (L := L) (xs := xs) (rn a) k
  show b < 159
  cases hr : pR (m1 L xs) (rn a) k with
  | none => rw [hr] at hb; cases hb
  | some q =>
    rw [hr] at hb
    have hb : some (rb q) = some b := hb
    obtain ⟨q1, q2⟩ := hB q hr
    have e : rb q = b := Option.some.inj hb
    unfold rb at e
    split at e <;> omega
end
