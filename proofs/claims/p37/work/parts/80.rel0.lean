/-! The memory at the law's entry is the machine's. -/
theorem strP : ∀ j, j < 40 → kd0 (plS j) = 13 ∧ rf0 (plS j) 0 = some (plS j + 1) ∧ kd0 (plS j + 1) = 21 ∧ ln0 (plS j + 1) = (strL.getD j []).length ∧ Nat.beq (plS j + 1) 0 = false := by decide +kernel
theorem digP : ∀ w, w < 2 → kd0 (142 + w) = 21 ∧ ln0 (142 + w) = 100 ∧ Nat.beq (142 + w) 0 = false := by decide +kernel
theorem kd99 : (List.range 300).all (fun a => !((Nat.ble 144 a) || (Nat.ble 45 a && Nat.blt a 106)) || Nat.beq (kd0 a) 99) = true := by decide +kernel
theorem kd_99 {a : Nat} (h : 144 ≤ a ∨ (45 ≤ a ∧ a < 106)) : kd0 a = 99 := by
  by_cases q : a < 300
  · have := List.all_eq_true.mp kd99 a (List.mem_range.mpr q)
    have e : (Nat.ble 144 a || (Nat.ble 45 a && Nat.blt a 106)) = true := by
      rw [Bool.or_eq_true, Bool.and_eq_true]
      exact h.elim (fun z => Or.inl (Nat.ble_eq_true_of_le z)) (fun z => Or.inr ⟨Nat.ble_eq_true_of_le z.1, Nat.ble_eq_true_of_le z.2⟩)
    rw [e, Bool.not_true, Bool.false_or] at this
    exact Nat.eq_of_beq_eq_true this
  · have b1 : Nat.blt a 45 = false := by
      cases h : Nat.blt a 45 with
      | false => rfl
      | true => exact absurd (Nat.le_of_ble_eq_true h) (by omega)
    have b2 : Nat.blt a 159 = false := by
      cases h : Nat.blt a 159 with
      | false => rfl
      | true => exact absurd (Nat.le_of_ble_eq_true h) (by omega)
    unfold kd0
    rw [b1, b2, Bool.and_false]
    rfl
section
variable {Γ : CX} {L : Nat} {xs : Nat → Int32} {H : Heap}
theorem old0 (h1 : cxL Γ = L) (h2 : cxX Γ = xs) : oldR Γ (pm0 L xs) := by
  refine ⟨rfl, h1.symm, fun j _ => by rw [h2]; rfl, fun j hj => ?_, fun w hw => ?_, fun a g1 g2 => kd_99 (Or.inl g1)⟩
  · obtain ⟨q1, q2, q3, q4, q5⟩ := strP j hj
    refine ⟨q1, q2, ?_, q3, ?_, fun k => ?_⟩
    · by_cases z : j < 22
      · have := (pm0_a (L := L) (xs := xs) z).1
        unfold plS
        rw [if_pos z]
        exact this
      · have := (pm0_b (L := L) (xs := xs) hj (by omega)).1
        unfold plS
        rw [if_neg z]
        exact this
    · show (bif Nat.beq (plS j + 1) 0 then L else ln0 (plS j + 1)) = _
      rw [q5]
      exact q4
    · by_cases z : j < 22
      · have := (pm0_a (L := L) (xs := xs) z).2 k
        unfold plS
        rw [if_pos z]
        exact this
      · have := (pm0_b (L := L) (xs := xs) hj (by omega)).2 k
        unfold plS
        rw [if_neg z]
        exact this
  · obtain ⟨q1, q2, q3⟩ := digP w hw
    refine ⟨q1, ?_, fun k hk => ?_⟩
    · show (bif Nat.beq (142 + w) 0 then L else ln0 (142 + w)) = _
      rw [q3]
      exact q2
    · obtain rfl | rfl : w = 0 ∨ w = 1 := by omega
      · rfl
      · rfl
theorem rel0 (h0 : cxB Γ = H.size) (hG : cxG Γ = 45) (h1 : cxL Γ = L) (h2 : cxX Γ = xs) : RelM Γ (pm0 L xs) H := by
  refine ⟨Nat.le_refl _, ?_, fun a g1 g2 => ?_, old0 h1 h2, fun a ha => kd_99 (Or.inl (Nat.le_trans (by decide : 144 ≤ 159) ha)), fun a g1 g2 g3 => kd_99 (Or.inr ⟨g2, g3⟩), by rw [hG]; decide⟩
  · show H.size = cxB Γ + (cxG Γ - 45) + (159 - 159)
    rw [hG, h0]
    rfl
  · have g2 : a < 159 := g2
    have g1 : 159 ≤ a ∨ (45 ≤ a ∧ a < cxG Γ) := g1
    rw [hG] at g1
    omega
end
