/-! What is so of the law's store. -/
def SPC (h : Nat) (σ : SS) : Prop := ∃ x0 x1, (zP σ 0 0 = some x0 ∧ zP σ 0 1 = some x1) ∧ (jF x0 = 0 ∧ jM x0 = 130 ∧ jY x0 = 0) ∧ (jF x1 = 1 ∧ jM x1 = 511 ∧ jY x1 = 1) ∧ (PJI x0 ((zL σ).take (jP x0)) ∧ PJI x1 ((zL σ).take (jP x1))) ∧ (jP x0 ≤ (zL σ).length ∧ jP x1 ≤ (zL σ).length) ∧
  (zD σ 4 = z32 (h : Int) ∧ jP x0 + jP x1 = h) ∧ (∀ p x, p < 4 → zQ σ p = some x → okCm (qlK x) ∧ (qlK x).1 ≠ 6) ∧ ∃ q, zQ σ 0 = some q
theorem SPC.grw {h : Nat} {σ σ2 : SS} (hs : SPC h σ) (g : GRW σ σ2) : SPC h σ2 := by
  obtain ⟨x0, x1, ⟨a1, a2⟩, b, c, ⟨d1, d2⟩, ⟨e1, e2⟩, ⟨f1, f2⟩, g1, g2⟩ := hs
  obtain ⟨⟨K, k1⟩, k2, k3, k4, k5⟩ := g
  have ln : (zL σ2).length = (zL σ).length + K.length := by rw [k1, List.length_append]
  refine ⟨x0, x1, ⟨by rw [k3]; exact a1, by rw [k3]; exact a2⟩, b, c, ⟨?_, ?_⟩, ⟨by omega, by omega⟩, ⟨k5.trans f1, f2⟩, by rw [k4]; exact g1, by rw [k4]; exact g2⟩
  · rw [k1, List.take_append_of_le_length e1]
    exact d1
  · rw [k1, List.take_append_of_le_length e2]
    exact d2
theorem SPC.same {h : Nat} {σ σ2 : SS} (hs : SPC h σ) (k1 : zL σ2 = zL σ) (k3 : zP σ2 = zP σ) (k4 : zQ σ2 = zQ σ) (k5 : zD σ2 4 = zD σ 4) : SPC h σ2 := by
  obtain ⟨x0, x1, ⟨a1, a2⟩, b, c, ⟨d1, d2⟩, ⟨e1, e2⟩, ⟨f1, f2⟩, g1, g2⟩ := hs
  exact ⟨x0, x1, ⟨by rw [k3]; exact a1, by rw [k3]; exact a2⟩, b, c, ⟨by rw [k1]; exact d1, by rw [k1]; exact d2⟩, ⟨by rw [k1]; exact e1, by rw [k1]; exact e2⟩, ⟨k5.trans f1, f2⟩, by rw [k4]; exact g1, by rw [k4]; exact g2⟩
section
variable {σ : SS} {κ : Option SS} {T : Tx} {h : Nat}
/-- delivering -/
theorem SPC.dlv (hs : SPC h σ) {p n f : Nat} (hp : p < 2) (hn : 1 ≤ n ∧ n ≤ 240) (hf : 1 ≤ f ∧ f ≤ 1000) : ∃ c : Nat, c ≤ 240 ∧ (S_deliver (T, σ, κ) (z32 (p : Int)) 0 (z32 (f : Int)) (z32 (n : Int))).2 = z32 (c : Int) ∧ ∃ σ2, (S_deliver (T, σ, κ) (z32 (p : Int)) 0 (z32 (f : Int)) (z32 (n : Int))).1 = (T, σ2, κ) ∧ SPC (h + c) σ2 ∧ zL σ2 = zL σ ∧ zA σ2 = zA σ := by
  obtain ⟨x0, x1, ⟨a1, a2⟩, b, c, ⟨d1, d2⟩, ⟨e1, e2⟩, ⟨f1, f2⟩, g1, g2⟩ := hs
  obtain ⟨x, hx, hI, hP⟩ : ∃ x, zP σ 0 p = some x ∧ PJI x ((zL σ).take (jP x)) ∧ jP x ≤ (zL σ).length := by
    obtain rfl | rfl : p = 0 ∨ p = 1 := by omega
    · exact ⟨x0, a1, d1, e1⟩
    · exact ⟨x1, a2, d2, e2⟩
  obtain ⟨m, q1, q2, q3, q4, q5, q6, q7⟩ := dlv_ok (C := zC σ) n f x (zD σ) 0 hf.1 hI hP
  have hp3 : (0 : Int32) ≤ z32 (p : Int) ∧ z32 (p : Int) ≤ 3 := rngN (a := 0) (c := 3) (by omega) (by omega) (by omega)
  have hn2 := rngN (a := 1) (b := n) (c := 240) (by omega) hn.1 hn.2
  have hf1 : ¬ z32 (f : Int) < 1 := by
    show ¬ z32 _ < z32 1
    rw [z32_lt (by omega) (by omega) (by omega) (by omega)]
    omega
  have e0 : S_deliver (T, σ, κ) (z32 (p : Int)) 0 (z32 (f : Int)) (z32 (n : Int)) = ((T, wD (setPJ σ 0 p (some (_root_.id (_root_.id (Prod.fst (Jvm.Pilot.CStockEventsLaw_law_r2429_03c02b.dlv (zC σ) (zL σ) n f x (zD σ) 0)))))) (Jvm.Pilot.CStockEventsLaw_law_r2429_03c02b.dlv (zC σ) (zL σ) n f x (zD σ) 0).2.1, κ), z32 ((Jvm.Pilot.CStockEventsLaw_law_r2429_03c02b.dlv (zC σ) (zL σ) n f x (zD σ) 0).2.2 : Int)) := by
    unfold S_deliver
    rw [if_pos ⟨hp3, by decide, hf1, hn2⟩, aN_z (n := p) (by omega), aN_z (n := f) (by omega), aN_z (n := n) (by omega)]
    show (match zP σ 0 p with | none => _ | some x => _) = _
    rw [hx]
    rfl
  sorry
end
