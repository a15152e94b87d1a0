/-! The constructor's cells get the places that the class's contracts know. -/
def rn (a : Nat) : Nat := if 45 ≤ a ∧ a < 106 then a + 114 else if a < 159 then a else a + 61
def rb (b : Nat) : Nat := if 159 ≤ b then b - 114 else b
def renM (M : PM) : PM := (159, pSl M, fun a => pKd M (rn a), fun a => pLn M (rn a), fun a k => pI M (rn a) k, fun a k => (pR M (rn a) k).map rb)
def ph2 (Γ : CX) : CX := (cxB Γ, cxD Γ, cxC Γ, cxA Γ, cxL Γ, cxX Γ, 106)
theorem rn_lo {a : Nat} (h : a < 45 ∨ 106 ≤ a) (h2 : a < 159) : rn a = a := by
  unfold rn
  rw [if_neg (by omega), if_pos h2]
theorem rb_lo {b : Nat} (h : b < 159) : rb b = b := if_neg (by omega)
section
variable {Γ : CX} {M : PM} {H : Heap}
theorem ren_ad (hG : cxG Γ = 45) {b : Nat} (h : b < 220) (h2 : b < 45 ∨ 106 ≤ b) : adF (ph2 Γ) (rb b) = adF Γ b := by
  unfold rb
  by_cases q : 159 ≤ b
  · rw [if_pos q]
    have e1 : adF Γ b = cxB Γ + (cxG Γ - 45) + (b - 159) := if_pos q
    rw [e1, hG]
    show (if 159 ≤ b - 114 then _ else if 45 ≤ b - 114 ∧ b - 114 < 106 then cxB Γ + (b - 114 - 45) else cxA Γ (b - 114)) = _
    rw [if_neg (by omega), if_pos (by omega)]
    omega
  · rw [if_neg q]
    have e1 : adF Γ b = if 45 ≤ b ∧ b < cxG Γ then cxB Γ + (b - 45) else cxA Γ b := if_neg q
    rw [e1, hG]
    show (if 159 ≤ b then _ else if 45 ≤ b ∧ b < 106 then cxB Γ + (b - 45) else cxA Γ b) = _
    rw [if_neg q, if_neg (by omega), if_neg (by omega)]
theorem ren_opt (hG : cxG Γ = 45) {r : Option Nat} (h : ∀ b, r = some b → b < 220 ∧ (b < 45 ∨ 106 ≤ b)) : (r.map rb).map (adF (ph2 Γ)) = r.map (adF Γ) := by
  cases r with
  | none => simp only [Option.map_none]
  | some b =>
    obtain ⟨h1, h2⟩ := h b rfl
    exact congrArg some (ren_ad hG h1 h2)
theorem ren_ok (hG : cxG Γ = 45) (hz : pSz M = 220) (hr : ∀ a k b, 159 ≤ a → a < 220 → pR M a k = some b → b < 220 ∧ (b < 45 ∨ 106 ≤ b)) (h : RelM Γ M H) : RelM (ph2 Γ) (renM M) H := by
  obtain ⟨g1, g2, g3, ⟨o1, o2, o3, o4, o5, o6⟩, g5, g6, g7⟩ := h
  refine ⟨Nat.le_refl 159, ?_, fun a ha hlt => ?_, ⟨?_, ?_, fun j hj => ?_, fun j hj => ?_, fun w hw => ?_, fun a h1 h2 => ?_⟩, fun a ha => ?_, fun a h1 h2 h3 => ?_, Nat.le_refl 106⟩
  · rw [g2, hz]
    show cxB Γ + (cxG Γ - 45) + (220 - 159) = cxB Γ + (106 - 45) + (159 - 159)
    rw [hG]
  · have hlt : a < 159 := hlt
    have ha : 159 ≤ a ∨ (45 ≤ a ∧ a < 106) := ha
    have hin : 45 ≤ a ∧ a < 106 := by omega
    have er : rn a = a + 114 := if_pos hin
    have hc := g3 (a + 114) (Or.inl (by omega)) (by rw [hz]; omega)
    have ea : adF (ph2 Γ) a = adF Γ (a + 114) := by
      have := ren_ad (b := a + 114) hG (by omega) (Or.inr (by omega))
      rw [← this]
      unfold rb
      rw [if_pos (by omega), Nat.add_sub_cancel]
    have eo : ∀ k, ((pR (renM M) a k).map (adF (ph2 Γ))) = (pR M (a + 114) k).map (adF Γ) := fun k => by
      show ((pR M (rn a) k).map rb).map (adF (ph2 Γ)) = _
      rw [er]
      exact ren_opt hG (fun b hb => hr (a + 114) k b (by omega) (by omega) hb)
    have ek : pKd (renM M) a = pKd M (a + 114) := congrArg (pKd M) er
    have el : pLn (renM M) a = pLn M (a + 114) := congrArg (pLn M) er
    have ei : ∀ k, pI (renM M) a k = pI M (a + 114) k := fun k => congrArg (fun q => pI M q k) er
    unfold cellR at hc ⊢
    rw [ek, el, ea]
    have et : (fun k => teF (ph2 Γ) (renM M) a (pKd M (a + 114)) k) = fun k => teF Γ M (a + 114) (pKd M (a + 114)) k := by
      funext k
      unfold teF
      rw [eo k, ei k]
    have e1 : (fun j => Value.int (pI (renM M) a j)) = fun j => Value.int (pI M (a + 114) j) := by
      funext j
      rw [ei j]
    have e2 : (fun j => va_rf ((pR (renM M) a j).map (adF (ph2 Γ)))) = fun j => va_rf ((pR M (a + 114) j).map (adF Γ)) := by
      funext j
      rw [eo j]
    rw [et, e1, e2]
    rcases hc with hc | hc | hc | ⟨c1, c2, c3⟩
    · exact Or.inl hc
    · exact Or.inr (Or.inl hc)
    · exact Or.inr (Or.inr (Or.inl hc))
    · exact Or.inr (Or.inr (Or.inr ⟨c1, c2, fun j => by rw [ei j]; exact c3 j⟩))
  · exact o1
  · exact o2
  · exact o3 j hj
  · obtain ⟨l1, l2⟩ := plS_lt hj
    obtain ⟨s1, s2, s3, s4, s5, s6⟩ := o4 j hj
    have r1 : rn (plS j) = plS j := rn_lo (by omega) (by omega)
    have r2 : rn (plS j + 1) = plS j + 1 := rn_lo (by omega) (by omega)
    refine ⟨(congrArg (pKd M) r1).trans s1, ?_, (congrArg (fun q => pI M q 1) r1).trans s3, (congrArg (pKd M) r2).trans s4, (congrArg (pLn M) r2).trans s5, fun k => (congrArg (fun q => pI M q k) r2).trans (s6 k)⟩
    show (pR M (rn (plS j)) 0).map rb = _
    rw [r1, s2]
    exact congrArg some (rb_lo (by omega))
  · obtain ⟨s1, s2, s3⟩ := o5 w hw
    have r1 : rn (142 + w) = 142 + w := rn_lo (by omega) (by omega)
    exact ⟨(congrArg (pKd M) r1).trans s1, (congrArg (pLn M) r1).trans s2, fun k hk => (congrArg (fun q => pI M q k) r1).trans (s3 k hk)⟩
  · have r1 : rn a = a := rn_lo (by omega) h2
    exact (congrArg (pKd M) r1).trans (o6 a h1 h2)
  · have ha : 159 ≤ a := ha
    have r1 : rn a = a + 61 := by
      unfold rn
      rw [if_neg (by omega), if_neg (by omega)]
    exact (congrArg (pKd M) r1).trans (g5 (a + 61) (by rw [hz]; omega))
  · have h1 : 106 ≤ a := h1
    omega
end
