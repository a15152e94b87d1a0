theorem e_within {d : Nat} {I : IM} {D : DY} {K : Int32 → IM → Prop} (v lo hi : Int32) : CI d 12 [vI v, vI lo, vI hi] (mm I D) K ↔ K (b32 (lo ≤ v ∧ v ≤ hi)) I := by
  refine CI_iff (s_S_within _ _ _ ?_)
  simp only [brP_iff, qI_iff, and_true]
  refine ⟨fun h => ?_, fun h => ⟨fun h2 => ?_, fun h2 => ?_⟩⟩
  · exact (if_neg (fun q => absurd q.1 (Int32.not_le.mpr h))).symm
  · exact (if_neg (fun q => absurd q.2 (Int32.not_le.mpr h2))).symm
  · exact (if_pos ⟨Int32.not_lt.mp h, Int32.not_lt.mp h2⟩).symm
theorem e_isStream {d : Nat} {I : IM} {D : DY} {K : Int32 → IM → Prop} (s : Int32) : CI (d + 1) 15 [vI s] (mm I D) K ↔ K (b32 (0 ≤ s ∧ s ≤ 7)) I := by
  refine CI_iff (s_S_isStream _ ?_)
  simp only [e_within, rtP_iff, qI_iff, and_true, true_and, b32_r]
theorem e_isSlot {d : Nat} {I : IM} {D : DY} {K : Int32 → IM → Prop} (s : Int32) : CI (d + 1) 110 [vI s] (mm I D) K ↔ K (b32 (0 ≤ s ∧ s ≤ 3)) I := by
  refine CI_iff (s_S_isSlot _ ?_)
  simp only [e_within, rtP_iff, qI_iff, and_true, true_and, b32_r]
theorem e_lhas {d : Nat} {I : IM} {D : DY} {K : Int32 → IM → Prop} (p : Int32) : CI (d + 1) m_Log_has [vR (some 55), vI p] (mm I D) K ↔ K (b32 (1 ≤ p ∧ p ≤ I 55 4)) I := by
  refine CI_iff (s_Log_has _ ?_)
  simp only [e_within, rtP_iff, qI_iff, and_true, true_and, b32_r]
theorem e_bget {d : Nat} {I : IM} {D : DY} {K : Int32 → IM → Prop} (b c : Nat) (s w : Int) (h1 : pKd (mm I D) b = 1) (h2 : pR (mm I D) b 0 = some c) (h3 : pKd (mm I D) c = 20) (h4 : pLn (mm I D) c = 32) (hs : 0 ≤ s ∧ s < 8) (hw : 0 ≤ w ∧ w < 4) :
    CI d m_Bins_get [vR (some b), vI (z32 s), vI (z32 w)] (mm I D) K ↔ K (I c (s * 4 + w).toNat) I := by
  refine CI_iff (s_Bins_get _ _ _ ?_)
  simp only [z32_lit, z32_mul, z32_add, h1, h2, h3, h4, onR_some, tsP_iff, inB]
  rw [brP_f (by rw [z32_lt] <;> omega), brP_f (by show ¬ z32 32 ≤ _; rw [z32_le] <;> omega), z32_toInt (by omega) (by omega), ix_z (by omega) (by omega), qI_iff]
  and_intros <;> first | trivial | rfl | omega
