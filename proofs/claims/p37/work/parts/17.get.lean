theorem e_within {d : Nat} {I : IM} {D : DY} {K : Int32 → IM → Prop} (v lo hi : Int32) : CI d 12 [vI v, vI lo, vI hi] (mm I D) K ↔ K (b32 (lo ≤ v ∧ v ≤ hi)) I := by
  refine CI_iff (s_S_within _ _ _ ?_)
  simp only [brP_iff, qI_iff, and_true]
  refine ⟨fun h => ?_, fun h => ⟨fun h2 => ?_, fun h2 => ?_⟩⟩
  · exact (if_neg (fun q => absurd q.1 (Int32.not_le.mpr h))).symm
  · exact (if_neg (fun q => absurd q.2 (Int32.not_le.mpr h2))).symm
  · exact (if_pos ⟨Int32.not_lt.mp h, Int32.not_lt.mp h2⟩).symm
theorem e_isStream {d : Nat} {I : IM} {D : DY} {K : Int32 → IM → Prop} (s : Int32) : CI (d + 1) 15 [vI s] (mm I D) K ↔ K (b32 (0 ≤ s ∧ s ≤ 7)) I := by
  refine CI_iff (s_S_isStream _ ?_)
  simp only [e_within, rtP_iff, qI_iff, and_true, true_and, b32_r]
theorem e_isSlot {d : Nat} {I : IM} {D : DY} {K : Int32 → IM → Prop} (s : Int32) : CI (d + 1) 110 [vI s] (mm I D) K ↔ K (b32 (0 ≤ s ∧ s ≤ 3)) I := by
  refine CI_iff (s_S_isSlot _ ?_)
  simp only [e_within, rtP_iff, qI_iff, and_true, true_and, b32_r]
theorem e_lhas {d : Nat} {I : IM} {D : DY} {K : Int32 → IM → Prop} (p : Int32) : CI (d + 1) m_Log_has [vR (some 55), vI p] (mm I D) K ↔ K (b32 (1 ≤ p ∧ p ≤ I 55 4)) I := by
  refine CI_iff (s_Log_has _ ?_)
  simp only [e_within, rtP_iff, qI_iff, and_true, true_and, b32_r]
theorem e_bget {d : Nat} {I : IM} {D : DY} {K : Int32 → IM → Prop} (b c : Nat) (s w : Int) (h1 : pKd (mm I D) b = 1) (h2 : pR (mm I D) b 0 = some c) (h3 : pKd (mm I D) c = 20) (h4 : pLn (mm I D) c = 32) (hs : 0 ≤ s ∧ s < 8) (hw : 0 ≤ w ∧ w < 4) :
    CI d m_Bins_get [vR (some b), vI (z32 s), vI (z32 w)] (mm I D) K ↔ K (I c (s * 4 + w).toNat) I := by
  refine CI_iff (s_Bins_get _ _ _ ?_)
  simp only [z32_lit, z32_mul, z32_add, h1, h2, h3, h4, onR_some, tsP_iff, inB]
  rw [brP_f (by rw [z32_lt] <;> omega), brP_f (by show ¬ z32 32 ≤ _; rw [z32_le] <;> omega), z32_toInt (by omega) (by omega), ix_z (by omega) (by omega), qI_iff]
  and_intros <;> first | trivial | rfl | omega
theorem kd_s {I : IM} {D : DY} {a : Nat} (h : a < 159) : pKd (mm I D) a = kdT a := by
  show (bif Nat.ble nST a then dK D a else kdT a) = _
  have : Nat.ble nST a = false := by
    cases hq : Nat.ble nST a with
    | false => rfl
    | true => have h2 := Nat.le_of_ble_eq_true hq; have h3 : nST = 159 := rfl; omega
  rw [this]
  rfl
theorem ln_s {I : IM} {D : DY} {a : Nat} (h : a < 159) (h0 : 0 < a) : pLn (mm I D) a = lnT a := by
  show (bif Nat.ble nST a then dN D a else (bif Nat.beq a 0 then dN D 0 else lnT a)) = _
  have : Nat.ble nST a = false := by
    cases hq : Nat.ble nST a with
    | false => rfl
    | true => have h2 := Nat.le_of_ble_eq_true hq; have h3 : nST = 159 := rfl; omega
  have e2 : Nat.beq a 0 = false := by
    cases hq : Nat.beq a 0 with
    | false => rfl
    | true => have h2 := Nat.eq_of_beq_eq_true hq; omega
  rw [this, e2]
  rfl
theorem rf_s {I : IM} {D : DY} {a k : Nat} (h : isFn a k = true) : pR (mm I D) a k = some (rfT a k) := by
  show (bif isFn a k then some (rfT a k) else dR D a k) = _
  rw [h]
  rfl
/-- the text of the j-th String constant -/
abbrev sL (j : Nat) : Tx := strL.getD j []
theorem strF : ∀ j, j < 22 → kdT (2 * j + 1) = 13 ∧ isFn (2 * j + 1) 0 = true ∧ rfT (2 * j + 1) 0 = 2 * j + 2 ∧ kdT (2 * j + 2) = 21 ∧ lnT (2 * j + 2) = (sL j).length ∧ (sL j).length ≤ 60 ∧ (Int32.ofNat (sL j).length) >>> 0 = z32 (sL j).length := by decide +kernel
theorem strG : ∀ j, j < 22 → ∀ x ∈ sL j, (Int32.toUInt32 (x &&& 255) % 65536).toInt32 = x ∧ (x.toUInt32 % 65536).toInt32 = x ∧ 32 ≤ x.toInt ∧ x.toInt ≤ 122 := by decide +kernel
/-- the String constants are as they were -/
def SOK (I : IM) : Prop := ∀ j, j < 22 → I (2 * j + 1) 1 = 0 ∧ ∀ k, k < (sL j).length → I (2 * j + 2) k = (sL j).getD k 0
theorem SOK.mono {I I2 : IM} (h : SOK I) (hq : ∀ a, a < 45 → I2 a = I a) : SOK I2 := fun j hj => ⟨by rw [hq _ (by omega)]; exact (h j hj).1, fun k hk => by rw [hq _ (by omega)]; exact (h j hj).2 k hk⟩
theorem e_coder {d : Nat} {I : IM} {D : DY} {K : Int32 → IM → Prop} {j : Nat} (hI : SOK I) (hj : j < 22) : CI d 8 [vR (some (2 * j + 1))] (mm I D) K ↔ K 0 I := by
  obtain ⟨f1, f2, f3, f4, f5, f6, f7⟩ := strF j hj
  refine CI_iff (s_String_coder _ ?_)
  simp only [tsP_iff, rtP_iff, qI_iff, (hI j hj).1, kd_s (show 2 * j + 1 < 159 by omega), f1]
  exact ⟨trivial, rfl, trivial, trivial⟩
theorem e_latin {d : Nat} {I : IM} {D : DY} {K : Int32 → IM → Prop} {j : Nat} (hI : SOK I) (hj : j < 22) : CI d 21 [vR (some (2 * j + 1))] (mm I D) K ↔ K 1 I := by
  obtain ⟨f1, f2, f3, f4, f5, f6, f7⟩ := strF j hj
  refine CI_iff (s_String_isLatin1 _ ?_)
  simp only [tsP_iff, brP_iff, qI_iff, (hI j hj).1, kd_s (show 2 * j + 1 < 159 by omega), f1]
  simp
theorem e_slen {d : Nat} {I : IM} {D : DY} {K : Int32 → IM → Prop} {j : Nat} (hI : SOK I) (hj : j < 22) : CI (d + 1) 7 [vR (some (2 * j + 1))] (mm I D) K ↔ K (z32 (sL j).length) I := by
  obtain ⟨f1, f2, f3, f4, f5, f6, f7⟩ := strF j hj
  refine CI_iff (s_String_length _ ?_)
  simp only [tsP_iff, e_coder hI hj, qI_iff, kd_s (show 2 * j + 1 < 159 by omega), kd_s (show 2 * j + 2 < 159 by omega), ln_s (show 2 * j + 2 < 159 by omega) (by omega), f1, rf_s f2, f3, onR_some, f4, f5, f7]
  simp
theorem e_chatL {d : Nat} {I : IM} {D : DY} {K : Int32 → IM → Prop} {j k : Nat} (hI : SOK I) (hj : j < 22) (hk : k < (sL j).length) : CI (d + 2) 22 [vR (some (2 * j + 2)), vI (z32 k)] (mm I D) K ↔ K ((sL j).getD k 0) I := by
  obtain ⟨f1, f2, f3, f4, f5, f6, f7⟩ := strF j hj
  have hm : (sL j).getD k 0 ∈ sL j := by
    rw [List.getD_eq_getElem?_getD, List.getElem?_eq_getElem hk]
    exact List.getElem_mem hk
  obtain ⟨g1, g2, g3, g4⟩ := strG j hj _ hm
  refine CI_iff (s_StringLatin1_charAt _ _ ?_)
  have e1 : (Int32.ofNat (sL j).length).toInt = (sL j).length := by
    show (z32 ((sL j).length : Int)).toInt = _
    rw [z32_toInt (by omega) (by omega)]
  simp only [onR_some, tsP_iff, rtP_iff, qI_iff, kd_s (show 2 * j + 2 < 159 by omega), ln_s (show 2 * j + 2 < 159 by omega) (by omega), f4, f5, e1, inB, z32_toInt (n := (k : Int)) (by omega) (by omega), ix_n (n := k) (by omega), (hI j hj).2 k hk, g1]
  refine ⟨by decide, by omega, trivial, by omega, g2, trivial, trivial⟩
theorem e_chat {d : Nat} {I : IM} {D : DY} {K : Int32 → IM → Prop} {j k : Nat} (hI : SOK I) (hj : j < 22) (hk : k < (sL j).length) : CI (d + 3) 20 [vR (some (2 * j + 1)), vI (z32 k)] (mm I D) K ↔ K ((sL j).getD k 0) I := by
  obtain ⟨f1, f2, f3, f4, f5, f6, f7⟩ := strF j hj
  have hm : (sL j).getD k 0 ∈ sL j := by
    rw [List.getD_eq_getElem?_getD, List.getElem?_eq_getElem hk]
    exact List.getElem_mem hk
  obtain ⟨g1, g2, g3, g4⟩ := strG j hj _ hm
  refine CI_iff (s_String_charAt _ _ ?_)
  simp only [tsP_iff, e_latin hI hj, kd_s (show 2 * j + 1 < 159 by omega), f1, rf_s f2, f3, e_chatL hI hj hk, rtP_iff, qI_iff]
  rw [brP_f (by decide)]
  exact ⟨trivial, trivial, g2, trivial, trivial⟩
