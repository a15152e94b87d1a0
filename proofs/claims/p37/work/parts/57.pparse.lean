/-! The law's texts are texts. -/
def txA (k a : Nat) : Tx := if k < 7 then sL (wIx k) ++ sL 28 ++ nt a else sL (wIx k)
def txB (k a t : Nat) : Tx := if k = 6 then txA k a ++ sL 29 ++ nt t else txA k a
theorem texV_B (v : Nat) : texV v = txB (kN v) (aMt v) (v / 65536 % 3) := rfl
def ckA (T : Tx) : Bool := match allP T (cmP false T) with
  | .inl _ => true
  | .inr _ => false
def ckB (T : Tx) : Bool := match allP T (lnsP 40 [] T) with
  | .inl l => Nat.beq l.length 2
  | .inr _ => false
theorem ckA_p {T : Tx} (h : ckA T = true) : ∃ cm, allP T (cmP false T) = .inl cm := by
  unfold ckA at h
  split at h
  · rename_i cm e
    exact ⟨cm, e⟩
  · cases h
theorem ckB_p {T : Tx} (h : ckB T = true) : ∃ l, allP T (lnsP 40 [] T) = .inl l ∧ l.length = 2 := by
  unfold ckB at h
  split at h
  · rename_i l e
    exact ⟨l, e, Nat.eq_of_beq_eq_true h⟩
  · cases h
theorem ckA_1 : ∀ k, k < 6 → ∀ a, a < 40 → ckA (txB k a 0) = true := by decide +kernel
theorem ckA_6 : ∀ a, a < 40 → ∀ t, t < 3 → ckA (txB 6 a t) = true := by decide +kernel
theorem ckA_7 : ckA (txB 7 0 0) = true := by decide +kernel
theorem txB_t {k a t : Nat} (h : k ≠ 6) : txB k a t = txB k a 0 := by
  unfold txB
  rw [if_neg h, if_neg h]
theorem txB_7 {a t : Nat} : txB 7 a t = txB 7 0 0 := rfl
/-- what an asking's text says -/
theorem par_A (v : Nat) : ∃ cm, allP (texV v) (cmP false (texV v)) = .inl cm := by
  refine ckA_p ?_
  rw [texV_B]
  have h8 := kN_lt v
  have h4 := aMt_lt v
  by_cases h6 : kN v = 6
  · rw [h6]
    exact ckA_6 _ h4 _ (by omega)
  · by_cases h7 : kN v = 7
    · rw [h7, txB_7]
      exact ckA_7
    · rw [txB_t h6]
      exact ckA_1 _ (by omega) _ h4
/-- a batch's text -/
def btB (s k a t s2 : Nat) : Tx := nt s ++ sL 37 ++ txB k a t ++ sL 38 ++ nt s2 ++ sL 39
theorem ckB_1 : ∀ s, s < 3 → ∀ s2, s2 < 3 → ∀ k, k < 6 → ∀ a, a < 40 → ckB (btB s k a 0 s2) = true := by decide +kernel
theorem ckB_6 : ∀ s, s < 3 → ∀ s2, s2 < 3 → ∀ a, a < 40 → ∀ t, t < 3 → ckB (btB s 6 a t s2) = true := by decide +kernel
theorem ckB_7 : ∀ s, s < 3 → ∀ s2, s2 < 3 → ckB (btB s 7 0 0 s2) = true := by decide +kernel
theorem par_B (v s s2 : Nat) (hs : s < 3) (hs2 : s2 < 3) : ∃ l, allP (nt s ++ sL 37 ++ texV v ++ sL 38 ++ nt s2 ++ sL 39) (lnsP 40 [] (nt s ++ sL 37 ++ texV v ++ sL 38 ++ nt s2 ++ sL 39)) = .inl l ∧ l.length = 2 := by
  refine ckB_p ?_
  rw [texV_B]
  have h8 := kN_lt v
  have h4 := aMt_lt v
  show ckB (btB s (kN v) (aMt v) (v / 65536 % 3) s2) = true
  by_cases h6 : kN v = 6
  · rw [h6]
    exact ckB_6 s hs s2 hs2 _ h4 _ (by omega)
  · by_cases h7 : kN v = 7
    · rw [h7]
      exact ckB_7 s hs s2 hs2
    · have e : btB s (kN v) (aMt v) (v / 65536 % 3) s2 = btB s (kN v) (aMt v) 0 s2 := by
        unfold btB
        rw [txB_t h6]
      rw [e]
      exact ckB_1 s hs s2 hs2 _ (by omega) _ h4
theorem par_32 : allP (sL 32) (pjP (sL 32)) = .inl (0, 130, 0, [1]) := by decide +kernel
theorem par_33 : allP (sL 33) (pjP (sL 33)) = .inl (1, 511, 1, [1]) := by decide +kernel
theorem par_35 : ∃ x, allP (sL 35) (upP (sL 35)) = .inl x := ⟨_, rfl⟩
theorem par_36 : ∃ x, allP (sL 36) (upP (sL 36)) = .inl x := ⟨_, rfl⟩
def ckP (T : Tx) : Bool := match allP T (plP T) with
  | .inl x => Nat.beq x.2.2.1 1
  | .inr _ => false
theorem ckP_p {T : Tx} (h : ckP T = true) : ∃ x, allP T (plP T) = .inl x ∧ x.2.2.1 = 1 := by
  unfold ckP at h
  split at h
  · rename_i l e
    exact ⟨l, e, Nat.eq_of_beq_eq_true h⟩
  · cases h
theorem par_34 : ∃ x, allP (sL 34) (plP (sL 34)) = .inl x ∧ x.2.2.1 = 1 := ckP_p (by decide +kernel)
theorem par_30 : ∃ cm, allP (sL 30) (cmP false (sL 30)) = .inl cm ∧ cm = (0, 7, 0, none) := ⟨_, by decide +kernel, rfl⟩
theorem par_31 : ∃ cm, allP (sL 31) (cmP false (sL 31)) = .inl cm ∧ cm = (0, 5, 0, none) := ⟨_, by decide +kernel, rfl⟩
