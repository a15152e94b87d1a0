/-! The model's numbers. -/
theorem dig_b (x : Int32) : b32 (48 ≤ x ∧ x ≤ 57) = b32 (digB x = true) := by
  have : (48 ≤ x ∧ x ≤ 57) ↔ digB x = true := by
    unfold digB
    rw [Bool.and_eq_true, decide_eq_true_eq, decide_eq_true_eq]
  by_cases h : digB x = true
  · rw [b32_t h, b32_t (this.mpr h)]
  · rw [b32_f h, b32_f (fun c => h (this.mp c))]
theorem mnum_fin {d : Nat} {I : IM} {D : DY} {K : Int32 → IM → Prop} {T s0 : Tx} {most : Int} (h1 : -2147483648 ≤ most) (h2 : most ≤ 2147483647) (hs : sfx s0 T) {f : Nat} (hf : f ≤ 4) (hl : f ≤ s0.length) (hg : dgOf s0 = s0.take f) (ha : (s0.take f).all digB = true) (h : MP I T (.inl (s0.drop f)))
    (k : ∀ x I2, NFr I I2 → MP I2 T (aft (nbP most s0)) → (∀ v s, nbP most s0 = .inl (v, s) → x = z32 v) → K x I2) :
    brP ((I 106 3) = z32 ((T.length - s0.length : Nat) : Int)) (CV d 175 [vR (some 106), vI (z32 ((T.length - s0.length : Nat) : Int))] (mm I D) (fun I1 => qI (mm I D) K (some (vI (z32 (dgV (s0.take f))))) (mm I1 D)))
      (brP (z32 (dgV (s0.take f)) ≤ z32 most) (qI (mm I D) K (some (vI (z32 (dgV (s0.take f))))) (mm I D)) (CV d 175 [vR (some 106), vI (z32 ((T.length - s0.length : Nat) : Int))] (mm I D) (fun I1 => qI (mm I D) K (some (vI (z32 (dgV (s0.take f))))) (mm I1 D)))) := by
  have hb := dgV_b f (s0.take f) (by rw [List.length_take]; omega) ha
  have hb2 : dgV (s0.take f) < 10000 := Int.lt_of_lt_of_le hb.2 (by
    rcases (by omega : f = 0 ∨ f = 1 ∨ f = 2 ∨ f = 3 ∨ f = 4) with rfl | rfl | rfl | rfl | rfl <;> decide)
  have h160 := h.1.2.1
  have hsl := hs.1
  obtain ⟨g1, g2, g3⟩ := h.in
  rw [List.length_drop] at g2
  have hnb : nbP most s0 = if f = 0 ∨ most < dgV (s0.take f) then .inr s0.length else .inl (dgV (s0.take f), s0.drop f) := by
    unfold nbP
    rw [hg]
    have e1 : (s0.take f = []) ↔ f = 0 := by
      rw [← List.length_eq_zero_iff, List.length_take]
      omega
    have e2 : (s0.take f).length = f := by rw [List.length_take]; omega
    rw [e2]
    by_cases q : f = 0 ∨ most < dgV (s0.take f)
    · rw [if_pos q, if_pos (q.imp e1.mpr id)]
    · rw [if_neg q, if_neg (fun z => q (z.imp e1.mp id))]
  have hfail : f = 0 ∨ most < dgV (s0.take f) → CV d 175 [vR (some 106), vI (z32 ((T.length - s0.length : Nat) : Int))] (mm I D) (fun I1 => qI (mm I D) K (some (vI (z32 (dgV (s0.take f))))) (mm I1 D)) := fun q => by
    rw [if_pos q] at hnb
    refine c_wrong h (m := s0.length) rfl hsl (fun I2 hf2 hP _ => qI_i (k _ _ hf2 ?_ (fun v s e => ?_)))
    · rw [hnb]
      exact hP
    · rw [hnb] at e
      cases e
  have hz : (I 106 3 = z32 ((T.length - s0.length : Nat) : Int)) ↔ f = 0 := by
    rw [g2, z32_inj (by omega) (by omega) (by omega) (by omega)]
    omega
  refine brP_i (fun q => hfail (Or.inl (hz.mp q))) (fun q => brP_i (fun q2 => ?_) (fun q2 => hfail (Or.inr ?_)))
  · rw [z32_le (by omega) (by omega) (by omega) (by omega)] at q2
    rw [if_neg (by rw [hz] at q; omega)] at hnb
    refine qI_i (k _ _ NFr.rf ?_ (fun v s e => ?_))
    · rw [hnb]
      exact h
    · rw [hnb] at e
      cases e
      rfl
  · rw [z32_le (by omega) (by omega) (by omega) (by omega)] at q2
    omega
theorem mnum_loop {d : Nat} {I0 : IM} {D : DY} {K : Int32 → IM → Prop} {T s0 : Tx} {most : Int} (h1 : -2147483648 ≤ most) (h2 : most ≤ 2147483647) (hs : sfx s0 T)
    (k : ∀ x I2, NFr I0 I2 → MP I2 T (aft (nbP most s0)) → (∀ v s, nbP most s0 = .inl (v, s) → x = z32 v) → K x I2) : ∀ (g f : Nat), f + g = 4 → ∀ I : IM, NFr I0 I → f ≤ s0.length → (s0.take f).all digB = true → MP I T (.inl (s0.drop f)) →
    Wp GG (d + 1) 183 16 [vR (some 106), vI (z32 most), vI (z32 ((T.length - s0.length : Nat) : Int)), vI (z32 (dgV (s0.take f)))] [] (mm I D) (qI (mm I0 D) K) := by
  intro g
  have hsl := hs.1
  induction g with
  | zero =>
    intro f hfg I hI hl ha h
    obtain rfl : f = 4 := by omega
    have h160 := h.1.2.1
    obtain ⟨g1, g2, g3⟩ := h.in
    rw [List.length_drop] at g2
    refine s_M_readNumber_16 _ _ _ ?_
    rw [g2, show (z32 ((T.length - s0.length : Nat) : Int) + 4) = z32 ((T.length - s0.length + 4 : Nat) : Int) from (z32_add _ 4).trans (by congr 1)]
    refine (brP_t (by rw [z32_le] <;> omega)).mpr ?_
    rw [← g2]
    exact mnum_fin (I := I) (K := K) h1 h2 hs (Nat.le_refl _) hl (dgOf_eq (Nat.le_refl _) hl ha (Or.inl rfl)) ha h (fun x I2 hf hP hv => k x I2 (hI.tr hf) hP hv)
  | succ g ih =>
    intro f hfg I hI hl ha h
    have h160 := h.1.2.1
    obtain ⟨g1, g2, g3⟩ := h.in
    rw [List.length_drop] at g2
    have fin := mnum_fin (d := d) (D := D) (I := I) (K := K) h1 h2 hs (f := f) (by omega) hl
    refine s_M_readNumber_16 _ _ _ ?_
    rw [g2, show (z32 ((T.length - s0.length : Nat) : Int) + 4) = z32 ((T.length - s0.length + 4 : Nat) : Int) from (z32_add _ 4).trans (by congr 1)]
    refine (brP_f (by rw [z32_le] <;> omega)).mpr ?_
    rw [e_here h, e_in, dig_b]
    refine br0 (fun q => ?_) (fun q => ?_)
    · rw [e_here h]
      cases hd : s0.drop f with
      | nil =>
        rw [hd] at q
        exact absurd q (by decide)
      | cons x t =>
        rw [hd] at h q
        have hx : digB x = true := q
        have hlt : f < s0.length := by
          have := congrArg List.length hd
          rw [List.length_drop, List.length_cons] at this
          omega
        have ht : s0.drop (f + 1) = t := by rw [← List.drop_drop, hd]; rfl
        have e1 : s0.take (f + 1) = s0.take f ++ [x] := by
          rw [List.take_add, hd]
          rfl
        have ha2 : (s0.take (f + 1)).all digB = true := by rw [e1, List.all_append, ha]; simp [hx]
        have e2 : 10 * z32 (dgV (s0.take f)) + x - 48 = z32 (dgV (s0.take (f + 1))) := by
          rw [e1, dgV_snoc]
          show z32 10 * z32 _ + x - z32 48 = _
          rw [z32_mul, z32_of x, z32_add, z32_sub, z32_toInt (i32_b x).1 (i32_b x).2]
          congr 1
          omega
        show Wp GG (d + 1) 183 16 [vR (some 106), vI (z32 most), vI (z32 ((T.length - s0.length : Nat) : Int)), vI (10 * z32 (dgV (s0.take f)) + x - 48)] [] _ _
        rw [e2]
        refine ih (f + 1) (by omega) _ (hI.tr (NFr.up (by omega))) (by omega) ha2 ?_
        rw [ht]
        exact h.next.1
    · refine fin (dgOf_eq (by omega) hl ha (Or.inr (fun x t e => ?_))) ha h (fun x I2 hf hP hv => k x I2 (hI.tr hf) hP hv)
      rw [e] at q
      simpa [hrV] using q
theorem m_number {d : Nat} {I : IM} {D : DY} {K : Int32 → IM → Prop} {T : Tx} {r : PS} {most : Int} (h1 : -2147483648 ≤ most) (h2 : most ≤ 2147483647) (h : MP I T r)
    (k : ∀ x I2, NFr I I2 → MP I2 T (aft (sq r (nbP most))) → (∀ v s, sq r (nbP most) = .inl (v, s) → x = z32 v) → K x I2) : CI (d + 1) 183 [vR (some 106), vI (z32 most)] (mm I D) K := by
  refine s_M_readNumber _ (brP_i (fun q => ?_) (fun q => qI_i ?_))
  · obtain ⟨s, rfl⟩ := h.fl.mp q
    obtain ⟨g1, g2, g3⟩ := h.in
    rw [g2]
    exact mnum_loop (d := d) (D := D) (I0 := I) (K := K) h1 h2 g1 k 4 0 rfl I NFr.rf (Nat.zero_le _) rfl h
  · rcases r with s | m
    · exact absurd (h.fl.mpr ⟨s, rfl⟩) q
    · exact k _ I NFr.rf h (fun v s c => by cases c)
