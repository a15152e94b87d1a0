/-! Snapshots. -/
abbrev SN : Type := Nat → List (Nat × Nat)
def SNP (o : Nat) (I : IM) (S : SN) : Prop := ∀ s, s < 8 → I (o + 3) s = z32 ((S s).length : Int) ∧ (S s).length ≤ 4 ∧ ∀ j x, (S s)[j]? = some x → I (o + 1) (s * 4 + j) = z32 (x.1 : Int) ∧ I (o + 2) (s * 4 + j) = z32 (x.2 : Int) ∧ x.1 ≤ 240 ∧ x.2 ≤ 27
theorem SNP.fr {o : Nat} {I I2 : IM} {S : SN} (h : SNP o I S) (h1 : ∀ k, I2 (o + 1) k = I (o + 1) k) (h2 : ∀ k, I2 (o + 2) k = I (o + 2) k) (h3 : ∀ k, I2 (o + 3) k = I (o + 3) k) : SNP o I2 S := fun s hs => ⟨(h3 s).trans (h s hs).1, (h s hs).2.1, fun j x hx => ⟨(h1 _).trans ((h s hs).2.2 j x hx).1, (h2 _).trans ((h s hs).2.2 j x hx).2.1, ((h s hs).2.2 j x hx).2.2⟩⟩
def addS (S : SN) (s v e : Nat) : SN := updF S s ((if (S s).length = 4 then (S s).drop 1 else S s) ++ [(v, e)])
theorem drop_step {d : Nat} {I : IM} {D : DY} {Q : Option PV → PM → Prop} {s j : Nat} (hs : s < 8) (hj : j < 3) (h : Wp GG d 62 2 [vR (some 68), vI (z32 ((s * 4 : Nat) : Int)), vI (z32 ((s * 4 + j + 1 : Nat) : Int))] [] (mm (up2 (up2 I 69 (s * 4 + j) (I 69 (s * 4 + j + 1))) 70 (s * 4 + j) (I 70 (s * 4 + j + 1))) D) Q) :
    Wp GG d 62 2 [vR (some 68), vI (z32 ((s * 4 : Nat) : Int)), vI (z32 ((s * 4 + j : Nat) : Int))] [] (mm I D) Q := by
  refine s_Snapshots_dropOldest_2 _ _ ?_
  have e : z32 ((s * 4 : Nat) : Int) + 4 - 1 = z32 ((s * 4 + 3 : Nat) : Int) := by
    show z32 _ + z32 4 - z32 1 = _
    rw [z32_add, z32_sub]
    congr 1
    omega
  rw [e, z32_s]
  have b1 : inB (z32 ((s * 4 + j + 1 : Nat) : Int)) 32 := inB_n (by omega) (by omega)
  have b2 : inB (z32 ((s * 4 + j : Nat) : Int)) 32 := inB_n (by omega) (by omega)
  refine (brP_f (by rw [z32_le] <;> omega)).mpr ((brP_f (by rw [z32_0, z32_lt] <;> omega)).mpr ((brP_f (by show ¬ z32 32 ≤ _; rw [z32_le] <;> omega)).mpr ((brP_f (by show ¬ z32 32 ≤ _; rw [z32_le] <;> omega)).mpr (tsP_i b1 (tsP_i b2 (tsP_i b1 (tsP_i b2 ?_)))))))
  rw [ix_n (by omega), ix_n (by omega)]
  exact h
theorem c_sadd {d : Nat} {I : IM} {D : DY} {K : IM → Prop} {S : SN} {s v e : Nat} (h : SNP 68 I S) (hs : s < 8) (hv : v ≤ 240) (he : e ≤ 27) (k : ∀ I2, (∀ q j, q ≠ 69 → q ≠ 70 → q ≠ 71 → I2 q j = I q j) → SNP 68 I2 (addS S s v e) → K I2) :
    CV (d + 1) 61 [vR (some 68), vI (z32 (s : Int)), vI (z32 (v : Int)), vI (z32 (e : Int))] (mm I D) K := by
  obtain ⟨h1, h2, h3⟩ := h s hs
  have b8 : inB (z32 (s : Int)) 8 := inB_n hs (by omega)
  refine s_Snapshots_add _ _ _ ((brP_f (by rw [z32_0, z32_lt] <;> omega)).mpr ((brP_t (by show _ < z32 8; rw [z32_lt] <;> omega)).mpr (tsP_i b8 ?_)))
  have em : ∀ n : Nat, z32 (s : Int) * 4 + z32 (n : Int) = z32 ((s * 4 + n : Nat) : Int) := fun n => by
    show z32 _ * z32 4 + _ = _
    rw [z32_mul, z32_add]
    congr 1
  rw [ix_n (by omega), h1]
  by_cases h4 : (S s).length = 4
  · refine (brP_f (by show ¬ _ < z32 4; rw [z32_lt] <;> omega)).mpr ?_
    have e0 : z32 (s : Int) * 4 = z32 ((s * 4 : Nat) : Int) := by
      show z32 _ * z32 4 = _
      rw [z32_mul]
      congr 1
    rw [e0]
    refine s_Snapshots_dropOldest _ ?_
    refine drop_step (j := 0) hs (by omega) (drop_step (j := 1) hs (by omega) (drop_step (j := 2) hs (by omega) (s_Snapshots_dropOldest_2 _ _ ((brP_t ?_).mpr (qV_i ?_)))))
    · show z32 _ + z32 4 - z32 1 ≤ _
      rw [z32_add, z32_sub, z32_le] <;> omega
    generalize hJ : up2 (up2 _ 69 (s * 4 + 2) _) 70 (s * 4 + 2) _ = J
    have jf : ∀ q j, q ≠ 69 → q ≠ 70 → J q j = I q j := fun q j g1 g2 => by
      rw [← hJ, up2_ne g2, up2_ne g1, up2_ne g2, up2_ne g1, up2_ne g2, up2_ne g1]
    have j69 : ∀ j, (j < 3 → J 69 (s * 4 + j) = I 69 (s * 4 + (j + 1))) := fun j hj => by
      rw [← hJ]
      obtain rfl | rfl | rfl : j = 0 ∨ j = 1 ∨ j = 2 := by omega
      · simp (disch := omega) only [up2_eq, up2_ne, up2_nj, Nat.add_assoc, Nat.reduceAdd]
      · simp (disch := omega) only [up2_eq, up2_ne, up2_nj, Nat.add_assoc, Nat.reduceAdd]
      · simp (disch := omega) only [up2_eq, up2_ne, up2_nj, Nat.add_assoc, Nat.reduceAdd]
    have j70 : ∀ j, (j < 3 → J 70 (s * 4 + j) = I 70 (s * 4 + (j + 1))) := fun j hj => by
      rw [← hJ]
      obtain rfl | rfl | rfl : j = 0 ∨ j = 1 ∨ j = 2 := by omega
      · simp (disch := omega) only [up2_eq, up2_ne, up2_nj, Nat.add_assoc, Nat.reduceAdd]
      · simp (disch := omega) only [up2_eq, up2_ne, up2_nj, Nat.add_assoc, Nat.reduceAdd]
      · simp (disch := omega) only [up2_eq, up2_ne, up2_nj, Nat.add_assoc, Nat.reduceAdd]
    have jo : ∀ t j, t ≠ s → t < 8 → j < 4 → J 69 (t * 4 + j) = I 69 (t * 4 + j) ∧ J 70 (t * 4 + j) = I 70 (t * 4 + j) := fun t j g1 g2 g3 => by
      rw [← hJ]
      constructor
      · rw [up2_ne (by omega), up2_nj (by omega), up2_ne (by omega), up2_nj (by omega), up2_ne (by omega), up2_nj (by omega)]
      · rw [up2_nj (by omega), up2_ne (by omega), up2_nj (by omega), up2_ne (by omega), up2_nj (by omega), up2_ne (by omega)]
    clear hJ
    refine tsP_i b8 (tsP_i b8 ?_)
    rw [up2_eq, show (3 : Int32) = z32 ((3 : Nat) : Int) from rfl, ← e0, em]
    have b32' : inB (z32 ((s * 4 + 3 : Nat) : Int)) 32 := inB_n (by omega) (by omega)
    refine (brP_f (by rw [z32_0, z32_lt] <;> omega)).mpr ((brP_f (by show ¬ z32 32 ≤ _; rw [z32_le] <;> omega)).mpr ((brP_f (by show ¬ z32 32 ≤ _; rw [z32_le] <;> omega)).mpr (tsP_i b32' (tsP_i b32' (tsP_i b8 (tsP_i b8 (qV_i (k _ (fun q j g1 g2 g3 => ?_) (fun t ht => ?_)))))))))
    · rw [up2_ne g3, up2_ne g2, up2_ne g1, up2_ne g3]
      exact jf q j g1 g2
    · rw [ix_n (by omega)]
      show up2 _ 71 _ _ 71 t = _ ∧ _ ∧ ∀ j x, _ → up2 _ 71 _ _ 69 _ = _ ∧ up2 _ 71 _ _ 70 _ = _ ∧ _
      unfold addS
      by_cases et : t = s
      · subst et
        rw [updF_eq, if_pos h4, up2_eq, List.length_append, List.length_drop, List.length_singleton]
        refine ⟨by rw [z32_s, h4], by omega, fun j x hx => ?_⟩
        have hlt := lt_of_get hx
        rw [List.length_append, List.length_drop, List.length_singleton] at hlt
        by_cases ej : j = 3
        · subst ej
          rw [List.getElem?_append_right (by rw [List.length_drop]; omega), List.length_drop, h4] at hx
          cases hx
          rw [up2_ne (by omega), up2_ne (by omega), up2_eq, up2_ne (by omega), up2_eq]
          exact ⟨rfl, rfl, hv, he⟩
        · rw [List.getElem?_append_left (by rw [List.length_drop]; omega), List.getElem?_drop, Nat.add_comm] at hx
          rw [up2_ne (by omega), up2_ne (by omega), up2_nj (by omega), up2_ne (by omega), up2_ne (by omega), up2_nj (by omega), up2_ne (by omega), up2_ne (by omega), j69 j (by omega), j70 j (by omega)]
          exact h3 (j + 1) x hx
      · obtain ⟨g1, g2, g3⟩ := h t ht
        rw [updF_ne et, up2_nj et, up2_ne (by omega), up2_ne (by omega), up2_nj et, jf 71 t (by omega) (by omega)]
        refine ⟨g1, g2, fun j x hx => ?_⟩
        have hlt := lt_of_get hx
        rw [up2_ne (by omega), up2_ne (by omega), up2_nj (by omega), up2_ne (by omega), up2_ne (by omega), up2_nj (by omega), up2_ne (by omega), up2_ne (by omega), (jo t j et ht (by omega)).1, (jo t j et ht (by omega)).2]
        exact g3 j x hx
  · refine (brP_t (by show _ < z32 4; rw [z32_lt] <;> omega)).mpr (tsP_i b8 ?_)
    rw [em]
    have b32' : inB (z32 ((s * 4 + (S s).length : Nat) : Int)) 32 := inB_n (by omega) (by omega)
    refine (brP_f (by rw [z32_0, z32_lt] <;> omega)).mpr ((brP_f (by show ¬ z32 32 ≤ _; rw [z32_le] <;> omega)).mpr ((brP_f (by show ¬ z32 32 ≤ _; rw [z32_le] <;> omega)).mpr (tsP_i b32' (tsP_i b32' (tsP_i b8 (tsP_i b8 (qV_i (k _ (fun q j g1 g2 g3 => ?_) (fun t ht => ?_)))))))))
    · rw [up2_ne g3, up2_ne g2, up2_ne g1]
    · rw [ix_n (by omega)]
      show up2 _ 71 _ _ 71 t = _ ∧ _ ∧ ∀ j x, _ → up2 _ 71 _ _ 69 _ = _ ∧ up2 _ 71 _ _ 70 _ = _ ∧ _
      unfold addS
      by_cases et : t = s
      · subst et
        rw [updF_eq, if_neg h4, up2_eq, List.length_append, List.length_singleton]
        refine ⟨z32_s _, by omega, fun j x hx => ?_⟩
        have hlt := lt_of_get hx
        rw [List.length_append, List.length_singleton] at hlt
        by_cases ej : j = (S t).length
        · subst ej
          rw [get_mid] at hx
          cases hx
          rw [up2_ne (by omega), up2_ne (by omega), up2_eq, up2_ne (by omega), up2_eq]
          exact ⟨rfl, rfl, hv, he⟩
        · rw [List.getElem?_append_left (by omega)] at hx
          rw [up2_ne (by omega), up2_ne (by omega), up2_nj (by omega), up2_ne (by omega), up2_nj (by omega), up2_ne (by omega)]
          exact h3 j x hx
      · obtain ⟨g1, g2, g3⟩ := h t ht
        rw [updF_ne et, up2_nj et, up2_ne (by omega), up2_ne (by omega)]
        refine ⟨g1, g2, fun j x hx => ?_⟩
        have hlt := lt_of_get hx
        rw [up2_ne (by omega), up2_ne (by omega), up2_nj (by omega), up2_ne (by omega), up2_nj (by omega), up2_ne (by omega)]
        exact g3 j x hx
theorem e_ssize {d : Nat} {I : IM} {D : DY} {K : Int32 → IM → Prop} {S : SN} {s : Nat} (h : SNP 68 I S) (hs : s < 8) : CI d 93 [vR (some 68), vI (z32 (s : Int))] (mm I D) K ↔ K (z32 ((S s).length : Int)) I := by
  refine CI_iff (s_Snapshots_sizeOf _ ((brP_f (by rw [z32_0, z32_lt] <;> omega)).mpr ((brP_f (by show ¬ z32 8 ≤ _; rw [z32_le] <;> omega)).mpr (tsP_i (inB_n hs (by omega)) (qI_i ⟨?_, rfl⟩)))))
  rw [ix_n (by omega)]
  exact (h s hs).1
theorem e_sgood {d : Nat} {I : IM} {D : DY} {K : Int32 → IM → Prop} {S : SN} {s j e : Nat} {x : Nat × Nat} (h : SNP 68 I S) (hs : s < 8) (hx : (S s)[j]? = some x) (he : e ≤ 27) : CI d 94 [vR (some 68), vI (z32 ((s * 4 + j : Nat) : Int)), vI (z32 (e : Int))] (mm I D) K ↔ K (b32 (x.2 = e)) I := by
  have hj := lt_of_get hx
  obtain ⟨h1, h2, h3⟩ := h s hs
  obtain ⟨g1, g2, g3, g4⟩ := h3 j x hx
  refine CI_iff (s_Snapshots_isGood _ _ ((brP_f (by rw [z32_0, z32_lt] <;> omega)).mpr ((brP_f (by show ¬ z32 32 ≤ _; rw [z32_le] <;> omega)).mpr (tsP_i (inB_n (by omega) (by omega)) ?_))))
  have g2 : I 70 (s * 4 + j) = z32 (x.2 : Int) := g2
  rw [ix_n (by omega), g2]
  have ee := z32_eN (n := x.2) (m := e) (by omega) (by omega)
  refine brP_i (fun q => qI_i ⟨?_, rfl⟩) (fun q => qI_i ⟨?_, rfl⟩)
  · exact (b32_f (fun c => q (ee.mpr c))).symm
  · exact (b32_t (ee.mp (Classical.not_not.mp q))).symm
def gdV (e : Nat) : List (Nat × Nat) → Nat
  | [] => 0
  | x :: l => (if x.2 = e then 1 else 0) + gdV e l
theorem gdV_le {e : Nat} : ∀ {l : List (Nat × Nat)}, gdV e l ≤ l.length
  | [] => Nat.le_refl _
  | x :: l => by
    have := gdV_le (e := e) (l := l)
    show (if x.2 = e then 1 else 0) + gdV e l ≤ l.length + 1
    split <;> omega
theorem smul4 (s j : Nat) : z32 (s : Int) * 4 + z32 (j : Int) = z32 ((s * 4 + j : Nat) : Int) := by
  show z32 _ * z32 4 + _ = _
  rw [z32_mul, z32_add]
  congr 1
/-- the latest good version up to v -/
def ltV (e v : Nat) : List (Nat × Nat) → Nat → Nat
  | [], m => m
  | x :: l, m => ltV e v l (if x.2 = e ∧ x.1 ≤ v then (if m < x.1 then x.1 else m) else m)
theorem late_loop {d : Nat} {I : IM} {D : DY} {K : Int32 → IM → Prop} {S : SN} {s e v : Nat} (h : SNP 68 I S) (hs : s < 8) (he : e ≤ 27) (hv : v ≤ 240) : ∀ (xs pre : List (Nat × Nat)) (n : Nat) (w : PV), S s = pre ++ xs → n ≤ 240 → K (z32 (ltV e v xs n : Int)) I →
    Wp GG (d + 1) 92 6 [vR (some 68), vI (z32 (s : Int)), vI (z32 (v : Int)), vI (z32 (e : Int)), vI (z32 (n : Int)), vI (z32 (pre.length : Int)), w] [] (mm I D) (qI (mm I D) K) := by
  have hl := (h s hs).2.1
  intro xs
  induction xs with
  | nil =>
    intro pre n w hp hn k
    have e1 : (S s).length = pre.length := by rw [hp, List.append_nil]
    refine s_Snapshots_latestGood_6 _ _ _ _ _ _ ?_
    rw [e_ssize h hs]
    exact (brP_t (by rw [z32_le] <;> omega)).mpr (qI_i k)
  | cons x xs ih =>
    intro pre n w hp hn k
    have e1 : (S s).length = pre.length + (xs.length + 1) := by rw [hp, List.length_append, List.length_cons]
    have hx : (S s)[pre.length]? = some x := by rw [hp]; exact get_mid
    have hp2 : S s = (pre ++ [x]) ++ xs := by rw [hp, List.append_assoc]; rfl
    have ih := fun n w => ih (pre ++ [x]) n w hp2
    rw [List.length_append, List.length_singleton] at ih
    obtain ⟨g1, g2, g3, g4⟩ := (h s hs).2.2 _ x hx
    have g1 : I 69 (s * 4 + pre.length) = z32 (x.1 : Int) := g1
    refine s_Snapshots_latestGood_6 _ _ _ _ _ _ ?_
    rw [e_ssize h hs, smul4]
    refine (brP_f (by rw [z32_le] <;> omega)).mpr ?_
    have hb : inB (z32 ((s * 4 + pre.length : Nat) : Int)) 32 := inB_n (by omega) (by omega)
    rw [e_sgood h hs hx he, z32_s]
    refine brP_i (fun q => ?_) (fun q => (brP_f (by show ¬ z32 32 ≤ _; rw [z32_le] <;> omega)).mpr (tsP_i hb ?_))
    · have q := b32_0.mp q
      refine ih n _ hn ?_
      rw [show ltV e v (x :: xs) n = ltV e v xs n by show ltV e v xs (if _ then _ else _) = _; rw [if_neg (fun c => q c.1)]] at k
      exact k
    · have q : x.2 = e := Classical.not_not.mp (fun c => q (b32_0.mpr c))
      rw [ix_n (by omega), g1]
      refine brP_i (fun q2 => ?_) (fun q2 => tsP_i hb ?_)
      · rw [z32_lt (by omega) (by omega) (by omega) (by omega)] at q2
        refine ih n _ hn ?_
        rw [show ltV e v (x :: xs) n = ltV e v xs n by show ltV e v xs (if _ then _ else _) = _; rw [if_neg (fun c => by omega)]] at k
        exact k
      · rw [z32_lt (by omega) (by omega) (by omega) (by omega)] at q2
        rw [e_max]
        have e2 : (if z32 (n : Int) < z32 (x.1 : Int) then z32 (x.1 : Int) else z32 (n : Int)) = z32 ((if n < x.1 then x.1 else n : Nat) : Int) := by
          by_cases c : n < x.1
          · rw [if_pos c, if_pos (by rw [z32_lt] <;> omega)]
          · rw [if_neg c, if_neg (by rw [z32_lt] <;> omega)]
        rw [e2]
        refine ih _ _ (by split <;> omega) ?_
        rw [show ltV e v (x :: xs) n = ltV e v xs (if n < x.1 then x.1 else n) by show ltV e v xs (if _ then _ else _) = _; rw [if_pos ⟨q, by omega⟩]] at k
        exact k
theorem c_latest {d : Nat} {I : IM} {D : DY} {K : Int32 → IM → Prop} {S : SN} {s e v : Nat} (h : SNP 68 I S) (hs : s < 8) (he : e ≤ 27) (hv : v ≤ 240) (k : K (z32 (ltV e v (S s) 0 : Int)) I) : CI (d + 1) 92 [vR (some 68), vI (z32 (s : Int)), vI (z32 (v : Int)), vI (z32 (e : Int))] (mm I D) K :=
  s_Snapshots_latestGood _ _ _ (late_loop h hs he hv (S s) [] 0 _ rfl (by omega) k)
def sumN (f : Nat → Nat) : List Nat → Nat
  | [] => 0
  | s :: l => f s + sumN f l
theorem total_loop {d : Nat} {I : IM} {D : DY} {K : Int32 → IM → Prop} {S : SN} (h : SNP 68 I S) : ∀ (g i n : Nat), i + g = 8 → K (z32 ((n + sumN (fun s => (S s).length) (List.range' i g) : Nat) : Int)) I → Wp GG d 165 4 [vR (some 68), vI (z32 (n : Int)), vI (z32 (i : Int))] [] (mm I D) (qI (mm I D) K) := by
  intro g
  induction g with
  | zero =>
    intro i n hi k
    exact s_Snapshots_total_4 _ _ ((brP_t (by show z32 8 ≤ _; rw [z32_le] <;> omega)).mpr (qI_i k))
  | succ g ih =>
    intro i n hi k
    refine s_Snapshots_total_4 _ _ ((brP_f (by show ¬ z32 8 ≤ _; rw [z32_le] <;> omega)).mpr (tsP_i (inB_n (by omega) (by omega)) ?_))
    have h1 : I 71 i = z32 ((S i).length : Int) := (h i (by omega)).1
    rw [ix_n (by omega), h1, z32_s, z32_add]
    refine ih (i + 1) (n + (S i).length) (by omega) ?_
    rw [List.range'_succ] at k
    rw [show n + sumN (fun s => (S s).length) (i :: List.range' (i + 1) g) = n + (S i).length + sumN (fun s => (S s).length) (List.range' (i + 1) g) from (Nat.add_assoc _ _ _).symm] at k
    exact k
theorem c_total {d : Nat} {I : IM} {D : DY} {K : Int32 → IM → Prop} {S : SN} (h : SNP 68 I S) (k : K (z32 ((sumN (fun s => (S s).length) (List.range' 0 8) : Nat) : Int)) I) : CI d 165 [vR (some 68)] (mm I D) K := s_Snapshots_total (total_loop h 8 0 0 rfl (by rw [Nat.zero_add]; exact k))
