/-! What a formula gives. -/
theorem ofNat_z (n : Nat) : Int32.ofNat n = z32 (n : Int) := rfl
theorem inB_n {k n : Nat} (h : k < n) (h2 : n ≤ 1000000) : inB (z32 (k : Int)) n := by
  show 0 ≤ _ ∧ _
  rw [z32_toInt (by omega) (by omega)]
  omega
theorem z32_s (n : Nat) : z32 (n : Int) + 1 = z32 ((n + 1 : Nat) : Int) := by
  show z32 _ + z32 1 = _
  rw [z32_add]
  rfl
theorem sgn_cases {P : Int32 → Prop} {x : Int32} (h : x = -43 ∨ x = -45 ∨ x = -42 ∨ x = -47 ∨ x = -37 ∨ x = -60 ∨ x = -61 ∨ x = -62) (h1 : P (-43)) (h2 : P (-45)) (h3 : P (-42)) (h4 : P (-47)) (h5 : P (-37)) (h6 : P (-60)) (h7 : P (-61)) (h8 : P (-62)) : P x := by
  rcases h with rfl | rfl | rfl | rfl | rfl | rfl | rfl | rfl <;> assumption
theorem okE_cases {nv : Nat} {x : Int32} (h : okE nv x) : (∃ v : Int, 0 ≤ v ∧ v < 10000 ∧ x = z32 v) ∨ (∃ j : Nat, j < nv ∧ x = z32 (10000 + (j : Int))) ∨ x = -1000 ∨ (x = -43 ∨ x = -45 ∨ x = -42 ∨ x = -47 ∨ x = -37 ∨ x = -60 ∨ x = -61 ∨ x = -62) := by
  rcases h with ⟨h1, h2⟩ | h | h
  · by_cases h3 : x.toInt < 10000
    · exact Or.inl ⟨x.toInt, h1, h3, z32_of x⟩
    · refine Or.inr (Or.inl ⟨(x.toInt - 10000).toNat, by omega, ?_⟩)
      rw [show (10000 : Int) + ((x.toInt - 10000).toNat : Int) = x.toInt by omega]
      exact z32_of x
  · exact Or.inr (Or.inr (Or.inl h))
  · exact Or.inr (Or.inr (Or.inr h))
theorem e_letterOf {d : Nat} {I : IM} {D : DY} {K : Int32 → IM → Prop} {la n j : Nat} (hk : pKd (mm I D) la = 20) (hn : pLn (mm I D) la = n) (hj : j < n) (h2 : n ≤ 1000) : CI d 84 [vR (some la), vI (z32 (j : Int))] (mm I D) K ↔ K (I la j) I := by
  refine CI_iff (s_Formula_letterOf _ _ ?_)
  refine brP_i (fun h => ?_) (fun _ => ?_)
  · rw [z32_0, z32_lt] at h <;> omega
  refine onR_i rfl (tsP_i (by omega) ?_)
  rw [hn, ofNat_z]
  refine brP_i (fun h => ?_) (fun _ => onR_i rfl (tsP_i hk (tsP_i (by rw [hn]; exact inB_n hj (by omega)) (qI_i ⟨?_, rfl⟩))))
  · rw [z32_le] at h <;> omega
  · rw [ix_n (by omega)]
theorem e_join {d : Nat} {I : IM} {D : DY} {K : Int32 → IM → Prop} {c x y : Int32} (h : c = -43 ∨ c = -45 ∨ c = -42 ∨ c = -47 ∨ c = -37 ∨ c = -60 ∨ c = -61 ∨ c = -62) : CI d 85 [vI (-c), vI x, vI y] (mm I D) K ↔ K (jnV (-c) x y) I := by
  refine CI_iff (s_Formula_join _ _ _ ?_)
  rcases h with rfl | rfl | rfl | rfl | rfl | rfl | rfl | rfl
  · repeat (first | refine (brP_t (by decide)).mpr ?_ | refine (brP_f (by decide)).mpr ?_)
    exact qI_i ⟨rfl, rfl⟩
  · repeat (first | refine (brP_t (by decide)).mpr ?_ | refine (brP_f (by decide)).mpr ?_)
    exact qI_i ⟨rfl, rfl⟩
  · repeat (first | refine (brP_t (by decide)).mpr ?_ | refine (brP_f (by decide)).mpr ?_)
    exact qI_i ⟨rfl, rfl⟩
  · repeat (first | refine (brP_t (by decide)).mpr ?_ | refine (brP_f (by decide)).mpr ?_)
    refine brP_i (fun q => tsP_i q (qI_i ⟨?_, rfl⟩)) (fun q => qI_i ⟨?_, rfl⟩)
    · exact (if_neg q : (if y = 0 then (0 : Int32) else x / y) = x / y).symm
    · exact (if_pos (Classical.not_not.mp q) : (if y = 0 then (0 : Int32) else x / y) = 0).symm
  · repeat (first | refine (brP_t (by decide)).mpr ?_ | refine (brP_f (by decide)).mpr ?_)
    refine brP_i (fun q => tsP_i q (qI_i ⟨?_, rfl⟩)) (fun q => qI_i ⟨?_, rfl⟩)
    · exact (if_neg q : (if y = 0 then (0 : Int32) else x - x / y * y) = _).symm
    · exact (if_pos (Classical.not_not.mp q) : (if y = 0 then (0 : Int32) else x - x / y * y) = 0).symm
  · repeat (first | refine (brP_t (by decide)).mpr ?_ | refine (brP_f (by decide)).mpr ?_)
    refine brP_i (fun q => qI_i ⟨?_, rfl⟩) (fun q => qI_i ⟨?_, rfl⟩)
    · exact (if_neg (Int32.not_lt.mpr q) : b32 (x < y) = 0).symm
    · exact (if_pos (Int32.not_le.mp q) : b32 (x < y) = 1).symm
  · repeat (first | refine (brP_t (by decide)).mpr ?_ | refine (brP_f (by decide)).mpr ?_)
    refine brP_i (fun q => qI_i ⟨?_, rfl⟩) (fun q => qI_i ⟨?_, rfl⟩)
    · exact (if_neg q : b32 (x = y) = 0).symm
    · exact (if_pos (Classical.not_not.mp q) : b32 (x = y) = 1).symm
  · repeat (first | refine (brP_t (by decide)).mpr ?_ | refine (brP_f (by decide)).mpr ?_)
    refine brP_i (fun q => qI_i ⟨?_, rfl⟩) (fun q => qI_i ⟨?_, rfl⟩)
    · exact (if_neg (Int32.not_lt.mpr q) : b32 (y < x) = 0).symm
    · exact (if_pos (Int32.not_le.mp q) : b32 (y < x) = 1).symm
/-- the stack's values, its top first -/
def SK (I : IM) (sa : Nat) (st : Tx) : Prop := ∀ j, j < st.length → I sa j = st.getD (st.length - 1 - j) 0
theorem SK.push {I : IM} {sa : Nat} {st : Tx} (h : SK I sa st) (v : Int32) : SK (up2 I sa st.length v) sa (v :: st) := fun j hj => by
  rw [List.length_cons] at hj ⊢
  by_cases e : j = st.length
  · subst e
    rw [up2_eq, show st.length + 1 - 1 - st.length = 0 by omega]
    rfl
  · rw [up2_nj e, h j (by omega), show st.length + 1 - 1 - j = (st.length - 1 - j) + 1 by omega]
    rfl
theorem SK.pop {I : IM} {sa : Nat} {v : Int32} {st : Tx} (h : SK I sa (v :: st)) : SK I sa st := fun j hj => by
  rw [h j (by rw [List.length_cons]; omega), List.length_cons, show st.length + 1 - 1 - j = (st.length - 1 - j) + 1 by omega]
  rfl
theorem SK.top {I : IM} {sa : Nat} {v : Int32} {st : Tx} (h : SK I sa (v :: st)) : I sa st.length = v := by
  rw [h _ (by rw [List.length_cons]; omega), List.length_cons, show st.length + 1 - 1 - st.length = 0 by omega]
  rfl
/-- what a formula's giving may change: stacks -/
def GF (D : DY) (I I2 : IM) : Prop := ∀ a k, a < 159 ∨ dW D a ≠ 2 → I2 a k = I a k
theorem GF.rf {D : DY} {I : IM} : GF D I I := fun _ _ _ => rfl
theorem GF.tr {D : DY} {I I2 I3 : IM} (h : GF D I I2) (h2 : GF D I2 I3) : GF D I I3 := fun a k q => (h2 a k q).trans (h a k q)
theorem GF.im {D : DY} {I I2 : IM} (h : GF D I I2) : IMF I I2 D := fun a k _ _ h3 => h a k (Or.inr (by omega))
theorem stV_num {env : Nat → Int32} {v : Int} {st : Tx} (h : 0 ≤ v ∧ v < 10000) : stV env (z32 v) st = z32 v :: st := by
  unfold stV
  rw [if_pos (by rw [z32_0, z32_le] <;> omega), if_pos (by show z32 v < z32 10000; rw [z32_lt] <;> omega)]
theorem stV_let {env : Nat → Int32} {j : Nat} {st : Tx} (h : j < 1000) : stV env (z32 (10000 + (j : Int))) st = env j :: st := by
  unfold stV
  rw [if_pos (by rw [z32_0, z32_le] <;> omega), if_neg (by show ¬ z32 _ < z32 10000; rw [z32_lt] <;> omega), z32_toInt (by omega) (by omega), show (10000 + (j : Int) - 10000).toNat = j by omega]
theorem stV_neg {env : Nat → Int32} {x : Int32} {st : Tx} : stV env (-1000) (x :: st) = -x :: st := by
  unfold stV
  rw [if_neg (by decide), if_pos rfl]
theorem stV_bin {env : Nat → Int32} {c x y : Int32} {st : Tx} (h : c = -43 ∨ c = -45 ∨ c = -42 ∨ c = -47 ∨ c = -37 ∨ c = -60 ∨ c = -61 ∨ c = -62) : stV env c (y :: x :: st) = jnV (-c) x y :: st := by
  have h0 : ¬ 0 ≤ c := by rcases h with rfl | rfl | rfl | rfl | rfl | rfl | rfl | rfl <;> decide
  have h1 : c ≠ -1000 := by rcases h with rfl | rfl | rfl | rfl | rfl | rfl | rfl | rfl <;> decide
  unfold stV
  rw [if_neg h0, if_neg h1]
theorem dpV_pos {M : Nat} {x : Int32} {xs : Tx} {d e : Nat} (h : dpV M (x :: xs) d = some e) (hx : 0 ≤ x) : d < M ∧ dpV M xs (d + 1) = some e := by
  unfold dpV at h
  rw [if_pos hx] at h
  by_cases q : d < M
  · rw [if_pos q] at h
    exact ⟨q, h⟩
  · rw [if_neg q] at h
    cases h
theorem dpV_neg {M : Nat} {xs : Tx} {d e : Nat} (h : dpV M (-1000 :: xs) d = some e) : 1 ≤ d ∧ dpV M xs d = some e := by
  unfold dpV at h
  rw [if_neg (by decide), if_pos rfl] at h
  by_cases q : 1 ≤ d
  · rw [if_pos q] at h
    exact ⟨q, h⟩
  · rw [if_neg q] at h
    cases h
theorem dpV_bin {M : Nat} {c : Int32} {xs : Tx} {d e : Nat} (h : dpV M (c :: xs) d = some e) (hc : c = -43 ∨ c = -45 ∨ c = -42 ∨ c = -47 ∨ c = -37 ∨ c = -60 ∨ c = -61 ∨ c = -62) : 2 ≤ d ∧ dpV M xs (d - 1) = some e := by
  have h0 : ¬ 0 ≤ c := by rcases hc with rfl | rfl | rfl | rfl | rfl | rfl | rfl | rfl <;> decide
  have h1 : c ≠ -1000 := by rcases hc with rfl | rfl | rfl | rfl | rfl | rfl | rfl | rfl <;> decide
  unfold dpV at h
  rw [if_neg h0, if_neg h1] at h
  by_cases q : 2 ≤ d
  · rw [if_pos q] at h
    exact ⟨q, h⟩
  · rw [if_neg q] at h
    cases h
theorem give_loop {d : Nat} {D : DY} {Q : Option PV → PM → Prop} {f la n nv ca sa : Nat} {c : Tx} {env : Nat → Int32} (hk : ∀ I, pKd (mm I D) f = 4) (hr0 : ∀ I, pR (mm I D) f 0 = some ca) (hr1 : ∀ I, pR (mm I D) f 1 = some sa)
    (hkc : ∀ I, pKd (mm I D) ca = 20) (hlc : ∀ I, pLn (mm I D) ca = c.length) (hks : ∀ I, pKd (mm I D) sa = 20) (hls : ∀ I, pLn (mm I D) sa = 32) (hcs : ca ≠ sa) (hlas : la ≠ sa) (hc : c.length ≤ 160)
    (hla : ∀ I, pKd (mm I D) la = 20) (hnl : ∀ I, pLn (mm I D) la = n) (hn : nv ≤ n ∧ n ≤ 1000) : ∀ (xs pre st : Tx) (I : IM) (w : PV), c = pre ++ xs → dpV 32 xs st.length = some 1 → st.length ≤ 32 → (∀ x ∈ xs, okE nv x) →
      (∀ k, k < c.length → I ca k = c.getD k 0) → (∀ j, j < nv → I la j = env j) → SK I sa st → (∀ I2, (∀ a k, a ≠ sa → I2 a k = I a k) → Q (some (vI ((evV env xs st).headD 0))) (mm I2 D)) →
      Wp GG (d + 1) 83 4 [vR (some f), vR (some la), vI (z32 (st.length : Int)), vI (z32 (pre.length : Int)), w] [] (mm I D) Q := by
  intro xs
  induction xs with
  | nil =>
    intro pre st I w hp hd hst hok hca hle hS k
    have hl : pre.length = c.length := by rw [hp, List.append_nil]
    have h1 : st.length = 1 := by
      unfold dpV at hd
      exact Option.some.inj hd
    refine s_Formula_give_4 _ _ _ _ _ (tsP_i (hk _) (onR_i (hr0 _) (tsP_i (by rw [hkc]; omega) ?_)))
    rw [hlc, ofNat_z, hl, h1]
    refine brP_i (fun _ => brP_i (fun q => ?_) (fun _ => tsP_i (hk _) (onR_i (hr1 _) (tsP_i (hks _) (tsP_i ?_ ?_))))) (fun q => ?_)
    · exact absurd q (by decide)
    · rw [hls]
      exact inB_n (k := 0) (by omega) (by omega)
    · have e : I sa 0 = (evV env [] st).headD 0 := by
        rw [hS 0 (by omega), h1]
        cases st <;> rfl
      rw [e]
      exact k I (fun _ _ _ => rfl)
    · exact absurd (Int32.le_refl _) q
  | cons x xs ih =>
    intro pre st I w hp hd hst hok hca hle hS k
    have hl : pre.length < c.length := by rw [hp, List.length_append, List.length_cons]; omega
    have hx : I ca (ixN (z32 (pre.length : Int))) = x := by
      rw [ix_n (by omega), hca _ hl, hp, List.getD_eq_getElem?_getD, List.getElem?_append_right (Nat.le_refl _), Nat.sub_self]
      rfl
    have hp2 : c = (pre ++ [x]) ++ xs := by rw [hp, List.append_assoc]; rfl
    have hl2 : (pre ++ [x]).length = pre.length + 1 := by rw [List.length_append, List.length_singleton]
    have hnext : ∀ (v : Int32) (s2 : Tx) (w : PV), stV env x st = v :: s2 → dpV 32 xs (v :: s2).length = some 1 → (v :: s2).length ≤ 32 → SK I sa s2 →
        Wp GG (d + 1) 83 4 [vR (some f), vR (some la), vI (z32 ((v :: s2).length : Int)), vI (z32 ((pre.length + 1 : Nat) : Int)), w] [] (mm (up2 I sa s2.length v) D) Q := by
      intro v s2 w he h1 h2 h3
      have := ih (pre ++ [x]) (v :: s2) (up2 I sa s2.length v) w hp2 h1 h2 (fun y hy => hok y (List.mem_cons_of_mem _ hy)) (fun q hq => by rw [up2_ne hcs]; exact hca q hq) (fun j hj => by rw [up2_ne hlas]; exact hle j hj) (h3.push v) (fun I2 hf => by
        have e : evV env xs (v :: s2) = evV env (x :: xs) st := by
          unfold evV
          rw [List.foldl_cons, he]
        rw [e]
        exact k I2 (fun a q ha => (hf a q ha).trans (up2_ne ha)))
      rwa [hl2] at this
    refine s_Formula_give_4 _ _ _ _ _ (tsP_i (hk _) (onR_i (hr0 _) (tsP_i (by rw [hkc]; omega) ?_)))
    rw [hlc, ofNat_z]
    refine (brP_f (by rw [z32_le] <;> omega)).mpr (tsP_i (hk _) (onR_i (hr0 _) (tsP_i (hkc _) (tsP_i (by rw [hlc]; exact inB_n hl (by omega)) ?_))))
    rw [hx, z32_s]
    rcases okE_cases (hok x List.mem_cons_self) with ⟨v, v1, v2, rfl⟩ | ⟨j, j1, rfl⟩ | rfl | hc2
    · obtain ⟨q1, q2⟩ := dpV_pos hd (by rw [z32_0, z32_le] <;> omega)
      refine (brP_f (by rw [z32_0, z32_lt] <;> omega)).mpr (tsP_i (hk _) (onR_i (hr1 _) (tsP_i (by rw [hks]; omega) ?_)))
      rw [hls, ofNat_z]
      refine (brP_t (by rw [z32_lt] <;> omega)).mpr (tsP_i (hk _) ((brP_f (by show ¬ z32 10000 ≤ _; rw [z32_le] <;> omega)).mpr (onR_i (hr1 _) (tsP_i (hks _) (tsP_i (by rw [hls]; exact inB_n q1 (by omega)) ?_)))))
      rw [z32_s, ix_n (by omega)]
      exact hnext (z32 v) st _ (stV_num ⟨v1, v2⟩) q2 (by rw [List.length_cons]; omega) hS
    · obtain ⟨q1, q2⟩ := dpV_pos hd (by rw [z32_0, z32_le] <;> omega)
      refine (brP_f (by rw [z32_0, z32_lt] <;> omega)).mpr (tsP_i (hk _) (onR_i (hr1 _) (tsP_i (by rw [hks]; omega) ?_)))
      rw [hls, ofNat_z]
      refine (brP_t (by rw [z32_lt] <;> omega)).mpr (tsP_i (hk _) ((brP_t (by show z32 10000 ≤ _; rw [z32_le] <;> omega)).mpr ?_))
      have e : z32 (10000 + (j : Int)) - 10000 = z32 (j : Int) := by
        show _ - z32 10000 = _
        rw [z32_sub]
        congr 1
        omega
      rw [e, e_letterOf (hla _) (hnl _) (show j < n by omega) hn.2]
      refine onR_i (hr1 _) (tsP_i (hks _) (tsP_i (by rw [hls]; exact inB_n q1 (by omega)) ?_))
      rw [z32_s, ix_n (by omega), hle j j1]
      exact hnext (env j) st _ (stV_let (by omega)) q2 (by rw [List.length_cons]; omega) hS
    · obtain ⟨q1, q2⟩ := dpV_neg hd
      obtain ⟨y, s2, rfl⟩ : ∃ y s2, st = y :: s2 := by
        cases st with
        | nil => exact absurd q1 (by decide)
        | cons y s2 => exact ⟨y, s2, rfl⟩
      have hln : (y :: s2).length = s2.length + 1 := rfl
      have e1 : z32 (((y :: s2).length : Nat) : Int) - 1 = z32 (s2.length : Int) := by
        show _ - z32 1 = _
        rw [z32_sub, hln]
        congr 1
        omega
      refine (brP_t (by decide)).mpr ((brP_f (by decide)).mpr ((brP_f (by show ¬ _ < z32 1; rw [z32_lt] <;> omega)).mpr (tsP_i (hk _) (onR_i (hr1 _) (tsP_i (by rw [hks]; omega) ?_)))))
      rw [hls, ofNat_z, e1]
      have hb : inB (z32 (s2.length : Int)) 32 := inB_n (by omega) (by omega)
      refine (brP_t (by rw [z32_le] <;> omega)).mpr (tsP_i (hk _) (tsP_i (hk _) (onR_i (hr1 _) (tsP_i (hks _) (tsP_i (by rw [hls]; exact hb) (onR_i (hr1 _) (tsP_i (hks _) (tsP_i (by rw [hls]; exact hb) ?_))))))))
      rw [ix_n (by omega), hS.top]
      exact hnext (-y) s2 _ stV_neg q2 hst hS.pop
    · obtain ⟨q1, q2⟩ := dpV_bin hd hc2
      obtain ⟨y, z, s2, rfl⟩ : ∃ y z s2, st = y :: z :: s2 := by
        rcases st with _ | ⟨y, _ | ⟨z, s2⟩⟩
        · exact absurd q1 (by decide)
        · exact absurd q1 (by simp)
        · exact ⟨y, z, s2, rfl⟩
      have hln : (y :: z :: s2).length = s2.length + 2 := rfl
      have e1 : z32 (((y :: z :: s2).length : Nat) : Int) + -1 = z32 ((s2.length + 1 : Nat) : Int) := by
        show _ + z32 (-1) = _
        rw [z32_add, hln]
        congr 1
        omega
      have e2 : z32 ((s2.length + 1 : Nat) : Int) - 1 = z32 (s2.length : Int) := by
        show _ - z32 1 = _
        rw [z32_sub]
        congr 1
        omega
      have h0 : x < 0 := by rcases hc2 with rfl | rfl | rfl | rfl | rfl | rfl | rfl | rfl <;> decide
      have h1 : ¬ x = -1000 := by rcases hc2 with rfl | rfl | rfl | rfl | rfl | rfl | rfl | rfl <;> decide
      refine (brP_t h0).mpr ((brP_t h1).mpr ((brP_f (by show ¬ _ < z32 2; rw [z32_lt] <;> omega)).mpr (tsP_i (hk _) (onR_i (hr1 _) (tsP_i (by rw [hks]; omega) ?_)))))
      rw [hls, ofNat_z, e1, e2]
      have hb : inB (z32 (s2.length : Int)) 32 := inB_n (by omega) (by omega)
      have hb2 : inB (z32 ((s2.length + 1 : Nat) : Int)) 32 := inB_n (by omega) (by omega)
      refine (brP_t (by rw [z32_le] <;> omega)).mpr (tsP_i (hk _) (tsP_i (hk _) (onR_i (hr1 _) (tsP_i (hks _) (tsP_i (by rw [hls]; exact hb) (tsP_i (hk _) (onR_i (hr1 _) (tsP_i (hks _) (tsP_i (by rw [hls]; exact hb2) ?_)))))))))
      rw [e_join hc2]
      refine onR_i (hr1 _) (tsP_i (hks _) (tsP_i (by rw [hls]; exact hb) ?_))
      rw [ix_n (n := s2.length) (by omega), ix_n (n := s2.length + 1) (by omega), hS.pop.top, show s2.length + 1 = (z :: s2).length from rfl, hS.top]
      exact hnext _ s2 _ (stV_bin hc2) q2 (by rw [List.length_cons]; omega) hS.pop.pop
theorem c_give {d : Nat} {I : IM} {D : DY} {K : Int32 → IM → Prop} {f la n nv : Nat} {c : Tx} {env : Nat → Int32} (hF : isF I D f c) (hw : cWF nv c) (hla : la < 159) (hkl : kdT la = 20) (hnl : lnT la = n) (hn : nv ≤ n ∧ n ≤ 1000) (h0 : 0 < la) (he : ∀ j, j < nv → I la j = env j)
    (k : ∀ I2, GF D I I2 → K (valV env c) I2) : CI (d + 1) 83 [vR (some f), vR (some la)] (mm I D) K := by
  obtain ⟨f1, f2, f3, f4, ca, sa, r1, r2, ⟨a1, a2, a3, a4, a5⟩, ⟨b1, b2, b3, b4, b5⟩, hc⟩ := hF
  refine s_Formula_give _ _ ?_
  have hf : ∀ I : IM, isFn f 0 = false := fun _ => isFn_new f1
  refine give_loop (f := f) (la := la) (n := n) (nv := nv) (ca := ca) (sa := sa) (c := c) (env := env) (fun I => (mmK f1).trans f3) (fun I => (mmR (isFn_new f1)).trans r1) (fun I => (mmR (isFn_new f1)).trans r2)
    (fun I => (mmK a1).trans a3) (fun I => (mmN a1).trans a4) (fun I => (mmK b1).trans b3) (fun I => (mmN b1).trans b4) (fun e => by rw [e] at a5; omega) (by omega) f4
    (fun I => (kd_s hla).trans hkl) (fun I => (ln_s hla h0).trans hnl) hn c [] [] I _ rfl hw.2.1 (by decide) hw.1 hc he (fun j hj => absurd hj (Nat.not_lt_zero j)) (fun I2 h2 => qI_i (k I2 (fun a q ha => h2 a q (fun e => ?_))))
  rcases ha with ha | ha
  · omega
  · rw [e] at ha
    exact ha b5
