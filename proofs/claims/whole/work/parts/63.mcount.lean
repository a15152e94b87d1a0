/-! The model's calls: tallies, counts. -/
section
variable {d : Nat} {I : IM} {D : DY} {τ : ST}
theorem mtally_loop {K : Int32 → IM → Prop} {C : CF} {L : List EV} {I0 : IM} {kd q w : Nat} {p2 : Int32} (hE : EVM I0 L) (hC : CSM I0 C) (ho : ∀ e ∈ L, okEv C e) (hkd : kd < 9) (hw : w ≤ 2) (hq : q ≤ L.length) :
    ∀ (g i : Nat) (J : IM) (n : Nat) (sm mo : Int32), i + g = q → FoF I0 J → n ≤ i → (∀ I2, FoF I0 I2 → K (tsel w (tal C kd ((L.drop i).take g) n sm mo)) I2) →
    Wp GG (d + 3) 230 59 [vR (some 106), vI (z32 (kd : Int)), vI p2, vI (z32 (q : Int)), vI (z32 (w : Int)), vI (z32 (n : Int)), vI sm, vI mo, vI (z32 ((i + 1 : Nat) : Int))] [] (mm J D) (qI (mm I0 D) K) := by
  have h240 := hE.2.1
  intro g
  induction g with
  | zero =>
    intro i J n sm mo hi f hn k
    have k : K (tsel w (n, sm, mo)) J := k J f
    refine s_M_tally_59 _ _ _ _ _ _ _ _ ((brP_t (by rw [z32_lt] <;> omega)).mpr ?_)
    unfold tsel at k
    rcases (by omega : w = 0 ∨ w = 1 ∨ w = 2) with rfl | rfl | rfl
    · exact (brP_f (by decide)).mpr ⟨_, _, rfl, rfl, k⟩
    · exact (brP_t (by decide)).mpr ((brP_f (by decide)).mpr ⟨_, _, rfl, rfl, k⟩)
    · exact (brP_t (by decide)).mpr ((brP_t (by decide)).mpr ⟨_, _, rfl, rfl, k⟩)
  | succ g ih =>
    intro i J n sm mo hi f hn k
    obtain ⟨e, he⟩ : ∃ e, L[i]? = some e := ⟨L[i]'(by omega), List.getElem?_eq_getElem (by omega)⟩
    have hm := List.mem_of_getElem? he
    have ed : (L.drop i).take (g + 1) = e :: (L.drop (i + 1)).take g := by
      rw [List.drop_eq_getElem_cons (by omega), List.take_succ_cons]
      congr 1
      rw [List.getElem?_eq_getElem (by omega)] at he
      exact Option.some.inj he
    rw [ed] at k
    have o := ho e hm
    have o2 := o.2.1
    have hEJ := hE.st f.s.t
    have c2 : J 115 (i + 1) = z32 (eK e : Int) := hEJ.2.2.1 i e he 2 (by omega)
    refine s_M_tally_59 _ _ _ _ _ _ _ _ ((brP_f (by rw [z32_lt] <;> omega)).mpr (tsP_i (inB_n (by omega) (by omega)) ?_))
    rw [ix_n (by omega), c2, z32_s (i + 1)]
    have k : ∀ I2, FoF I0 I2 → K (tsel w (if eK e = kd then tal C kd ((L.drop (i + 1)).take g) (n + 1) (sm + (rdE C e).1) (if n = 0 then (rdE C e).1 else if mo < (rdE C e).1 then (rdE C e).1 else mo) else tal C kd ((L.drop (i + 1)).take g) n sm mo)) I2 := k
    refine brP_i (fun c => ?_) (fun c => ?_)
    · rw [z32_inj (by omega) (by omega) (by omega) (by omega)] at c
      rw [if_pos (by omega)] at k
      refine c_mread (d := d) hEJ (hC.st f.s.t) he o (fun I2 f2 a2 b2 => ?_)
      rw [a2]
      refine brP_i (fun c0 => ?_) (fun c0 => ?_)
      · rw [if_neg (fun q => c0 (by rw [q]; rfl))] at k
        rw [e_max, a2, z32_s]
        exact ih (i + 1) I2 (n + 1) _ _ (by omega) (f.tr f2.fo) (by omega) k
      · have c0 : z32 (n : Int) = z32 0 := Classical.not_not.mp c0
        rw [z32_inj (by omega) (by omega) (by omega) (by omega)] at c0
        rw [if_pos (by omega)] at k
        rw [z32_s]
        exact ih (i + 1) I2 (n + 1) _ _ (by omega) (f.tr f2.fo) (by omega) k
    · rw [if_neg (fun q => c (by rw [q]))] at k
      exact ih (i + 1) J n sm mo (by omega) f (by omega) k
theorem q_tally {K : Int32 → IM → Prop} (h : RM τ I) (wf : WF (tS τ)) (kd p q w : Int32) (k : ∀ I2, FrC I I2 → RM τ I2 → K (S_tally τ kd p q w) I2) : CI (d + 100) 230 [vR (some 106), vI kd, vI p, vI q, vI w] (mm I D) K := by
  have h240 := h.E.2.1
  unfold S_tally at k
  refine s_M_tally _ _ _ _ ?_
  rw [e_in]
  refine br0 (fun hk => ?_) (fun hk => qI_i ?_)
  · have hk : 0 ≤ kd ∧ kd ≤ 8 := hk
    rw [e_mpos h.E]
    refine br0 (fun hp => ?_) (fun hp => qI_i ?_)
    · rw [e_mpos h.E]
      refine br0 (fun hq => ?_) (fun hq => qI_i ?_)
      · refine brP_i (fun c => qI_i ?_) (fun c => ?_)
        · rw [if_neg (fun q => q.2.1 c)] at k
          exact k I FrC.rf h
        · rw [e_in]
          refine br1 (fun hw => ?_) (fun hw => qI_i ?_)
          · have hw : 0 ≤ w ∧ w ≤ 2 := hw
            rw [if_pos ⟨⟨hk, hw⟩, c, hp, hq⟩] at k
            obtain ⟨kn, rfl, hkn⟩ := rng (m := 8) (by omega) hk
            obtain ⟨wn, rfl, hwn⟩ := rng (m := 2) (by omega) hw
            obtain ⟨pn, rfl, hpn⟩ := rng1 (by omega) hp
            obtain ⟨qn, rfl, hqn⟩ := rng1 (by omega) hq
            rw [z32_lt (by omega) (by omega) (by omega) (by omega)] at c
            rw [aN_z (by omega), aN_z (by omega), aN_z (by omega), aN_z (by omega), Nat.add_sub_cancel] at k
            exact mtally_loop (d := d + 97) (I0 := I) (n := 0) h.E h.C wf.1 (by omega) hwn hqn (qn + 1 - pn) pn I 0 (-2000000000) (by omega) FoF.rf (Nat.zero_le _) (fun I2 f => k I2 f.s.c (h.sf f.s))
          · rw [if_neg (fun q => hw q.1.2)] at k
            exact k I FrC.rf h
      · rw [if_neg (fun c => hq c.2.2.2)] at k
        exact k I FrC.rf h
    · rw [if_neg (fun c => hp c.2.2.1)] at k
      exact k I FrC.rf h
  · rw [if_neg (fun c => hk c.1.1)] at k
    exact k I FrC.rf h
theorem cnt65 {K : Int32 → IM → Prop} {L : List EV} {p1 : Int32} (h : EVM I L) : ∀ (g i n : Nat), i + g = 8 → K (z32 ((n + cnt (fun s => decide (0 < vrS L s)) (List.range' i g) : Nat) : Int)) I → Wp GG d 267 65 [vR (some 106), vI p1, vI (z32 (n : Int)), vI (z32 (i : Int))] [] (mm I D) (qI (mm I D) K) := by
  have h240 := h.2.1
  intro g
  induction g with
  | zero =>
    intro i n hi k
    obtain rfl : i = 8 := by omega
    exact s_M_count_65 _ _ _ ((brP_t (by decide)).mpr (qI_i k))
  | succ g ih =>
    intro i n hi k
    have hvr := vrS_le (L := L) (s := i)
    refine s_M_count_65 _ _ _ ((brP_f (by show ¬ z32 8 ≤ _; rw [z32_le] <;> omega)).mpr (tsP_i (inB_n (by omega) (by omega)) ?_))
    rw [ix_n (by omega), h.2.2.2 i (by omega), z32_s, z32_s]
    have k : K (z32 ((n + ((bif decide (0 < vrS L i) then 1 else 0) + cnt (fun s => decide (0 < vrS L s)) (List.range' (i + 1) g)) : Nat) : Int)) I := k
    refine brP_i (fun c => ih (i + 1) n (by omega) ?_) (fun c => ih (i + 1) (n + 1) (by omega) ?_)
    · rw [z32_0, z32_le (by omega) (by omega) (by omega) (by omega)] at c
      rw [decide_eq_false (by omega), cond_false, Nat.zero_add] at k
      exact k
    · rw [z32_0, z32_le (by omega) (by omega) (by omega) (by omega)] at c
      rw [decide_eq_true (by omega), cond_true, ← Nat.add_assoc] at k
      exact k
theorem cnt93 {K : Int32 → IM → Prop} {A : Nat → Int32} {p1 : Int32} (h : ∀ k, k < 1000 → I 126 k = A k) : ∀ (g i n : Nat), i + g = 1000 → K (z32 ((n + cnt (fun s => decide (0 < A s)) (List.range' i g) : Nat) : Int)) I → Wp GG d 267 93 [vR (some 106), vI p1, vI (z32 (n : Int)), vI (z32 (i : Int))] [] (mm I D) (qI (mm I D) K) := by
  intro g
  induction g with
  | zero =>
    intro i n hi k
    obtain rfl : i = 1000 := by omega
    exact s_M_count_93 _ _ _ ((brP_t (by decide)).mpr (qI_i k))
  | succ g ih =>
    intro i n hi k
    refine s_M_count_93 _ _ _ ((brP_f (by show ¬ z32 1000 ≤ _; rw [z32_le] <;> omega)).mpr (tsP_i (inB_n (by omega) (by omega)) ?_))
    rw [ix_n (by omega), h i (by omega), z32_s, z32_s]
    have k : K (z32 ((n + ((bif decide (0 < A i) then 1 else 0) + cnt (fun s => decide (0 < A s)) (List.range' (i + 1) g)) : Nat) : Int)) I := k
    refine brP_i (fun c => ih (i + 1) n (by omega) ?_) (fun c => ih (i + 1) (n + 1) (by omega) ?_)
    · rw [decide_eq_false (Int32.not_lt.mpr c), cond_false, Nat.zero_add] at k
      exact k
    · rw [decide_eq_true (Int32.not_le.mp c), cond_true, ← Nat.add_assoc] at k
      exact k
theorem cnt122 {K : Int32 → IM → Prop} {S : SN} {p1 : Int32} (h : SNM I S) : ∀ (g i n : Nat), i + g = 8 → K (z32 ((n + sumN (fun s => (S s).length) (List.range' i g) : Nat) : Int)) I → Wp GG d 267 122 [vR (some 106), vI p1, vI (z32 (n : Int)), vI (z32 (i : Int))] [] (mm I D) (qI (mm I D) K) := by
  intro g
  induction g with
  | zero =>
    intro i n hi k
    obtain rfl : i = 8 := by omega
    exact s_M_count_122 _ _ _ ((brP_t (by decide)).mpr (qI_i k))
  | succ g ih =>
    intro i n hi k
    refine s_M_count_122 _ _ _ ((brP_f (by show ¬ z32 8 ≤ _; rw [z32_le] <;> omega)).mpr (tsP_i (inB_n (by omega) (by omega)) ?_))
    rw [ix_n (by omega), (h i (by omega)).1, z32_s, addn]
    refine ih (i + 1) _ (by omega) ?_
    rw [Nat.add_assoc]
    exact k
theorem cnt147 {K : Int32 → IM → Prop} {P : Nat → Nat → Option PJ} {p1 : Int32} (h : RMP P I) : ∀ (g i n : Nat), i + g = 4 → K (z32 ((n + cnt (fun p => (P 0 p).isSome) (List.range' i g) : Nat) : Int)) I → Wp GG d 267 147 [vR (some 106), vI p1, vI (z32 (n : Int)), vI (z32 (i : Int))] [] (mm I D) (qI (mm I D) K) := by
  intro g
  induction g with
  | zero =>
    intro i n hi k
    obtain rfl : i = 4 := by omega
    exact s_M_count_147 _ _ _ ((brP_t (by decide)).mpr (qI_i k))
  | succ g ih =>
    intro i n hi k
    have hp := h.1 0 i (by omega) (by omega)
    refine s_M_count_147 _ _ _ ((brP_f (by show ¬ z32 4 ≤ _; rw [z32_le] <;> omega)).mpr ?_)
    rw [mul2]
    refine tsP_i (inB_n (by omega) (by omega)) ?_
    rw [ix_n (by omega), z32_s]
    have k : K (z32 ((n + ((bif (P 0 i).isSome then 1 else 0) + cnt (fun p => (P 0 p).isSome) (List.range' (i + 1) g)) : Nat) : Int)) I := k
    rw [Nat.add_zero] at hp
    cases hc : P 0 i with
    | none =>
      rw [hc] at hp k
      have hp : I 135 (2 * i) = 0 := hp
      rw [hp, show z32 (n : Int) + 0 = z32 ((n + 0 : Nat) : Int) from (z32_add _ 0).trans (by congr 1)]
      refine ih (i + 1) _ (by omega) ?_
      rw [Option.isSome_none, cond_false, Nat.zero_add] at k
      exact k
    | some x =>
      rw [hc] at hp k
      rw [hp.1, z32_s]
      refine ih (i + 1) _ (by omega) ?_
      rw [Option.isSome_some, cond_true, ← Nat.add_assoc] at k
      exact k
theorem q_count {K : Int32 → IM → Prop} (h : RM τ I) (wf : WF (tS τ)) (w : Int32) (k : ∀ I2, FrC I I2 → RM τ I2 → K (S_count τ w) I2) : CI (d + 100) 267 [vR (some 106), vI w] (mm I D) K := by
  have k := k I FrC.rf h
  unfold S_count at k
  refine s_M_count _ ?_
  refine brP_i (fun c => qI_i ?_) (fun c0 => ?_)
  · rw [if_pos c] at k
    rw [h.E.1]
    exact k
  rw [if_neg c0] at k
  refine brP_i (fun c => qI_i ?_) (fun c1 => ?_)
  · rw [if_pos (show w = 1 from c)] at k
    rw [h.C.1]
    exact k
  rw [if_neg (show ¬ w = 1 from c1)] at k
  refine brP_i (fun c => qI_i ?_) (fun c2 => ?_)
  · rw [if_pos (show w = 2 from c)] at k
    rw [h.1.1]
    exact k
  rw [if_neg (show ¬ w = 2 from c2)] at k
  refine brP_i (fun c => ?_) (fun c3 => ?_)
  · rw [if_pos (show w = 3 from c)] at k
    refine cnt65 h.E 8 0 0 rfl ?_
    rw [Nat.zero_add]
    exact k
  rw [if_neg (show ¬ w = 3 from c3)] at k
  refine brP_i (fun c => ?_) (fun c4 => ?_)
  · rw [if_pos (show w = 4 from c)] at k
    refine cnt93 h.A 999 1 0 rfl ?_
    have e0 : cnt (fun s => decide (0 < zA (tS τ) s)) (List.range' 0 1000) = cnt (fun s => decide (0 < zA (tS τ) s)) (List.range' 1 999) := by
      show (bif decide (0 < zA (tS τ) 0) then 1 else 0) + cnt (fun s => decide (0 < zA (tS τ) s)) (List.range' 1 999) = _
      rw [wf.2.2.2.1, decide_eq_false (by decide), cond_false, Nat.zero_add]
    rw [e0] at k
    rw [Nat.zero_add]
    exact k
  rw [if_neg (show ¬ w = 4 from c4)] at k
  refine brP_i (fun c => ?_) (fun c5 => ?_)
  · rw [if_pos (show w = 5 from c)] at k
    refine cnt122 h.N 8 0 0 rfl ?_
    rw [Nat.zero_add]
    exact k
  rw [if_neg (show ¬ w = 5 from c5)] at k
  refine brP_i (fun c => ?_) (fun c6 => ?_)
  · rw [if_pos (show w = 6 from c)] at k
    refine cnt147 h.P 4 0 0 rfl ?_
    rw [Nat.zero_add]
    exact k
  rw [if_neg (show ¬ w = 6 from c6)] at k
  refine brP_i (fun c => qI_i ?_) (fun c7 => qI_i ?_)
  · rw [if_pos (show w = 7 from c)] at k
    rw [h.V]
    exact k
  · rw [if_neg (show ¬ w = 7 from c7)] at k
    exact k
end
